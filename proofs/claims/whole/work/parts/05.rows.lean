/-! what stays: nest mates, the static array, the texts; contracts; the kit's rows over the graph -/
abbrev zcl : List vw_C := [(RX0, TX0, 3), (RX1, TX1, 7), (RX2, TX2, 9), (RX3, TX3, 3), (RX4, TX4, 11), (RX5, TX5, 9), (RX6, TX6, 51)]
def zNf : List (String × Nat × String × String × String × String) := [("GlassesOfRue$Text", 21, "GlassesOfRue$Tape", "code", "[I", "GlassesOfRue"), ("GlassesOfRue$Text", 24, "GlassesOfRue$Tape", "ends", "[I", "GlassesOfRue"), ("GlassesOfRue", 131, "GlassesOfRue$Tape", "size", "I", "GlassesOfRue"), ("GlassesOfRue", 110, "GlassesOfRue$World", "kind", "[I", "GlassesOfRue"), ("GlassesOfRue", 89, "GlassesOfRue$World", "number", "[I", "GlassesOfRue"), ("GlassesOfRue", 93, "GlassesOfRue$World", "rue", "[I", "GlassesOfRue"), ("GlassesOfRue", 96, "GlassesOfRue$World", "had", "[I", "GlassesOfRue"), ("GlassesOfRue", 191, "GlassesOfRue$World", "size", "I", "GlassesOfRue"), ("GlassesOfRue", 82, "GlassesOfRue$World", "day", "I", "GlassesOfRue"), ("GlassesOfRue", 86, "GlassesOfRue$World", "wet", "I", "GlassesOfRue"), ("GlassesOfRue", 138, "GlassesOfRue$World", "rule", "I", "GlassesOfRue"), ("GlassesOfRue", 242, "GlassesOfRue$Sheet", "cells", "[I", "GlassesOfRue"), ("GlassesOfRue", 202, "GlassesOfRue$Sheet", "sort", "I", "GlassesOfRue"), ("GlassesOfRue", 205, "GlassesOfRue$Sheet", "size", "I", "GlassesOfRue")]
def zNm : List (String × Nat × MethodName × String) := [("GlassesOfRue", 17, yX2_init, "GlassesOfRue"), ("GlassesOfRue", 24, yX1_init, "GlassesOfRue"), ("GlassesOfRue", 50, yX3_init, "GlassesOfRue"), ("GlassesOfRue", 51, yX0_init, "GlassesOfRue"), ("GlassesOfRue$World", 47, yX5_within, "GlassesOfRue"), ("GlassesOfRue$World", 55, yX5_bounded, "GlassesOfRue")]
theorem zNf_t : ∀ q ∈ zNf, Cond.fieldLinkNest q.1 q.2.1 q.2.2.1 q.2.2.2.1 q.2.2.2.2.1 q.2.2.2.2.2 ∈ lw_tbl := by decide +kernel
theorem zNm_t : ∀ q ∈ zNm, Cond.methodLinkNest q.1 q.2.1 q.2.2.1 q.2.2.2 ∈ lw_tbl := by decide +kernel
/-- the static array's values -/
def zPL (j : Nat) : Int64 := [10000000000, 1000000000, 100000000, 10000000, 1000000, 100000, 10000, 1000, 100].getD j 0
/-- the texts: the first rule, the words, the signs -/
def zSw : List (String × Nat × String) := [("GlassesOfRue", 52, "runs 1 + rue ; clogs 0 ; rues 1 ;"), ("GlassesOfRue$Tape", 92, "rue number wet day had most runs clogs rues or and not "), ("GlassesOfRue$Tape", 80, "();+-*<=")]
def zSb : List (List Int32) := zSw.map fun q => q.2.2.toList.map fun c => Int32.ofNat c.toNat
def zSl : List Nat := [33, 55, 8]
def zSt (G : zGr) (A : Nat → Prop) (U : State) (H : Heap) : Prop :=
  ((∀ q ∈ zNf, va_Nw (.fieldLinkNest q.1 q.2.1 q.2.2.1 q.2.2.2.1 q.2.2.2.2.1 q.2.2.2.2.2) U) ∧ ∀ q ∈ zNm, va_Nw (.methodLinkNest q.1 q.2.1 q.2.2.1 q.2.2.2) U) ∧
  (va_Z "GlassesOfRue$Table" "PLACES" "[J" (.ref (G.2.2.2 0)) A U H ∧ va_T .long (G.2.2.2 0) 9 (fun j => .long (zPL j)) A U H) ∧
  (va_Z "java/lang/String" "COMPACT_STRINGS" "Z" (.int 1) A U H ∧ va_Zq "jdk/internal/util/Preconditions" "SIOOBE_FORMATTER" "Ljava/util/function/BiFunction;" A U H ∧ va_AO "GlassesOfRue$Text" U ∧ va_AO "GlassesOfRue$Sheet" U) ∧
  (∀ i q, zSw[i]? = some q → vk_R q.1 q.2.1 q.2.2 (G.2.2.2 (1 + i)) U) ∧ vk_S 3 zSl zSb (fun i => G.2.2.2 (1 + i)) (fun i => G.2.2.2 (4 + i)) A U H
theorem zSt_keep {G : zGr} {A A' : Nat → Prop} {s U : State} {H : Heap} {locs : List Loc} (h : zSt G A s s.heap) (hS : va_S A s.heap H locs) (hA : ∀ q, A' q → A q) (hU : U.heap = H) (hW : s.WarmedH U.vm) : zSt G A' U U.heap := by
  obtain ⟨⟨h1, h2⟩, ⟨h3, h4⟩, ⟨h5, h6, h9, h10⟩, h7, h8⟩ := h
  subst hU
  exact ⟨⟨fun q hq => va_Nw.warmF hW (h1 q hq), fun q hq => va_Nw.warmM hW (h2 q hq)⟩, ⟨((h3.kept hS.2.1).moved hW.alike).narrow hA, ((h4.kept hS.2.1).moved hW.alike).narrow hA⟩, ⟨((h5.kept hS.2.1).moved hW.alike).narrow hA, ((h6.kept hS.2.1).moved hW.alike).narrow hA, h9.moved hW.alike, h10.moved hW.alike⟩, fun i q hq => vk_R.warm hW (h7 i q hq), ((h8.kept hS.2.1).moved hW.alike).narrow hA⟩
theorem zSt_blind {G : zGr} {A : Nat → Prop} {U : State} {H : Heap} (g : JFrame) (mk : MethodId) (a : Array Value) (h : zSt G A U H) : zSt G A (U.calling g mk a) H := by
  obtain ⟨⟨h1, h2⟩, ⟨h3, h4⟩, ⟨h5, h6, h9, h10⟩, h7, h8⟩ := h
  have hv : U.vm = (U.calling g mk a).vm := rfl
  have ha : U.vm.Alike (U.calling g mk a).vm := Vm.Alike.refl U.vm
  exact ⟨⟨fun q hq => va_Nw.same rfl hv (h1 q hq), fun q hq => va_Nw.same rfl hv (h2 q hq)⟩, ⟨h3.moved ha, h4.moved ha⟩, ⟨h5.moved ha, h6.moved ha, h9.moved ha, h10.moved ha⟩, fun i q hq => vk_R.same hv.symm (h7 i q hq), h8.moved ha⟩
/-- a method's start -/
def zPre (G : zGr) (sh : Nat → zSh) (N : Nat) (av : List Value) (M : zM) (sz : Nat) : Array Value → State → Prop :=
  va_Pc av (fun U => U.heap.size = sz ∧ va_P G.1 zcl (zw G sh N M) U.heap ∧ va_K G.1 zcl (ztys G) U ∧ zSt G (zA G N sz) U U.heap)
theorem zPre_blind (G : zGr) (sh : Nat → zSh) (N : Nat) (av : List Value) (M : zM) (sz : Nat) : FrameBlind (zPre G sh N av M sz) := fun a U g mk q => by
  obtain ⟨q0, q1, q2, q3, q4⟩ := q
  exact ⟨q0, q1, q2, va_K.moved (u := U) (U := U.calling g mk a) (Vm.Alike.refl U.vm) q3, zSt_blind g mk a q4⟩
abbrev zEnd (G : zGr) (sh : Nat → zSh) (N : Nat) : zM → State → Prop := fun M' t => va_P G.1 zcl (zw G sh N M') t.heap
/-- contracts: at M the method ends with the answer and the numbers o -/
def zMi (l : Launch) (G : zGr) (sh : Nat → zSh) (N : Nat) (y : MethodName) (cc : ByteArray) (mL : Nat) (rt : Option FieldType) (fr lo : Nat) (av : List Value) (M : zM) (o : Int32 × zM) : Prop := ∀ sz : Nat,
  Met l y (.code y cc mL rt :: zT) { frames := fr, cells := 0, slots := 0, locals := lo } (zPre G sh N av M sz) (va_Qi (fun r M' => (r, M') = o) (zEnd G sh N) (zA G N sz)) 0 0 (zA G N sz)
def zMl (l : Launch) (G : zGr) (sh : Nat → zSh) (N : Nat) (y : MethodName) (cc : ByteArray) (mL : Nat) (rt : Option FieldType) (fr lo : Nat) (av : List Value) (M : zM) (o : Int64 × zM) : Prop := ∀ sz : Nat,
  Met l y (.code y cc mL rt :: zT) { frames := fr, cells := 0, slots := 0, locals := lo } (zPre G sh N av M sz) (va_Ql (fun r M' => (r, M') = o) (zEnd G sh N) (zA G N sz)) 0 0 (zA G N sz)
def zMv (l : Launch) (G : zGr) (sh : Nat → zSh) (N : Nat) (y : MethodName) (cc : ByteArray) (mL : Nat) (rt : Option FieldType) (fr lo : Nat) (av : List Value) (M : zM) (o : zM) : Prop := ∀ sz : Nat,
  Met l y (.code y cc mL rt :: zT) { frames := fr, cells := 0, slots := 0, locals := lo } (zPre G sh N av M sz) (va_Qv (fun M' => M' = o) (zEnd G sh N) (zA G N sz)) 0 0 (zA G N sz)
/-- what a walk stands on -/
def zCx (p : Program) (s : State) (m : MethodId) (args : Array Value) (meth : Method) (c : Code) (cc : ByteArray) (mL : Nat) (own : String) (rt : Option FieldType) (G : zGr) (N : Nat) : Prop :=
  p.tables.exec = Jvm.exec ∧ c.code = cc ∧ c.maxLocals = mL ∧ s.vm.findClass own = some m.cls ∧ (∀ w ∈ zT, w.before args s = true) ∧ meth.sig.returnType = rt ∧ meth.locks = false ∧ va_K G.1 zcl (ztys G) s ∧ zSt G (zA G N s.heap.size) s s.heap
theorem zOf {l : Launch} {G : zGr} {sh : Nat → zSh} {N : Nat} {y : MethodName} {cc : ByteArray} {mL : Nat} {rt : Option FieldType} {rm : Room} {av : List Value} {M : zM} {sz : Nat} {Qc : Array Value → State → Outcome → State → Prop} (hy : plainName y.cls = true) (hlen : (lg_sl av).length ≤ mL)
    (body : ∀ p e R Q s m args below meth c, R = rm → s.heap.size = sz → Q = MQ below Qc args s 0 0 (zA G N sz) → zCx p s m args meth c cc mL y.cls rt G N → va_P G.1 zcl (zw G sh N M) s.heap → va_S (zA G N s.heap.size) s.heap s.heap [] → ∀ ls, lv_has ls mL (lv_args 0 av) →
      W p l e R s m args below meth c s.heap [] 0 0 Q (F0 m 0 ls [])) :
    Met l y (.code y cc mL rt :: zT) rm (zPre G sh N av M sz) Qc 0 0 (zA G N sz) := by
  refine Met.ofW (cc := cc) (maxL := mL) (ret := rt) hy rfl ?_
  intro p e s m args below meth c s₁ B hml hv
  obtain ⟨rfl, hsz, hP, hK, hSt⟩ := hv
  subst hsz
  have hts := atoms_spec (ws := .code y cc mL rt :: zT) B.pre
  have hl := lv_entry av hlen
  rw [lg_entry_eq]
  exact body p e _ _ s m _ below meth c rfl rfl rfl ⟨B.exec, B.bytes, hml, findClass_of_methodNamed B.named, fun w hw => hts w (List.mem_cons_of_mem _ hw), B.returns, B.notSynchronized, hK, hSt⟩ hP va_S.rf _ hl
theorem zT_good {ws : List Cond} (h : ∀ w ∈ ws, w ∈ zT) : GoodIn zT ws := fun w hw => ⟨h w hw, good_of_word (List.all_eq_true.mp zT_all w (h w hw))⟩
theorem zT_code {w : Cond} (h : w ∈ zT) : ∀ x ∈ w :: zT, x ∈ zT := fun x hx => (List.mem_cons.mp hx).elim (fun e => e ▸ h) id
section ZROWS
variable {p : Program} {l : Launch} {e : Env} {R : Room} {s : State} {m : MethodId} {args : Array Value} {below : List Frame} {meth : Method} {c : Code} {H : Heap} {locs : List Loc} {cells slots : Nat} {Q : State → Prop}
variable {cc : ByteArray} {pc mL : Nat} {ls : Array Slot} {rest : List Value} {own : String} {rt : Option FieldType} {G : zGr} {sh : Nat → zSh} {N : Nat} {M : zM}
/-- a number out of an object -/
theorem zr_get (C0 : zCx p s m args meth c cc mL own rt G N) (hP : va_P G.1 zcl (zw G sh N M) H) (o : Nat) (ho : o < N) {ci : Nat} {fl : List (Option Nat)} (hsh : sh o = .inl (ci, fl)) (k : Nat) {C : String} {T : u_T} {n index : Nat} (hc : zcl[ci]? = some (C, T, n)) (hk : k < n) (hin : ∀ w ∈ u_ws C T n, w ∈ zT)
    (hlink : Cond.fieldLink own index (T k).1 (T k).2.1 (T k).2.2.1 ∈ zT) (hf : fl[k]? = some none) (hdg : decode cc pc = .ok (.getfield index, 3))
    (kk : W p l e R s m args below meth c H locs cells slots Q (F0 m (pc + 3) ls (.int (M.1 o k) :: rest))) : W p l e R s m args below meth c H locs cells slots Q (F0 m pc ls (.ref (G.2.2.1 o) :: rest)) := by
  obtain ⟨hx, hb, hml, hown, hts, hr, hlk, hK, hSt⟩ := C0
  have he := zw_get G sh M ho
  rw [hsh] at he
  exact va_get hx hb hts hin hown hK hP o he hc k hk (hts _ hlink) (fun _ h => h) (by have := zfl_i G.2.2.1 (M.1 o) fl 0 k hf; rwa [Nat.zero_add] at this) hdg kk
/-- a reference out of an object -/
theorem zr_getq (C0 : zCx p s m args meth c cc mL own rt G N) (hP : va_P G.1 zcl (zw G sh N M) H) (o : Nat) (ho : o < N) {ci : Nat} {fl : List (Option Nat)} (hsh : sh o = .inl (ci, fl)) (k j : Nat) {C : String} {T : u_T} {n index : Nat} (hc : zcl[ci]? = some (C, T, n)) (hk : k < n) (hin : ∀ w ∈ u_ws C T n, w ∈ zT)
    (hlink : Cond.fieldLink own index (T k).1 (T k).2.1 (T k).2.2.1 ∈ zT) (hf : fl[k]? = some (some j)) (hdg : decode cc pc = .ok (.getfield index, 3))
    (kk : W p l e R s m args below meth c H locs cells slots Q (F0 m (pc + 3) ls (.ref (G.2.2.1 j) :: rest))) : W p l e R s m args below meth c H locs cells slots Q (F0 m pc ls (.ref (G.2.2.1 o) :: rest)) := by
  obtain ⟨hx, hb, hml, hown, hts, hr, hlk, hK, hSt⟩ := C0
  have he := zw_get G sh M ho
  rw [hsh] at he
  exact va_get hx hb hts hin hown hK hP o he hc k hk (hts _ hlink) (fun _ h => h) (zfl_q G.2.2.1 (M.1 o) fl 0 k j hf) hdg kk
/-- the same of a nest mate -/
theorem zr_getN (C0 : zCx p s m args meth c cc mL own rt G N) (hP : va_P G.1 zcl (zw G sh N M) H) (o : Nat) (ho : o < N) {ci : Nat} {fl : List (Option Nat)} (hsh : sh o = .inl (ci, fl)) (k : Nat) {C : String} {T : u_T} {n index : Nat} (hc : zcl[ci]? = some (C, T, n)) (hk : k < n) (hin : ∀ w ∈ u_ws C T n, w ∈ zT)
    (i : Nat) (hlink : zNf[i]? = some (own, index, (T k).1, (T k).2.1, (T k).2.2.1, "GlassesOfRue")) (hf : fl[k]? = some none) (hdg : decode cc pc = .ok (.getfield index, 3))
    (kk : W p l e R s m args below meth c H locs cells slots Q (F0 m (pc + 3) ls (.int (M.1 o k) :: rest))) : W p l e R s m args below meth c H locs cells slots Q (F0 m pc ls (.ref (G.2.2.1 o) :: rest)) := by
  obtain ⟨hx, hb, hml, hown, hts, hr, hlk, hK, hSt⟩ := C0
  have he := zw_get G sh M ho
  rw [hsh] at he
  exact va_getN hx hb hts hin hown hK hP o he hc k hk (va_Nw.use rfl (hSt.1.1 _ (List.mem_of_getElem? hlink))) (fun _ h => h) (by have := zfl_i G.2.2.1 (M.1 o) fl 0 k hf; rwa [Nat.zero_add] at this) hdg kk
theorem zr_getqN (C0 : zCx p s m args meth c cc mL own rt G N) (hP : va_P G.1 zcl (zw G sh N M) H) (o : Nat) (ho : o < N) {ci : Nat} {fl : List (Option Nat)} (hsh : sh o = .inl (ci, fl)) (k j : Nat) {C : String} {T : u_T} {n index : Nat} (hc : zcl[ci]? = some (C, T, n)) (hk : k < n) (hin : ∀ w ∈ u_ws C T n, w ∈ zT)
    (i : Nat) (hlink : zNf[i]? = some (own, index, (T k).1, (T k).2.1, (T k).2.2.1, "GlassesOfRue")) (hf : fl[k]? = some (some j)) (hdg : decode cc pc = .ok (.getfield index, 3))
    (kk : W p l e R s m args below meth c H locs cells slots Q (F0 m (pc + 3) ls (.ref (G.2.2.1 j) :: rest))) : W p l e R s m args below meth c H locs cells slots Q (F0 m pc ls (.ref (G.2.2.1 o) :: rest)) := by
  obtain ⟨hx, hb, hml, hown, hts, hr, hlk, hK, hSt⟩ := C0
  have he := zw_get G sh M ho
  rw [hsh] at he
  exact va_getN hx hb hts hin hown hK hP o he hc k hk (va_Nw.use rfl (hSt.1.1 _ (List.mem_of_getElem? hlink))) (fun _ h => h) (zfl_q G.2.2.1 (M.1 o) fl 0 k j hf) hdg kk
/-- a number into an object -/
theorem zr_put (C0 : zCx p s m args meth c cc mL own rt G N) (hJ : zJ G N) (hP : va_P G.1 zcl (zw G sh N M) H) (hS : va_S (zA G N s.heap.size) s.heap H locs) (o : Nat) (ho : o < N) {ci : Nat} {fl : List (Option Nat)} (hsh : sh o = .inl (ci, fl)) (k : Nat) {C : String} {T : u_T} {n index : Nat} (hc : zcl[ci]? = some (C, T, n)) (hk : k < n) (hin : ∀ w ∈ u_ws C T n, w ∈ zT)
    (ty0 : Nat → FieldType) (hty : ∀ k, k < n → parseFieldDescriptor (T k).2.2.1 = some (ty0 k)) (hnm : ∀ a, a < n → ∀ b, b < n → a ≠ b → (T a).2.1 ≠ (T b).2.1) (hlink : Cond.fieldLink own index (T k).1 (T k).2.1 (T k).2.2.1 ∈ zT) (hf : fl[k]? = some none) (hfin : (T k).2.2.2 = false) {v : Int32} (hn : narrow (ty0 k) (.int v) = .int v ∧ fits (ty0 k) (.int v) = true) (hdg : decode cc pc = .ok (.putfield index, 3))
    (kk : ∀ (H1 : Heap) (locs1 : List Loc), va_P G.1 zcl (zw G sh N (zu M o k v)) H1 → va_S (zA G N s.heap.size) s.heap H1 locs1 → W p l e R s m args below meth c H1 locs1 cells slots Q (F0 m (pc + 3) ls rest)) : W p l e R s m args below meth c H locs cells slots Q (F0 m pc ls (.int v :: .ref (G.2.2.1 o) :: rest)) := by
  obtain ⟨hx, hb, hml, hown, hts, hr, hlk, hK, hSt⟩ := C0
  have he := zw_get G sh M ho
  rw [hsh] at he
  refine va_put hx hb hts hin ty0 hty hnm hown hK hP (zw_D hJ M _) hS o he hc k hk (hts _ hlink) (fun _ h => h) hfin (hty k hk) hn.1 hn.2 (by rw [zfl_len]; exact (List.getElem?_eq_some_iff.mp hf).1) hdg (fun H1 locs1 hP1 _ hS1 => kk H1 locs1 ?_ hS1)
  rw [zw_set (M' := zu M o k v) ho (by rw [hsh]; show Sum.inr (ci, zfl G.2.2.1 ((zr M o (upd (M.1 o) k v)).1 o) 0 fl) = _; rw [zr_s, zfl_set _ _ _ _ _ _ hf, Nat.zero_add]) (fun a ha => ⟨zr_n M ha _, rfl⟩)] at hP1
  exact hP1
theorem zr_putN (C0 : zCx p s m args meth c cc mL own rt G N) (hJ : zJ G N) (hP : va_P G.1 zcl (zw G sh N M) H) (hS : va_S (zA G N s.heap.size) s.heap H locs) (o : Nat) (ho : o < N) {ci : Nat} {fl : List (Option Nat)} (hsh : sh o = .inl (ci, fl)) (k : Nat) {C : String} {T : u_T} {n index : Nat} (hc : zcl[ci]? = some (C, T, n)) (hk : k < n) (hin : ∀ w ∈ u_ws C T n, w ∈ zT)
    (ty0 : Nat → FieldType) (hty : ∀ k, k < n → parseFieldDescriptor (T k).2.2.1 = some (ty0 k)) (hnm : ∀ a, a < n → ∀ b, b < n → a ≠ b → (T a).2.1 ≠ (T b).2.1) (i : Nat) (hlink : zNf[i]? = some (own, index, (T k).1, (T k).2.1, (T k).2.2.1, "GlassesOfRue")) (hf : fl[k]? = some none) (hfin : (T k).2.2.2 = false) {v : Int32} (hn : narrow (ty0 k) (.int v) = .int v ∧ fits (ty0 k) (.int v) = true) (hdg : decode cc pc = .ok (.putfield index, 3))
    (kk : ∀ (H1 : Heap) (locs1 : List Loc), va_P G.1 zcl (zw G sh N (zu M o k v)) H1 → va_S (zA G N s.heap.size) s.heap H1 locs1 → W p l e R s m args below meth c H1 locs1 cells slots Q (F0 m (pc + 3) ls rest)) : W p l e R s m args below meth c H locs cells slots Q (F0 m pc ls (.int v :: .ref (G.2.2.1 o) :: rest)) := by
  obtain ⟨hx, hb, hml, hown, hts, hr, hlk, hK, hSt⟩ := C0
  have he := zw_get G sh M ho
  rw [hsh] at he
  refine va_putN hx hb hts hin ty0 hty hnm hown hK hP (zw_D hJ M _) hS o he hc k hk (va_Nw.use rfl (hSt.1.1 _ (List.mem_of_getElem? hlink))) (fun _ h => h) hfin (hty k hk) hn.1 hn.2 (by rw [zfl_len]; exact (List.getElem?_eq_some_iff.mp hf).1) hdg (fun H1 locs1 hP1 _ hS1 => kk H1 locs1 ?_ hS1)
  rw [zw_set (M' := zu M o k v) ho (by rw [hsh]; show Sum.inr (ci, zfl G.2.2.1 ((zr M o (upd (M.1 o) k v)).1 o) 0 fl) = _; rw [zr_s, zfl_set _ _ _ _ _ _ hf, Nat.zero_add]) (fun a ha => ⟨zr_n M ha _, rfl⟩)] at hP1
  exact hP1
/-- out of and into arrays -/
theorem zr_iald (C0 : zCx p s m args meth c cc mL own rt G N) (hP : va_P G.1 zcl (zw G sh N M) H) (o : Nat) (ho : o < N) {n b d : Nat} (hsh : sh o = .inr (0, n, b, d)) {i : Int32} (hin : zin i n = true) (hdg : decode cc pc = .ok (.iaload, 1))
    (kk : W p l e R s m args below meth c H locs cells slots Q (F0 m (pc + 1) ls (.int (M.1 o i.toNatClampNeg) :: rest))) : W p l e R s m args below meth c H locs cells slots Q (F0 m pc ls (.int i :: .ref (G.2.2.1 o) :: rest)) := by
  obtain ⟨hx, hb, hml, hown, hts, hr, hlk, hK, hSt⟩ := C0
  have he := zw_get G sh M ho
  rw [hsh] at he
  exact va_iald hx hb hK hP o 0 he rfl (zin_i hin) hdg kk
theorem zr_zald (C0 : zCx p s m args meth c cc mL own rt G N) (hP : va_P G.1 zcl (zw G sh N M) H) (o : Nat) (ho : o < N) {n b d : Nat} (hsh : sh o = .inr (2, n, b, d)) {i : Int32} (hin : zin i n = true) (hdg : decode cc pc = .ok (.baload, 1))
    (kk : W p l e R s m args below meth c H locs cells slots Q (F0 m (pc + 1) ls (.int (M.1 o i.toNatClampNeg) :: rest))) : W p l e R s m args below meth c H locs cells slots Q (F0 m pc ls (.int i :: .ref (G.2.2.1 o) :: rest)) := by
  obtain ⟨hx, hb, hml, hown, hts, hr, hlk, hK, hSt⟩ := C0
  have he := zw_get G sh M ho
  rw [hsh] at he
  exact va_zald hx hb hK hP o 2 he rfl (zin_i hin) hdg kk
theorem zr_lald (C0 : zCx p s m args meth c cc mL own rt G N) (hP : va_P G.1 zcl (zw G sh N M) H) (o : Nat) (ho : o < N) {n b d : Nat} (hsh : sh o = .inr (1, n, b, d)) {i : Int32} (hin : zin i n = true) (hdg : decode cc pc = .ok (.laload, 1))
    (kk : W p l e R s m args below meth c H locs cells slots Q (F0 m (pc + 1) ls (.long (M.2 o i.toNatClampNeg) :: rest))) : W p l e R s m args below meth c H locs cells slots Q (F0 m pc ls (.int i :: .ref (G.2.2.1 o) :: rest)) := by
  obtain ⟨hx, hb, hml, hown, hts, hr, hlk, hK, hSt⟩ := C0
  have he := zw_get G sh M ho
  rw [hsh] at he
  exact va_lald hx hb hK hP o 1 he rfl (zin_i hin) hdg kk
theorem zr_aald3 (C0 : zCx p s m args meth c cc mL own rt G N) (hP : va_P G.1 zcl (zw G sh N M) H) (o : Nat) (ho : o < N) {n b d : Nat} (hsh : sh o = .inr (3, n, b, d)) {i : Int32} (hin : zin i n = true) (hdg : decode cc pc = .ok (.aaload, 1))
    (kk : W p l e R s m args below meth c H locs cells slots Q (F0 m (pc + 1) ls (.ref (G.2.2.1 (b + d * i.toNatClampNeg)) :: rest))) : W p l e R s m args below meth c H locs cells slots Q (F0 m pc ls (.int i :: .ref (G.2.2.1 o) :: rest)) := by
  obtain ⟨hx, hb, hml, hown, hts, hr, hlk, hK, hSt⟩ := C0
  have he := zw_get G sh M ho
  rw [hsh] at he
  exact va_aldq hx hb hK hP o 3 he rfl (zin_i hin) hdg kk
theorem zr_aald4 (C0 : zCx p s m args meth c cc mL own rt G N) (hP : va_P G.1 zcl (zw G sh N M) H) (o : Nat) (ho : o < N) {n b d : Nat} (hsh : sh o = .inr (4, n, b, d)) {i : Int32} (hin : zin i n = true) (hdg : decode cc pc = .ok (.aaload, 1))
    (kk : W p l e R s m args below meth c H locs cells slots Q (F0 m (pc + 1) ls (.ref (G.2.2.1 (b + d * i.toNatClampNeg)) :: rest))) : W p l e R s m args below meth c H locs cells slots Q (F0 m pc ls (.int i :: .ref (G.2.2.1 o) :: rest)) := by
  obtain ⟨hx, hb, hml, hown, hts, hr, hlk, hK, hSt⟩ := C0
  have he := zw_get G sh M ho
  rw [hsh] at he
  exact va_aldq hx hb hK hP o 4 he rfl (zin_i hin) hdg kk
theorem zr_iast (C0 : zCx p s m args meth c cc mL own rt G N) (hJ : zJ G N) (hP : va_P G.1 zcl (zw G sh N M) H) (hS : va_S (zA G N s.heap.size) s.heap H locs) (o : Nat) (ho : o < N) {n b d : Nat} (hsh : sh o = .inr (0, n, b, d)) {i x : Int32} (hin : zin i n = true) (hdg : decode cc pc = .ok (.iastore, 1))
    (kk : ∀ (H1 : Heap) (locs1 : List Loc), va_P G.1 zcl (zw G sh N (zu M o i.toNatClampNeg x)) H1 → va_S (zA G N s.heap.size) s.heap H1 locs1 → W p l e R s m args below meth c H1 locs1 cells slots Q (F0 m (pc + 1) ls rest)) : W p l e R s m args below meth c H locs cells slots Q (F0 m pc ls (.int x :: .int i :: .ref (G.2.2.1 o) :: rest)) := by
  obtain ⟨hx, hb, hml, hown, hts, hr, hlk, hK, hSt⟩ := C0
  have he := zw_get G sh M ho
  rw [hsh] at he
  refine va_iast hx hb hK hP (zw_D hJ M _) hS o 0 he rfl (zin_i hin) hdg (fun H1 locs1 hP1 _ hS1 => kk H1 locs1 ?_ hS1)
  rw [zw_set (M' := zu M o i.toNatClampNeg x) ho (by rw [hsh]; show Sum.inl (_, n, Sum.inl ((zr M o (upd (M.1 o) _ x)).1 o)) = _; rw [zr_s]) (fun a ha => ⟨zr_n M ha _, rfl⟩)] at hP1
  exact hP1
theorem zr_zast (C0 : zCx p s m args meth c cc mL own rt G N) (hJ : zJ G N) (hP : va_P G.1 zcl (zw G sh N M) H) (hS : va_S (zA G N s.heap.size) s.heap H locs) (o : Nat) (ho : o < N) {n b d : Nat} (hsh : sh o = .inr (2, n, b, d)) {i x : Int32} (hin : zin i n = true) (hdg : decode cc pc = .ok (.bastore, 1))
    (kk : ∀ (H1 : Heap) (locs1 : List Loc), va_P G.1 zcl (zw G sh N (zu M o i.toNatClampNeg (vp_nar .boolean x))) H1 → va_S (zA G N s.heap.size) s.heap H1 locs1 → W p l e R s m args below meth c H1 locs1 cells slots Q (F0 m (pc + 1) ls rest)) : W p l e R s m args below meth c H locs cells slots Q (F0 m pc ls (.int x :: .int i :: .ref (G.2.2.1 o) :: rest)) := by
  obtain ⟨hx, hb, hml, hown, hts, hr, hlk, hK, hSt⟩ := C0
  have he := zw_get G sh M ho
  rw [hsh] at he
  refine va_zast hx hb hK hP (zw_D hJ M _) hS o 2 he rfl (zin_i hin) hdg (fun H1 locs1 hP1 _ hS1 => kk H1 locs1 ?_ hS1)
  rw [zw_set (M' := zu M o i.toNatClampNeg (vp_nar .boolean x)) ho (by rw [hsh]; show Sum.inl (_, n, Sum.inl ((zr M o (upd (M.1 o) _ _)).1 o)) = _; rw [zr_s]) (fun a ha => ⟨zr_n M ha _, rfl⟩)] at hP1
  exact hP1
theorem zr_last (C0 : zCx p s m args meth c cc mL own rt G N) (hJ : zJ G N) (hP : va_P G.1 zcl (zw G sh N M) H) (hS : va_S (zA G N s.heap.size) s.heap H locs) (o : Nat) (ho : o < N) {n b d : Nat} (hsh : sh o = .inr (1, n, b, d)) {i : Int32} {x : Int64} (hin : zin i n = true) (hdg : decode cc pc = .ok (.lastore, 1))
    (kk : ∀ (H1 : Heap) (locs1 : List Loc), va_P G.1 zcl (zw G sh N (zul M o i.toNatClampNeg x)) H1 → va_S (zA G N s.heap.size) s.heap H1 locs1 → W p l e R s m args below meth c H1 locs1 cells slots Q (F0 m (pc + 1) ls rest)) : W p l e R s m args below meth c H locs cells slots Q (F0 m pc ls (.long x :: .int i :: .ref (G.2.2.1 o) :: rest)) := by
  obtain ⟨hx, hb, hml, hown, hts, hr, hlk, hK, hSt⟩ := C0
  have he := zw_get G sh M ho
  rw [hsh] at he
  refine va_last hx hb hK hP (zw_D hJ M _) hS o 1 he rfl (zin_i hin) hdg (fun H1 locs1 hP1 _ hS1 => kk H1 locs1 ?_ hS1)
  rw [zw_set (M := M) (M' := zul M o i.toNatClampNeg x) ho (by rw [hsh]; show Sum.inl (_, n, Sum.inr (Sum.inl ((zrl M o (vp_updL (M.2 o) _ x)).2 o))) = _; rw [zrl_s]) (fun a ha => ⟨rfl, zrl_n M ha _⟩)] at hP1
  exact hP1
theorem zr_alen (C0 : zCx p s m args meth c cc mL own rt G N) (hP : va_P G.1 zcl (zw G sh N M) H) (o : Nat) (ho : o < N) {k n b d : Nat} (hsh : sh o = .inr (k, n, b, d)) (hk : k < 5) {v : Int32} (hv : Int32.ofNat n = v) (hdg : decode cc pc = .ok (.arraylength, 1))
    (kk : W p l e R s m args below meth c H locs cells slots Q (F0 m (pc + 1) ls (.int v :: rest))) : W p l e R s m args below meth c H locs cells slots Q (F0 m pc ls (.ref (G.2.2.1 o) :: rest)) := by
  obtain ⟨hx, hb, hml, hown, hts, hr, hlk, hK, hSt⟩ := C0
  have he := zw_get G sh M ho
  rw [hsh] at he
  match k, hk, he with
  | 0, _, he => exact va_alen hx hb hK hP o 0 he rfl hv hdg kk
  | 1, _, he => exact va_alen hx hb hK hP o 1 he rfl hv hdg kk
  | 2, _, he => exact va_alen hx hb hK hP o 2 he rfl hv hdg kk
  | 3, _, he => exact va_alen hx hb hK hP o 3 he rfl hv hdg kk
  | 4, _, he => exact va_alen hx hb hK hP o 4 he rfl hv hdg kk
/-- ends -/
theorem ze_i {o : Int32 × zM} {v : Int32} (C0 : zCx p s m args meth c cc mL own (some .int) G N) (hP : va_P G.1 zcl (zw G sh N M) H) (hS : va_S (zA G N s.heap.size) s.heap H locs) (ho : some (v, M) = some o) (hdg : decode cc pc = .ok (.ireturn, 1)) (hQ : Q = MQ below (va_Qi (fun r M' => (r, M') = o) (zEnd G sh N) (zA G N s.heap.size)) args s cells slots (zA G N s.heap.size)) : W p l e R s m args below meth c H locs cells slots Q (F0 m pc ls [.int v]) := by
  subst hQ
  obtain ⟨hx, hb, hml, hown, hts, hr, hlk, hK, hSt⟩ := C0
  exact W.iret hx hb hr (fun t ht hW => ⟨⟨v, M, rfl, Option.some.inj ho, by rw [zEnd, ht]; exact hP⟩, hS.F ht⟩) hS.2.2 hdg hlk
theorem ze_z {o : Int32 × zM} {v : Int32} (C0 : zCx p s m args meth c cc mL own (some .boolean) G N) (hP : va_P G.1 zcl (zw G sh N M) H) (hS : va_S (zA G N s.heap.size) s.heap H locs) (hv : zbo v = true) (ho : some (v, M) = some o) (hdg : decode cc pc = .ok (.ireturn, 1)) (hQ : Q = MQ below (va_Qi (fun r M' => (r, M') = o) (zEnd G sh N) (zA G N s.heap.size)) args s cells slots (zA G N s.heap.size)) : W p l e R s m args below meth c H locs cells slots Q (F0 m pc ls [.int v]) := by
  subst hQ
  obtain ⟨hx, hb, hml, hown, hts, hr, hlk, hK, hSt⟩ := C0
  exact W.zret hx hb hr (zbo_i hv).1 (fun t ht hW => ⟨⟨v, M, rfl, Option.some.inj ho, by rw [zEnd, ht]; exact hP⟩, hS.F ht⟩) hS.2.2 hdg hlk
theorem ze_n {o : Int32 × zM} {v : Int32} {ty : FieldType} (C0 : zCx p s m args meth c cc mL own (some ty) G N) (hP : va_P G.1 zcl (zw G sh N M) H) (hS : va_S (zA G N s.heap.size) s.heap H locs) (hv : narrow ty (.int v) = .int v) (ho : some (v, M) = some o) (hdg : decode cc pc = .ok (.ireturn, 1)) (hQ : Q = MQ below (va_Qi (fun r M' => (r, M') = o) (zEnd G sh N) (zA G N s.heap.size)) args s cells slots (zA G N s.heap.size)) : W p l e R s m args below meth c H locs cells slots Q (F0 m pc ls [.int v]) := by
  subst hQ
  obtain ⟨hx, hb, hml, hown, hts, hr, hlk, hK, hSt⟩ := C0
  exact W.zret hx hb hr hv (fun t ht hW => ⟨⟨v, M, rfl, Option.some.inj ho, by rw [zEnd, ht]; exact hP⟩, hS.F ht⟩) hS.2.2 hdg hlk
theorem ze_l {o : Int64 × zM} {v : Int64} (C0 : zCx p s m args meth c cc mL own (some .long) G N) (hP : va_P G.1 zcl (zw G sh N M) H) (hS : va_S (zA G N s.heap.size) s.heap H locs) (ho : some (v, M) = some o) (hdg : decode cc pc = .ok (.lreturn, 1)) (hQ : Q = MQ below (va_Ql (fun r M' => (r, M') = o) (zEnd G sh N) (zA G N s.heap.size)) args s cells slots (zA G N s.heap.size)) : W p l e R s m args below meth c H locs cells slots Q (F0 m pc ls [.long v]) := by
  subst hQ
  obtain ⟨hx, hb, hml, hown, hts, hr, hlk, hK, hSt⟩ := C0
  exact W.lret hx hb hr (fun t ht hW => ⟨⟨v, M, rfl, Option.some.inj ho, by rw [zEnd, ht]; exact hP⟩, hS.F ht⟩) hS.2.2 hdg hlk
theorem ze_v {o : zM} (C0 : zCx p s m args meth c cc mL own none G N) (hP : va_P G.1 zcl (zw G sh N M) H) (hS : va_S (zA G N s.heap.size) s.heap H locs) (ho : some M = some o) (hdg : decode cc pc = .ok (.return_, 1)) (hQ : Q = MQ below (va_Qv (fun M' => M' = o) (zEnd G sh N) (zA G N s.heap.size)) args s cells slots (zA G N s.heap.size)) : W p l e R s m args below meth c H locs cells slots Q (F0 m pc ls []) := by
  subst hQ
  obtain ⟨hx, hb, hml, hown, hts, hr, hlk, hK, hSt⟩ := C0
  exact W.vret hx hb hr (fun t ht hW => ⟨⟨M, rfl, Option.some.inj ho, by rw [zEnd, ht]; exact hP⟩, hS.F ht⟩) hS.2.2 hdg hlk
/-- what a callee's start asks -/
theorem zq_pre {av : List Value} (C0 : zCx p s m args meth c cc mL own rt G N) (hP : va_P G.1 zcl (zw G sh N M) H) (hS : va_S (zA G N s.heap.size) s.heap H locs) : ∀ U : State, U.heap = H → s.WarmedH U.vm → zPre G sh N av M H.size av.toArray U := by
  obtain ⟨hx, hb, hml, hown, hts, hr, hlk, hK, hSt⟩ := C0
  intro U hU hW
  exact ⟨rfl, by rw [hU], by rw [hU]; exact hP, va_K.moved hW.alike hK, zSt_keep hSt hS (fun q hq => hq.elim Or.inl (fun h => Or.inr (Nat.le_trans hS.1 h))) hU hW⟩
theorem zq_A (hS : va_S (zA G N s.heap.size) s.heap H locs) : ∀ q, zA G N H.size q → zA G N s.heap.size q := fun q hq => hq.elim Or.inl (fun h => Or.inr (Nat.le_trans hS.1 h))
theorem zq_recv (C0 : zCx p s m args meth c cc mL own rt G N) (hP : va_P G.1 zcl (zw G sh N M) H) (o : Nat) (ho : o < N) {ci : Nat} {fl : List (Option Nat)} (hsh : sh o = .inl (ci, fl)) {C : String} {T : u_T} {n : Nat} (hc : zcl[ci]? = some (C, T, n)) : ∃ cell : Cell, H[G.2.2.1 o]? = some cell ∧ cell.vm.isStatics = false ∧ s.vm.findClass C = some cell.cls := by
  obtain ⟨hx, hb, hml, hown, hts, hr, hlk, hK, hSt⟩ := C0
  have he := zw_get G sh M ho
  rw [hsh] at he
  exact va_recv hK hP (q := (C, T, n)) hc he
variable {y : MethodName} {ccy : ByteArray} {mLy : Nat} {rty : Option FieldType} {fr lo index n : Nat} {As stk : List Value}
/-- calls of methods of objects of ours: int, long, void -/
abbrev zLk (own : String) (index : Nat) (y : MethodName) (ccy : ByteArray) (mLy : Nat) (rty : Option FieldType) : Prop := Cond.methodLink own index y ∈ zT ∧ Cond.instanceMethod y ∈ zT ∧ Cond.selects y.cls y y ∈ zT ∧ Cond.initialized y.cls ∈ zT ∧ Cond.code y ccy mLy rty ∈ zT
abbrev zLs (own : String) (index : Nat) (y : MethodName) (ccy : ByteArray) (mLy : Nat) (rty : Option FieldType) : Prop := Cond.methodLink own index y ∈ zT ∧ Cond.static y ∈ zT ∧ Cond.initialized y.cls ∈ zT ∧ Cond.code y ccy mLy rty ∈ zT
theorem zLk_g (h : zLk own index y ccy mLy rty) : GoodIn zT (wsV own index y.cls y (.code y ccy mLy rty :: zT)) := zT_good fun w hw => by
  obtain ⟨h1, h2, h3, h4, h5⟩ := h
  rcases List.mem_append.mp hw with q | q
  · simp only [List.mem_cons, List.not_mem_nil, or_false] at q
    rcases q with rfl | rfl | rfl | rfl <;> assumption
  · exact zT_code h5 w q
theorem zLs_g (h : zLs own index y ccy mLy rty) : GoodIn zT (va_wsS own index y (.code y ccy mLy rty :: zT)) := zT_good fun w hw => by
  obtain ⟨h1, h2, h4, h5⟩ := h
  rcases List.mem_append.mp hw with q | q
  · simp only [List.mem_cons, List.not_mem_nil, or_false] at q
    rcases q with rfl | rfl | rfl <;> assumption
  · exact zT_code h5 w q
abbrev zDs (y : MethodName) (n : Nat) : Prop := y.cls ≠ "java/lang/invoke/MethodHandle" ∧ y.cls ≠ "java/lang/invoke/VarHandle" ∧ (parseMethodDescriptor y.desc).map (fun d => d.parameters.length) = some n
theorem zc_vi {r : Int32} {M' : zM} (C0 : zCx p s m args meth c cc mL own rt G N) (hP : va_P G.1 zcl (zw G sh N M) H) (hS : va_S (zA G N s.heap.size) s.heap H locs) (hls : ls.size = mL) (ob : Nat) (hM : zMi l G sh N y ccy mLy rty fr lo (.ref (G.2.2.1 ob) :: As) M (r, M')) (hw : zLk own index y ccy mLy rty) (hob : ob < N) {ci : Nat} {fl : List (Option Nat)} (hsh : sh ob = .inl (ci, fl)) {T : u_T} {n' : Nat} (hc : zcl[ci]? = some (y.cls, T, n')) (hd : zDs y n) (hR : fr + 1 ≤ R.frames ∧ 8 + (mLy + 11) + lo ≤ R.locals)
    (hn : As.length = n) (hstk : stk = As.reverse ++ .ref (G.2.2.1 ob) :: rest) (hcat : (rest.map fun v => v.category).sum ≤ 8) (hdg : decode cc pc = .ok (.invokevirtual index, 3)) (hcs : cells ≤ R.cells ∧ slots ≤ R.slots)
    (kk : ∀ (H1 : Heap) (locs1 : List Loc), va_P G.1 zcl (zw G sh N M') H1 → va_S (zA G N s.heap.size) s.heap H1 locs1 → W p l e R s m args below meth c H1 locs1 cells slots Q (F0 m (pc + 3) ls (.int r :: rest))) : W p l e R s m args below meth c H locs cells slots Q (F0 m pc ls stk) := by
  have hpre := zq_pre (av := .ref (G.2.2.1 ob) :: As) C0 hP hS
  have hrv := zq_recv C0 hP ob hob hsh hc
  obtain ⟨hx, hb, hml, hown, hts, hr, hlk, hK, hSt⟩ := C0
  subst hstk
  refine va_calli (va_runV (As := As) (rest := rest) ⟨hx, hb, hml, hown, hts⟩ (hM H.size) (cwV n hts (zLk_g hw) rfl rfl rfl ⟨rfl, hd⟩ hR) ⟨zPre_blind _ _ _ _ _ _, hrv, hpre⟩ rfl hn hls rfl (lv_room hcat) hdg hcs) hS (fun q _ h => zq_A hS q h) (zq_A hS) (fun r2 u t H1 locs1 ht hvm hq hB hz hk hS1 => ?_)
  cases hq
  exact kk H1 locs1 (by rw [← ht]; exact hB) hS1
theorem zc_vl {r : Int64} {M' : zM} (C0 : zCx p s m args meth c cc mL own rt G N) (hP : va_P G.1 zcl (zw G sh N M) H) (hS : va_S (zA G N s.heap.size) s.heap H locs) (hls : ls.size = mL) (ob : Nat) (hM : zMl l G sh N y ccy mLy rty fr lo (.ref (G.2.2.1 ob) :: As) M (r, M')) (hw : zLk own index y ccy mLy rty) (hob : ob < N) {ci : Nat} {fl : List (Option Nat)} (hsh : sh ob = .inl (ci, fl)) {T : u_T} {n' : Nat} (hc : zcl[ci]? = some (y.cls, T, n')) (hd : zDs y n) (hR : fr + 1 ≤ R.frames ∧ 8 + (mLy + 11) + lo ≤ R.locals)
    (hn : As.length = n) (hstk : stk = As.reverse ++ .ref (G.2.2.1 ob) :: rest) (hcat : (rest.map fun v => v.category).sum ≤ 8) (hdg : decode cc pc = .ok (.invokevirtual index, 3)) (hcs : cells ≤ R.cells ∧ slots ≤ R.slots)
    (kk : ∀ (H1 : Heap) (locs1 : List Loc), va_P G.1 zcl (zw G sh N M') H1 → va_S (zA G N s.heap.size) s.heap H1 locs1 → W p l e R s m args below meth c H1 locs1 cells slots Q (F0 m (pc + 3) ls (.long r :: rest))) : W p l e R s m args below meth c H locs cells slots Q (F0 m pc ls stk) := by
  have hpre := zq_pre (av := .ref (G.2.2.1 ob) :: As) C0 hP hS
  have hrv := zq_recv C0 hP ob hob hsh hc
  obtain ⟨hx, hb, hml, hown, hts, hr, hlk, hK, hSt⟩ := C0
  subst hstk
  refine va_calll (va_runV (As := As) (rest := rest) ⟨hx, hb, hml, hown, hts⟩ (hM H.size) (cwV n hts (zLk_g hw) rfl rfl rfl ⟨rfl, hd⟩ hR) ⟨zPre_blind _ _ _ _ _ _, hrv, hpre⟩ rfl hn hls rfl (lv_room hcat) hdg hcs) hS (fun q _ h => zq_A hS q h) (zq_A hS) (fun r2 u t H1 locs1 ht hvm hq hB hz hk hS1 => ?_)
  cases hq
  exact kk H1 locs1 (by rw [← ht]; exact hB) hS1
theorem zc_vv {M' : zM} (C0 : zCx p s m args meth c cc mL own rt G N) (hP : va_P G.1 zcl (zw G sh N M) H) (hS : va_S (zA G N s.heap.size) s.heap H locs) (hls : ls.size = mL) (ob : Nat) (hM : zMv l G sh N y ccy mLy rty fr lo (.ref (G.2.2.1 ob) :: As) M M') (hw : zLk own index y ccy mLy rty) (hob : ob < N) {ci : Nat} {fl : List (Option Nat)} (hsh : sh ob = .inl (ci, fl)) {T : u_T} {n' : Nat} (hc : zcl[ci]? = some (y.cls, T, n')) (hd : zDs y n) (hR : fr + 1 ≤ R.frames ∧ 8 + (mLy + 11) + lo ≤ R.locals)
    (hn : As.length = n) (hstk : stk = As.reverse ++ .ref (G.2.2.1 ob) :: rest) (hcat : (rest.map fun v => v.category).sum ≤ 8) (hdg : decode cc pc = .ok (.invokevirtual index, 3)) (hcs : cells ≤ R.cells ∧ slots ≤ R.slots)
    (kk : ∀ (H1 : Heap) (locs1 : List Loc), va_P G.1 zcl (zw G sh N M') H1 → va_S (zA G N s.heap.size) s.heap H1 locs1 → W p l e R s m args below meth c H1 locs1 cells slots Q (F0 m (pc + 3) ls rest)) : W p l e R s m args below meth c H locs cells slots Q (F0 m pc ls stk) := by
  have hpre := zq_pre (av := .ref (G.2.2.1 ob) :: As) C0 hP hS
  have hrv := zq_recv C0 hP ob hob hsh hc
  obtain ⟨hx, hb, hml, hown, hts, hr, hlk, hK, hSt⟩ := C0
  subst hstk
  refine va_callv (va_runV (As := As) (rest := rest) ⟨hx, hb, hml, hown, hts⟩ (hM H.size) (cwV n hts (zLk_g hw) rfl rfl rfl ⟨rfl, hd⟩ hR) ⟨zPre_blind _ _ _ _ _ _, hrv, hpre⟩ rfl hn hls rfl (lv_room hcat) hdg hcs) hS (fun q _ h => zq_A hS q h) (zq_A hS) (fun u t H1 locs1 ht hvm hq hB hz hk hS1 => ?_)
  cases hq
  exact kk H1 locs1 (by rw [← ht]; exact hB) hS1
/-- calls of static methods -/
theorem zc_xi {r : Int32} {M' : zM} (C0 : zCx p s m args meth c cc mL own rt G N) (hP : va_P G.1 zcl (zw G sh N M) H) (hS : va_S (zA G N s.heap.size) s.heap H locs) (hls : ls.size = mL) (ob : Nat) (hob : ob < 3) (hM : zMi l G sh N y ccy mLy rty fr lo (.ref (G.2.2.2 (1 + ob)) :: As) M (r, M')) (hw : zLk own index y ccy mLy rty) (hcl : y.cls = "java/lang/String") (hd : zDs y n) (hR : fr + 1 ≤ R.frames ∧ 8 + (mLy + 11) + lo ≤ R.locals)
    (hn : As.length = n) (hstk : stk = As.reverse ++ .ref (G.2.2.2 (1 + ob)) :: rest) (hcat : (rest.map fun v => v.category).sum ≤ 8) (hdg : decode cc pc = .ok (.invokevirtual index, 3)) (hcs : cells ≤ R.cells ∧ slots ≤ R.slots)
    (kk : ∀ (H1 : Heap) (locs1 : List Loc), va_P G.1 zcl (zw G sh N M') H1 → va_S (zA G N s.heap.size) s.heap H1 locs1 → W p l e R s m args below meth c H1 locs1 cells slots Q (F0 m (pc + 3) ls (.int r :: rest))) : W p l e R s m args below meth c H locs cells slots Q (F0 m pc ls stk) := by
  have hpre := zq_pre (av := .ref (G.2.2.2 (1 + ob)) :: As) C0 hP hS
  obtain ⟨hx, hb, hml, hown, hts, hr, hlk, hK, hSt⟩ := C0
  have hrv := vk_recv hSt.2.2.2.2 hob hS
  rw [← hcl] at hrv
  subst hstk
  refine va_calli (va_runV (As := As) (rest := rest) ⟨hx, hb, hml, hown, hts⟩ (hM H.size) (cwV n hts (zLk_g hw) rfl rfl rfl ⟨rfl, hd⟩ hR) ⟨zPre_blind _ _ _ _ _ _, hrv, hpre⟩ rfl hn hls rfl (lv_room hcat) hdg hcs) hS (fun q _ h => zq_A hS q h) (zq_A hS) (fun r2 u t H1 locs1 ht hvm hq hB hz hk hS1 => ?_)
  cases hq
  exact kk H1 locs1 (by rw [← ht]; exact hB) hS1
theorem zc_si {r : Int32} {M' : zM} (C0 : zCx p s m args meth c cc mL own rt G N) (hP : va_P G.1 zcl (zw G sh N M) H) (hS : va_S (zA G N s.heap.size) s.heap H locs) (hls : ls.size = mL) (hM : zMi l G sh N y ccy mLy rty fr lo As M (r, M')) (hw : zLs own index y ccy mLy rty) (hd : zDs y n) (hR : fr + 1 ≤ R.frames ∧ 8 + (mLy + 11) + lo ≤ R.locals)
    (hn : As.length = n) (hstk : stk = As.reverse ++ rest) (hcat : (rest.map fun v => v.category).sum ≤ 8) (hdg : decode cc pc = .ok (.invokestatic index, 3)) (hcs : cells ≤ R.cells ∧ slots ≤ R.slots)
    (kk : ∀ (H1 : Heap) (locs1 : List Loc), va_P G.1 zcl (zw G sh N M') H1 → va_S (zA G N s.heap.size) s.heap H1 locs1 → W p l e R s m args below meth c H1 locs1 cells slots Q (F0 m (pc + 3) ls (.int r :: rest))) : W p l e R s m args below meth c H locs cells slots Q (F0 m pc ls stk) := by
  have hpre := zq_pre (av := As) C0 hP hS
  obtain ⟨hx, hb, hml, hown, hts, hr, hlk, hK, hSt⟩ := C0
  subst hstk
  refine va_calli (va_runS (As := As) (rest := rest) ⟨hx, hb, hml, hown, hts⟩ (hM H.size) (va_cwS n hts (zLs_g hw) rfl rfl rfl hd hR) ⟨zPre_blind _ _ _ _ _ _, hpre⟩ rfl hn hls rfl (lv_room hcat) hdg hcs) hS (fun q _ h => zq_A hS q h) (zq_A hS) (fun r2 u t H1 locs1 ht hvm hq hB hz hk hS1 => ?_)
  cases hq
  exact kk H1 locs1 (by rw [← ht]; exact hB) hS1
theorem zc_sl {r : Int64} {M' : zM} (C0 : zCx p s m args meth c cc mL own rt G N) (hP : va_P G.1 zcl (zw G sh N M) H) (hS : va_S (zA G N s.heap.size) s.heap H locs) (hls : ls.size = mL) (hM : zMl l G sh N y ccy mLy rty fr lo As M (r, M')) (hw : zLs own index y ccy mLy rty) (hd : zDs y n) (hR : fr + 1 ≤ R.frames ∧ 8 + (mLy + 11) + lo ≤ R.locals)
    (hn : As.length = n) (hstk : stk = As.reverse ++ rest) (hcat : (rest.map fun v => v.category).sum ≤ 8) (hdg : decode cc pc = .ok (.invokestatic index, 3)) (hcs : cells ≤ R.cells ∧ slots ≤ R.slots)
    (kk : ∀ (H1 : Heap) (locs1 : List Loc), va_P G.1 zcl (zw G sh N M') H1 → va_S (zA G N s.heap.size) s.heap H1 locs1 → W p l e R s m args below meth c H1 locs1 cells slots Q (F0 m (pc + 3) ls (.long r :: rest))) : W p l e R s m args below meth c H locs cells slots Q (F0 m pc ls stk) := by
  have hpre := zq_pre (av := As) C0 hP hS
  obtain ⟨hx, hb, hml, hown, hts, hr, hlk, hK, hSt⟩ := C0
  subst hstk
  refine va_calll (va_runS (As := As) (rest := rest) ⟨hx, hb, hml, hown, hts⟩ (hM H.size) (va_cwS n hts (zLs_g hw) rfl rfl rfl hd hR) ⟨zPre_blind _ _ _ _ _ _, hpre⟩ rfl hn hls rfl (lv_room hcat) hdg hcs) hS (fun q _ h => zq_A hS q h) (zq_A hS) (fun r2 u t H1 locs1 ht hvm hq hB hz hk hS1 => ?_)
  cases hq
  exact kk H1 locs1 (by rw [← ht]; exact hB) hS1
theorem zc_sv {M' : zM} (C0 : zCx p s m args meth c cc mL own rt G N) (hP : va_P G.1 zcl (zw G sh N M) H) (hS : va_S (zA G N s.heap.size) s.heap H locs) (hls : ls.size = mL) (hM : zMv l G sh N y ccy mLy rty fr lo As M M') (hw : zLs own index y ccy mLy rty) (hd : zDs y n) (hR : fr + 1 ≤ R.frames ∧ 8 + (mLy + 11) + lo ≤ R.locals)
    (hn : As.length = n) (hstk : stk = As.reverse ++ rest) (hcat : (rest.map fun v => v.category).sum ≤ 8) (hdg : decode cc pc = .ok (.invokestatic index, 3)) (hcs : cells ≤ R.cells ∧ slots ≤ R.slots)
    (kk : ∀ (H1 : Heap) (locs1 : List Loc), va_P G.1 zcl (zw G sh N M') H1 → va_S (zA G N s.heap.size) s.heap H1 locs1 → W p l e R s m args below meth c H1 locs1 cells slots Q (F0 m (pc + 3) ls rest)) : W p l e R s m args below meth c H locs cells slots Q (F0 m pc ls stk) := by
  have hpre := zq_pre (av := As) C0 hP hS
  obtain ⟨hx, hb, hml, hown, hts, hr, hlk, hK, hSt⟩ := C0
  subst hstk
  refine va_callv (va_runS (As := As) (rest := rest) ⟨hx, hb, hml, hown, hts⟩ (hM H.size) (va_cwS n hts (zLs_g hw) rfl rfl rfl hd hR) ⟨zPre_blind _ _ _ _ _ _, hpre⟩ rfl hn hls rfl (lv_room hcat) hdg hcs) hS (fun q _ h => zq_A hS q h) (zq_A hS) (fun u t H1 locs1 ht hvm hq hB hz hk hS1 => ?_)
  cases hq
  exact kk H1 locs1 (by rw [← ht]; exact hB) hS1
/-- a static method of a nest mate -/
theorem zc_ni {r : Int32} {M' : zM} {host : String} (C0 : zCx p s m args meth c cc mL own rt G N) (hP : va_P G.1 zcl (zw G sh N M) H) (hS : va_S (zA G N s.heap.size) s.heap H locs) (hls : ls.size = mL) (hM : zMi l G sh N y ccy mLy rty fr lo As M (r, M')) (i : Nat) (hnw : zNm[i]? = some (own, index, y, host)) (hw2 : Cond.static y ∈ zT) (hw3 : Cond.initialized y.cls ∈ zT) (hw4 : Cond.code y ccy mLy rty ∈ zT) (hd : zDs y n) (hR : fr + 1 ≤ R.frames ∧ 8 + (mLy + 11) + lo ≤ R.locals)
    (hn : As.length = n) (hstk : stk = As.reverse ++ rest) (hcat : (rest.map fun v => v.category).sum ≤ 8) (hdg : decode cc pc = .ok (.invokestatic index, 3)) (hcs : cells ≤ R.cells ∧ slots ≤ R.slots)
    (kk : ∀ (H1 : Heap) (locs1 : List Loc), va_P G.1 zcl (zw G sh N M') H1 → va_S (zA G N s.heap.size) s.heap H1 locs1 → W p l e R s m args below meth c H1 locs1 cells slots Q (F0 m (pc + 3) ls (.int r :: rest))) : W p l e R s m args below meth c H locs cells slots Q (F0 m pc ls stk) := by
  have hpre := zq_pre (av := As) C0 hP hS
  obtain ⟨hx, hb, hml, hown, hts, hr, hlk, hK, hSt⟩ := C0
  subst hstk
  refine va_calli (va_runSN (As := As) (rest := rest) ⟨hx, hb, hml, hown, hts⟩ (hM H.size) ⟨va_cnB n hts (zT_good (zT_code hw4)) rfl rfl rfl (hSt.1.2 _ (List.mem_of_getElem? hnw)) (hts _ hw3) hd hR, hts _ hw2, trivial⟩ ⟨zPre_blind _ _ _ _ _ _, hpre⟩ rfl hn hls rfl (lv_room hcat) hdg hcs) hS (fun q _ h => zq_A hS q h) (zq_A hS) (fun r2 u t H1 locs1 ht hvm hq hB hz hk hS1 => ?_)
  cases hq
  exact kk H1 locs1 (by rw [← ht]; exact hB) hS1
end ZROWS
