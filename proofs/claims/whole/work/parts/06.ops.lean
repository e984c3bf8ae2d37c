/-! operations by name, and the kit's rows for them -/
def zrm (x y : Int32) : Int32 := x - x / y * y
def zrml (x y : Int64) : Int64 := x - x / y * y
def zshl (x y : Int32) : Int32 := x <<< (y &&& 31)
def zshr (x y : Int32) : Int32 := x >>> (y &&& 31)
def zushr (x y : Int32) : Int32 := (x.toUInt32 >>> (y.toUInt32 &&& Int32.toUInt32 31)).toInt32
def zlshl (x : Int64) (y : Int32) : Int64 := x <<< (y.toInt64 &&& 63)
def zlshr (x : Int64) (y : Int32) : Int64 := x >>> (y.toInt64 &&& 63)
def zi2b (x : Int32) : Int32 := x.toInt8.toInt32
def zi2s (x : Int32) : Int32 := x.toInt16.toInt32
def zi2c (x : Int32) : Int32 := (x.toUInt32 % 65536).toInt32
def zcmp (x y : Int64) : Int32 := lg_cmp x y
def zmax (x y : Int32) : Int32 := if x < y then y else x
def zmin (x y : Int32) : Int32 := if y < x then y else x
def zminl (x y : Int64) : Int64 := if y < x then y else x
def zcpy (M : zM) (a : Nat) (i : Int32) (b : Nat) (j n : Int32) : zM := zr M b (va_cpy (M.1 a) (M.1 b) i.toNatClampNeg j.toNatClampNeg n.toNatClampNeg)
def zrg (i n : Int32) (k : Nat) : Bool := decide (0 ≤ i.toInt) && decide (0 ≤ n.toInt) && decide (i.toInt + n.toInt ≤ k)
def zbt (x : Int32) : Int32 := vp_nar .boolean x
theorem zL_e {α β : Type} {e x : α} {k : α → β} {o : β} (hx : x = e) (h : zL e k = o) : k x = o := hx ▸ h
/-- what an id of the class's cells may be -/
def zSX : List zSh := [.inl (5, [some 1, some 2, some 6, some 10, some 17, some 24, some 31, none, none]), .inr (3, 6, 32, 4), .inl (2, [some 3, some 4, some 5, none, none, none, none, none, none]), .inr (0, 160, 0, 0), .inr (0, 160, 0, 0), .inr (0, 3, 0, 0), .inl (1, [some 7, some 8, some 9, none, none, none, none]), .inr (1, 10000, 0, 0), .inr (1, 31, 0, 0), .inr (0, 1000, 0, 0), .inl (4, [some 1, some 11, some 12, some 13, some 14, some 15, some 16, none, none, none, none]), .inr (0, 5, 0, 0), .inr (0, 5, 0, 0), .inr (0, 5, 0, 0), .inr (0, 5, 0, 0), .inr (0, 5, 0, 0), .inr (0, 6, 0, 0), .inl (4, [some 1, some 18, some 19, some 20, some 21, some 22, some 23, none, none, none, none]), .inr (0, 5, 0, 0), .inr (0, 5, 0, 0), .inr (0, 5, 0, 0), .inr (0, 5, 0, 0), .inr (0, 5, 0, 0), .inr (0, 6, 0, 0), .inl (4, [some 1, some 25, some 26, some 27, some 28, some 29, some 30, none, none, none, none]), .inr (0, 5, 0, 0), .inr (0, 5, 0, 0), .inr (0, 5, 0, 0), .inr (0, 5, 0, 0), .inr (0, 5, 0, 0), .inr (0, 6, 0, 0), .inr (4, 4, 56, 2), .inl (3, [some 33, some 34, some 35]), .inr (0, 160, 0, 0), .inr (0, 3, 0, 0), .inr (0, 160, 0, 0), .inl (3, [some 37, some 38, some 39]), .inr (0, 160, 0, 0), .inr (0, 3, 0, 0), .inr (0, 160, 0, 0), .inl (3, [some 41, some 42, some 43]), .inr (0, 160, 0, 0), .inr (0, 3, 0, 0), .inr (0, 160, 0, 0), .inl (3, [some 45, some 46, some 47]), .inr (0, 160, 0, 0), .inr (0, 3, 0, 0), .inr (0, 160, 0, 0), .inl (3, [some 49, some 50, some 51]), .inr (0, 160, 0, 0), .inr (0, 3, 0, 0), .inr (0, 160, 0, 0), .inl (3, [some 53, some 54, some 55]), .inr (0, 160, 0, 0), .inr (0, 3, 0, 0), .inr (0, 160, 0, 0), .inl (0, [some 57, none, none]), .inr (0, 40, 0, 0), .inl (0, [some 59, none, none]), .inr (0, 40, 0, 0), .inl (0, [some 61, none, none]), .inr (0, 40, 0, 0), .inl (0, [some 63, none, none]), .inr (0, 40, 0, 0)]
def shX (i : Nat) : zSh := zSX.getD i (.inr (0, 0, 0, 0))
def zSM : List zSh := [.inl (6, [none, none, none, some 1, some 2, some 3, some 4, none, none, some 5, none, some 6, some 7, some 8, none, none, none, none, none, none, some 9, none, none, none, none, none, some 10, some 11, none, none, some 12, some 13, some 14, none, none, none, some 15, some 16, none, none, none, none, none, none, none, some 17, some 18, some 19, some 20, some 21, some 22]), .inr (0, 5, 0, 0), .inr (0, 5, 0, 0), .inr (0, 5, 0, 0), .inr (0, 5, 0, 0), .inr (0, 160, 0, 0), .inr (0, 18, 0, 0), .inr (0, 18, 0, 0), .inr (0, 3000, 0, 0), .inr (0, 200, 0, 0), .inr (0, 200, 0, 0), .inr (0, 6, 0, 0), .inr (0, 5, 0, 0), .inr (0, 5, 0, 0), .inr (0, 5, 0, 0), .inr (2, 31000, 0, 0), .inr (0, 31000, 0, 0), .inr (0, 5, 0, 0), .inr (0, 5, 0, 0), .inr (0, 5, 0, 0), .inr (0, 4, 0, 0), .inr (0, 4, 0, 0), .inr (0, 160, 0, 0)]
def shM (i : Nat) : zSh := zSM.getD i (.inr (0, 0, 0, 0))
def isW (w : Nat) : Prop := w = 10 ∨ w = 17 ∨ w = 24
def isS (w : Nat) : Prop := w = 56 ∨ w = 58 ∨ w = 60 ∨ w = 62
def isT (w : Nat) : Prop := w = 32 ∨ w = 36 ∨ w = 40 ∨ w = 44 ∨ w = 48 ∨ w = 52
theorem isW10 : isW 10 := Or.inl rfl
theorem isW17 : isW 17 := Or.inr (Or.inl rfl)
theorem isW24 : isW 24 := Or.inr (Or.inr rfl)
theorem isW_lt {w : Nat} (h : isW w) : w < 64 := by rcases h with rfl | rfl | rfl <;> decide
theorem isW_s {w : Nat} (h : isW w) : shX w = .inl (4, [some 1, some (w + 1), some (w + 2), some (w + 3), some (w + 4), some (w + 5), some (w + 6), none, none, none, none]) := by rcases h with rfl | rfl | rfl <;> rfl
theorem isW_lt1 {w : Nat} (h : isW w) : w + 1 < 64 := by rcases h with rfl | rfl | rfl <;> decide
theorem isW_s1 {w : Nat} (h : isW w) : shX (w + 1) = .inr (0, 5, 0, 0) := by rcases h with rfl | rfl | rfl <;> rfl
theorem isW_lt2 {w : Nat} (h : isW w) : w + 2 < 64 := by rcases h with rfl | rfl | rfl <;> decide
theorem isW_s2 {w : Nat} (h : isW w) : shX (w + 2) = .inr (0, 5, 0, 0) := by rcases h with rfl | rfl | rfl <;> rfl
theorem isW_lt3 {w : Nat} (h : isW w) : w + 3 < 64 := by rcases h with rfl | rfl | rfl <;> decide
theorem isW_s3 {w : Nat} (h : isW w) : shX (w + 3) = .inr (0, 5, 0, 0) := by rcases h with rfl | rfl | rfl <;> rfl
theorem isW_lt4 {w : Nat} (h : isW w) : w + 4 < 64 := by rcases h with rfl | rfl | rfl <;> decide
theorem isW_s4 {w : Nat} (h : isW w) : shX (w + 4) = .inr (0, 5, 0, 0) := by rcases h with rfl | rfl | rfl <;> rfl
theorem isW_lt5 {w : Nat} (h : isW w) : w + 5 < 64 := by rcases h with rfl | rfl | rfl <;> decide
theorem isW_s5 {w : Nat} (h : isW w) : shX (w + 5) = .inr (0, 5, 0, 0) := by rcases h with rfl | rfl | rfl <;> rfl
theorem isW_lt6 {w : Nat} (h : isW w) : w + 6 < 64 := by rcases h with rfl | rfl | rfl <;> decide
theorem isW_s6 {w : Nat} (h : isW w) : shX (w + 6) = .inr (0, 6, 0, 0) := by rcases h with rfl | rfl | rfl <;> rfl
theorem isS_lt {w : Nat} (h : isS w) : w < 64 := by rcases h with rfl | rfl | rfl | rfl <;> decide
theorem isS_s {w : Nat} (h : isS w) : shX w = .inl (0, [some (w + 1), none, none]) := by rcases h with rfl | rfl | rfl | rfl <;> rfl
theorem isS_lt1 {w : Nat} (h : isS w) : w + 1 < 64 := by rcases h with rfl | rfl | rfl | rfl <;> decide
theorem isS_s1 {w : Nat} (h : isS w) : shX (w + 1) = .inr (0, 40, 0, 0) := by rcases h with rfl | rfl | rfl | rfl <;> rfl
theorem isT_lt {w : Nat} (h : isT w) : w < 64 := by rcases h with rfl | rfl | rfl | rfl | rfl | rfl <;> decide
theorem isT_s {w : Nat} (h : isT w) : shX w = .inl (3, [some (w + 1), some (w + 2), some (w + 3)]) := by rcases h with rfl | rfl | rfl | rfl | rfl | rfl <;> rfl
theorem isT_lt1 {w : Nat} (h : isT w) : w + 1 < 64 := by rcases h with rfl | rfl | rfl | rfl | rfl | rfl <;> decide
theorem isT_s1 {w : Nat} (h : isT w) : shX (w + 1) = .inr (0, 160, 0, 0) := by rcases h with rfl | rfl | rfl | rfl | rfl | rfl <;> rfl
theorem isT_lt2 {w : Nat} (h : isT w) : w + 2 < 64 := by rcases h with rfl | rfl | rfl | rfl | rfl | rfl <;> decide
theorem isT_s2 {w : Nat} (h : isT w) : shX (w + 2) = .inr (0, 3, 0, 0) := by rcases h with rfl | rfl | rfl | rfl | rfl | rfl <;> rfl
theorem isT_lt3 {w : Nat} (h : isT w) : w + 3 < 64 := by rcases h with rfl | rfl | rfl | rfl | rfl | rfl <;> decide
theorem isT_s3 {w : Nat} (h : isT w) : shX (w + 3) = .inr (0, 160, 0, 0) := by rcases h with rfl | rfl | rfl | rfl | rfl | rfl <;> rfl
theorem zin_n {i : Int32} {n : Nat} (h : zin i n = true) : i.toNatClampNeg < n := Nat.not_le.mp fun q => zin_i h (Or.inr q)
theorem isS_of {i : Int32} (h : zin i 4 = true) : isS (56 + 2 * i.toNatClampNeg) := by
  have := zin_n h
  unfold isS
  omega
theorem isT_of {i : Int32} (h : zin i 6 = true) : isT (32 + 4 * i.toNatClampNeg) := by
  have := zin_n h
  unfold isT
  omega
section ZOPS
variable {p : Program} {l : Launch} {e : Env} {R : Room} {s : State} {m : MethodId} {args : Array Value} {below : List Frame} {meth : Method} {c : Code} {H : Heap} {locs : List Loc} {cells slots : Nat} {Q : State → Prop}
variable {cc : ByteArray} {pc mL : Nat} {ls : Array Slot} {rest : List Value} {own : String} {rt : Option FieldType} {G : zGr} {sh : Nat → zSh} {N : Nat} {M : zM}
theorem zo_irem (hexec : p.tables.exec = Jvm.exec) (hb : c.code = cc) {x y : Int32} (hdg : decode cc pc = .ok (.irem, 1)) (hne : ¬ y = 0) (k : W p l e R s m args below meth c H locs cells slots Q (F0 m (pc + 1) ls (.int (zrm x y) :: rest))) : W p l e R s m args below meth c H locs cells slots Q (F0 m pc ls (.int y :: .int x :: rest)) := lv_irem hexec hb hdg hne k
theorem zo_lrem (hexec : p.tables.exec = Jvm.exec) (hb : c.code = cc) {x y : Int64} (hdg : decode cc pc = .ok (.lrem, 1)) (hne : ¬ y = 0) (k : W p l e R s m args below meth c H locs cells slots Q (F0 m (pc + 1) ls (.long (zrml x y) :: rest))) : W p l e R s m args below meth c H locs cells slots Q (F0 m pc ls (.long y :: .long x :: rest)) := lv_lrem hexec hb hdg hne k
theorem zo_ishl (hexec : p.tables.exec = Jvm.exec) (hb : c.code = cc) {x y : Int32} (hdg : decode cc pc = .ok (.ishl, 1)) (k : W p l e R s m args below meth c H locs cells slots Q (F0 m (pc + 1) ls (.int (zshl x y) :: rest))) : W p l e R s m args below meth c H locs cells slots Q (F0 m pc ls (.int y :: .int x :: rest)) := lv_ishl hexec hb hdg k
theorem zo_ishr (hexec : p.tables.exec = Jvm.exec) (hb : c.code = cc) {x y : Int32} (hdg : decode cc pc = .ok (.ishr, 1)) (k : W p l e R s m args below meth c H locs cells slots Q (F0 m (pc + 1) ls (.int (zshr x y) :: rest))) : W p l e R s m args below meth c H locs cells slots Q (F0 m pc ls (.int y :: .int x :: rest)) := lv_ishr hexec hb hdg k
theorem zo_iushr (hexec : p.tables.exec = Jvm.exec) (hb : c.code = cc) {x y : Int32} (hdg : decode cc pc = .ok (.iushr, 1)) (k : W p l e R s m args below meth c H locs cells slots Q (F0 m (pc + 1) ls (.int (zushr x y) :: rest))) : W p l e R s m args below meth c H locs cells slots Q (F0 m pc ls (.int y :: .int x :: rest)) := lv_iushr hexec hb hdg rfl k
theorem zo_lshl (hexec : p.tables.exec = Jvm.exec) (hb : c.code = cc) {x : Int64} {y : Int32} (hdg : decode cc pc = .ok (.lshl, 1)) (k : W p l e R s m args below meth c H locs cells slots Q (F0 m (pc + 1) ls (.long (zlshl x y) :: rest))) : W p l e R s m args below meth c H locs cells slots Q (F0 m pc ls (.int y :: .long x :: rest)) := lv_lshl hexec hb hdg rfl k
theorem zo_lshr (hexec : p.tables.exec = Jvm.exec) (hb : c.code = cc) {x : Int64} {y : Int32} (hdg : decode cc pc = .ok (.lshr, 1)) (k : W p l e R s m args below meth c H locs cells slots Q (F0 m (pc + 1) ls (.long (zlshr x y) :: rest))) : W p l e R s m args below meth c H locs cells slots Q (F0 m pc ls (.int y :: .long x :: rest)) := lv_lshr hexec hb hdg rfl k
theorem zo_i2b (hexec : p.tables.exec = Jvm.exec) (hb : c.code = cc) {x : Int32} (hdg : decode cc pc = .ok (.i2b, 1)) (k : W p l e R s m args below meth c H locs cells slots Q (F0 m (pc + 1) ls (.int (zi2b x) :: rest))) : W p l e R s m args below meth c H locs cells slots Q (F0 m pc ls (.int x :: rest)) := lv_i2b hexec hb hdg rfl k
theorem zo_i2s (hexec : p.tables.exec = Jvm.exec) (hb : c.code = cc) {x : Int32} (hdg : decode cc pc = .ok (.i2s, 1)) (k : W p l e R s m args below meth c H locs cells slots Q (F0 m (pc + 1) ls (.int (zi2s x) :: rest))) : W p l e R s m args below meth c H locs cells slots Q (F0 m pc ls (.int x :: rest)) := lv_i2s hexec hb hdg rfl k
theorem zo_i2c (hexec : p.tables.exec = Jvm.exec) (hb : c.code = cc) {x : Int32} (hdg : decode cc pc = .ok (.i2c, 1)) (k : W p l e R s m args below meth c H locs cells slots Q (F0 m (pc + 1) ls (.int (zi2c x) :: rest))) : W p l e R s m args below meth c H locs cells slots Q (F0 m pc ls (.int x :: rest)) := lv_i2c hexec hb hdg rfl k
theorem zo_i2l (hexec : p.tables.exec = Jvm.exec) (hb : c.code = cc) {x : Int32} (hdg : decode cc pc = .ok (.i2l, 1)) (k : W p l e R s m args below meth c H locs cells slots Q (F0 m (pc + 1) ls (.long x.toInt64 :: rest))) : W p l e R s m args below meth c H locs cells slots Q (F0 m pc ls (.int x :: rest)) := lv_i2l hexec hb hdg rfl k
theorem zo_l2i (hexec : p.tables.exec = Jvm.exec) (hb : c.code = cc) {x : Int64} (hdg : decode cc pc = .ok (.l2i, 1)) (k : W p l e R s m args below meth c H locs cells slots Q (F0 m (pc + 1) ls (.int x.toInt32 :: rest))) : W p l e R s m args below meth c H locs cells slots Q (F0 m pc ls (.long x :: rest)) := lv_l2i hexec hb hdg rfl k
theorem zo_lcmp (hexec : p.tables.exec = Jvm.exec) (hb : c.code = cc) {x y : Int64} (hdg : decode cc pc = .ok (.lcmp, 1)) (k : W p l e R s m args below meth c H locs cells slots Q (F0 m (pc + 1) ls (.int (zcmp x y) :: rest))) : W p l e R s m args below meth c H locs cells slots Q (F0 m pc ls (.long y :: .long x :: rest)) := W.lcmp hexec hb hdg k
theorem zo_max (C0 : zCx p s m args meth c cc mL own rt G N) (hls : ls.size = mL) {index : Nat} {x y : Int32} (h1 : Cond.methodLink own index Lib.Math.max.name ∈ zT) (h2 : Cond.static Lib.Math.max.name ∈ zT) (h3 : Cond.initialized "java/lang/Math" ∈ zT) (h4 : Cond.code Lib.Math.max.name Lib.Math.max.code 2 (some .int) ∈ zT) (hf : 1 ≤ R.frames) (hlo : (rest.map fun v => v.category).sum + 13 ≤ R.locals) (hcs : cells ≤ R.cells ∧ slots ≤ R.slots) (hdg : decode cc pc = .ok (.invokestatic index, 3))
    (k : W p l e R s m args below meth c H locs cells slots Q (F0 m (pc + 3) ls (.int (zmax x y) :: rest))) : W p l e R s m args below meth c H locs cells slots Q (F0 m pc ls (.int y :: .int x :: rest)) := by
  obtain ⟨hx, hb, hml, hown, hts, hr, hlk, hK, hSt⟩ := C0
  exact va_mmax hx hb (hml.trans hls.symm) hown (hts _ h1) (hts _ h2) (hts _ h3) (hts _ h4) hf hlo hcs.1 hcs.2 hdg k
theorem zo_min (C0 : zCx p s m args meth c cc mL own rt G N) (hls : ls.size = mL) {index : Nat} {x y : Int32} (h1 : Cond.methodLink own index Lib.Math.min.name ∈ zT) (h2 : Cond.static Lib.Math.min.name ∈ zT) (h3 : Cond.initialized "java/lang/Math" ∈ zT) (h4 : Cond.code Lib.Math.min.name Lib.Math.min.code 2 (some .int) ∈ zT) (hf : 1 ≤ R.frames) (hlo : (rest.map fun v => v.category).sum + 13 ≤ R.locals) (hcs : cells ≤ R.cells ∧ slots ≤ R.slots) (hdg : decode cc pc = .ok (.invokestatic index, 3))
    (k : W p l e R s m args below meth c H locs cells slots Q (F0 m (pc + 3) ls (.int (zmin x y) :: rest))) : W p l e R s m args below meth c H locs cells slots Q (F0 m pc ls (.int y :: .int x :: rest)) := by
  obtain ⟨hx, hb, hml, hown, hts, hr, hlk, hK, hSt⟩ := C0
  exact va_mmin hx hb (hml.trans hls.symm) hown (hts _ h1) (hts _ h2) (hts _ h3) (hts _ h4) hf hlo hcs.1 hcs.2 hdg k
theorem zo_minl (C0 : zCx p s m args meth c cc mL own rt G N) (hls : ls.size = mL) {index : Nat} {x y : Int64} (h1 : Cond.methodLink own index Lib.MathLoose.min_long.x ∈ zT) (h2 : Cond.static Lib.MathLoose.min_long.x ∈ zT) (h3 : Cond.initialized "java/lang/Math" ∈ zT) (h4 : Cond.code Lib.MathLoose.min_long.x Lib.MathLoose.min_long.code 4 (some .long) ∈ zT) (hf : 1 ≤ R.frames) (hlo : (rest.map fun v => v.category).sum + 15 ≤ R.locals) (hcs : cells ≤ R.cells ∧ slots ≤ R.slots) (hdg : decode cc pc = .ok (.invokestatic index, 3))
    (k : W p l e R s m args below meth c H locs cells slots Q (F0 m (pc + 3) ls (.long (zminl x y) :: rest))) : W p l e R s m args below meth c H locs cells slots Q (F0 m pc ls (.long y :: .long x :: rest)) := by
  obtain ⟨hx, hb, hml, hown, hts, hr, hlk, hK, hSt⟩ := C0
  exact va_mmin_long hx hb (hml.trans hls.symm) hown (hts _ h1) (hts _ h2) (hts _ h3) (hts _ h4) hf hlo hcs.1 hcs.2 hdg k
/-- the static array -/
theorem zo_gets (C0 : zCx p s m args meth c cc mL own rt G N) (hS : va_S (zA G N s.heap.size) s.heap H locs) {index : Nat} (h1 : Cond.fieldLink own index "GlassesOfRue$Table" "PLACES" "[J" ∈ zT) (hdg : decode cc pc = .ok (.getstatic index, 3))
    (k : W p l e R s m args below meth c H locs cells slots Q (F0 m (pc + 3) ls (.ref (G.2.2.2 0) :: rest))) : W p l e R s m args below meth c H locs cells slots Q (F0 m pc ls rest) := by
  obtain ⟨hx, hb, hml, hown, hts, hr, hlk, hK, hSt⟩ := C0
  exact va_gets hx hb hSt.2.1.1 hS hown (hts _ h1) (fun _ h => h) hdg k
theorem zo_lalP (C0 : zCx p s m args meth c cc mL own rt G N) (hS : va_S (zA G N s.heap.size) s.heap H locs) {i : Int32} (hin : zin i 9 = true) (hdg : decode cc pc = .ok (.laload, 1))
    (k : W p l e R s m args below meth c H locs cells slots Q (F0 m (pc + 1) ls (.long (zPL i.toNatClampNeg) :: rest))) : W p l e R s m args below meth c H locs cells slots Q (F0 m pc ls (.int i :: .ref (G.2.2.2 0) :: rest)) := by
  obtain ⟨hx, hb, hml, hown, hts, hr, hlk, hK, hSt⟩ := C0
  exact va_tl hx hb hSt.2.1.2 hS (zin_i hin) rfl hdg k
theorem zrg_i {i n : Int32} {k : Nat} (h : zrg i n k = true) : ¬ i < 0 ∧ ¬ n < 0 ∧ i.toNatClampNeg + n.toNatClampNeg ≤ k := by
  simp only [zrg, Bool.and_eq_true, decide_eq_true_eq] at h
  obtain ⟨⟨h1, h2⟩, h3⟩ := h
  refine ⟨fun q => ?_, fun q => ?_, ?_⟩
  · have := Int32.lt_iff_toInt_lt.mp q
    simp at this; omega
  · have := Int32.lt_iff_toInt_lt.mp q
    simp at this; omega
  · simp only [Int32.toNatClampNeg]
    omega
/-- numbers from one array to another -/
theorem zo_copy (C0 : zCx p s m args meth c cc mL own rt G N) (hJ : zJ G N) (hP : va_P G.1 zcl (zw G sh N M) H) (hS : va_S (zA G N s.heap.size) s.heap H locs) (hls : ls.size = mL) {index : Nat} (h1 : Cond.methodLink own index arraycopyName ∈ zT) (h2 : Cond.native arraycopyName ∈ zT) (h3 : Cond.static arraycopyName ∈ zT) (h4 : Cond.initialized "java/lang/System" ∈ zT)
    (a b : Nat) (ha : a < N) (hb : b < N) {n0 n1 d0 d1 d2 d3 : Nat} (hsa : sh a = .inr (0, n0, d0, d1)) (hsb : sh b = .inr (0, n1, d2, d3)) {i j n : Int32} (hg1 : zrg i n n0 = true) (hg2 : zrg j n n1 = true) (hf : 1 ≤ R.frames) (hlo : (rest.map fun v => v.category).sum + (nativeFrameWords "java/lang/System" "arraycopy" 5 + 11) ≤ R.locals) (hdg : decode cc pc = .ok (.invokestatic index, 3))
    (kk : ∀ (H1 : Heap) (locs1 : List Loc), va_P G.1 zcl (zw G sh N (zcpy M a i b j n)) H1 → va_S (zA G N s.heap.size) s.heap H1 locs1 → W p l e R s m args below meth c H1 locs1 cells slots Q (F0 m (pc + 3) ls rest)) : W p l e R s m args below meth c H locs cells slots Q (F0 m pc ls (.int n :: .int j :: .ref (G.2.2.1 b) :: .int i :: .ref (G.2.2.1 a) :: rest)) := by
  obtain ⟨hx, hbb, hml, hown, hts, hr, hlk, hK, hSt⟩ := C0
  have hea := zw_get G sh M ha
  rw [hsa] at hea
  have heb := zw_get G sh M hb
  rw [hsb] at heb
  obtain ⟨g1, g2, g3⟩ := zrg_i hg1
  obtain ⟨g4, -, g5⟩ := zrg_i hg2
  refine va_copyi hx hbb (hml.trans hls.symm) hown (hts _ h1) (hts _ h2) (hts _ h3) (hts _ h4) hK hP (zw_D hJ M _) hS a b 0 0 (ty := .int) hea heb rfl rfl rfl g1 g4 g2 g3 g5 (fun _ _ => rfl) hf hlo hdg (fun H1 locs1 hP1 _ hS1 => kk H1 locs1 ?_ hS1)
  rw [zw_set (M := M) (M' := zcpy M a i b j n) hb (by rw [hsb]; show Sum.inl (_, n1, Sum.inl ((zr M b _).1 b)) = _; rw [zr_s]) (fun x hx => ⟨zr_n M hx _, rfl⟩)] at hP1
  exact hP1
/-- texts -/
theorem zo_sval (C0 : zCx p s m args meth c cc mL own rt G N) (hS : va_S (zA G N s.heap.size) s.heap H locs) (i : Nat) (hi : i < 3) {index : Nat} (h1 : Cond.fieldLink own index "java/lang/String" "value" "[B" ∈ zT) (hdg : decode cc pc = .ok (.getfield index, 3))
    (k : W p l e R s m args below meth c H locs cells slots Q (F0 m (pc + 3) ls (.ref (G.2.2.2 (4 + i)) :: rest))) : W p l e R s m args below meth c H locs cells slots Q (F0 m pc ls (.ref (G.2.2.2 (1 + i)) :: rest)) := by
  obtain ⟨hx, hb, hml, hown, hts, hr, hlk, hK, hSt⟩ := C0
  exact vk_getf hx hb (hSt.2.2.2.2.1 i hi).2.2.1 hS hown (hts _ h1) (fun _ h => h) hdg k
theorem zo_scod (C0 : zCx p s m args meth c cc mL own rt G N) (hS : va_S (zA G N s.heap.size) s.heap H locs) (i : Nat) (hi : i < 3) {index : Nat} (h1 : Cond.fieldLink own index "java/lang/String" "coder" "B" ∈ zT) (hdg : decode cc pc = .ok (.getfield index, 3))
    (k : W p l e R s m args below meth c H locs cells slots Q (F0 m (pc + 3) ls (.int (0 : Int32) :: rest))) : W p l e R s m args below meth c H locs cells slots Q (F0 m pc ls (.ref (G.2.2.2 (1 + i)) :: rest)) := by
  obtain ⟨hx, hb, hml, hown, hts, hr, hlk, hK, hSt⟩ := C0
  exact vk_getf hx hb (hSt.2.2.2.2.1 i hi).2.1 hS hown (hts _ h1) (fun _ h => h) hdg k
theorem zo_slen (C0 : zCx p s m args meth c cc mL own rt G N) (hS : va_S (zA G N s.heap.size) s.heap H locs) (i : Nat) (hi : i < 3) (hdg : decode cc pc = .ok (.arraylength, 1))
    (k : W p l e R s m args below meth c H locs cells slots Q (F0 m (pc + 1) ls (.int (Int32.ofNat (zSl.getD i 0)) :: rest))) : W p l e R s m args below meth c H locs cells slots Q (F0 m pc ls (.ref (G.2.2.2 (4 + i)) :: rest)) := by
  obtain ⟨hx, hb, hml, hown, hts, hr, hlk, hK, hSt⟩ := C0
  exact va_tlen hx hb (hSt.2.2.2.2.1 i hi).2.2.2 hS rfl hdg k
theorem zo_sbal (C0 : zCx p s m args meth c cc mL own rt G N) (hS : va_S (zA G N s.heap.size) s.heap H locs) (i : Nat) (hi : i < 3) {x : Int32} (hin : zin x (zSl.getD i 0) = true) (hdg : decode cc pc = .ok (.baload, 1))
    (k : W p l e R s m args below meth c H locs cells slots Q (F0 m (pc + 1) ls (.int ((zSb.getD i []).getD x.toNatClampNeg 0) :: rest))) : W p l e R s m args below meth c H locs cells slots Q (F0 m pc ls (.int x :: .ref (G.2.2.2 (4 + i)) :: rest)) := by
  obtain ⟨hx, hb, hml, hown, hts, hr, hlk, hK, hSt⟩ := C0
  exact va_tb hx hb (hSt.2.2.2.2.1 i hi).2.2.2 hS (zin_i hin) rfl hdg k
theorem zo_getCS (C0 : zCx p s m args meth c cc mL own rt G N) (hS : va_S (zA G N s.heap.size) s.heap H locs) {index : Nat} (h1 : Cond.fieldLink own index "java/lang/String" "COMPACT_STRINGS" "Z" ∈ zT) (hdg : decode cc pc = .ok (.getstatic index, 3))
    (k : W p l e R s m args below meth c H locs cells slots Q (F0 m (pc + 3) ls (.int (1 : Int32) :: rest))) : W p l e R s m args below meth c H locs cells slots Q (F0 m pc ls rest) := by
  obtain ⟨hx, hb, hml, hown, hts, hr, hlk, hK, hSt⟩ := C0
  exact va_gets hx hb hSt.2.2.1.1 hS hown (hts _ h1) (fun _ h => h) hdg k
theorem zo_getsq (C0 : zCx p s m args meth c cc mL own rt G N) (hS : va_S (zA G N s.heap.size) s.heap H locs) {index : Nat} (h1 : Cond.fieldLink own index "jdk/internal/util/Preconditions" "SIOOBE_FORMATTER" "Ljava/util/function/BiFunction;" ∈ zT) (hdg : decode cc pc = .ok (.getstatic index, 3))
    (k1 : W p l e R s m args below meth c H locs cells slots Q (F0 m (pc + 3) ls (.null :: rest))) (k2 : ∀ tq : Nat, W p l e R s m args below meth c H locs cells slots Q (F0 m (pc + 3) ls (.ref tq :: rest))) : W p l e R s m args below meth c H locs cells slots Q (F0 m pc ls rest) := by
  obtain ⟨hx, hb, hml, hown, hts, hr, hlk, hK, hSt⟩ := C0
  rcases hSt.2.2.1.2.1 with h | ⟨t, h⟩
  · exact va_gets hx hb h hS hown (hts _ h1) (fun _ h => h) hdg k1
  · exact va_gets hx hb h hS hown (hts _ h1) (fun _ h => h) hdg (k2 t)
def zch (v : Int32) : Bool := decide (v = zi2c v)
theorem zch_i {v : Int32} (h : zch v = true) : narrow .char (.int v) = .int v := by
  have e : v = zi2c v := of_decide_eq_true h
  rw [e]; exact pk_nc _
theorem zi2c_n (x : Int32) : narrow .char (.int (zi2c x)) = .int (zi2c x) := pk_nc x
theorem zn_s {β : Type} {o : β} {P : Prop} (h : (none : Option β) = some o) : P := by cases h
end ZOPS
theorem shX_0 : shX 0 = .inl (5, [some 1, some 2, some 6, some 10, some 17, some 24, some 31, none, none]) := rfl
theorem shX_1 : shX 1 = .inr (3, 6, 32, 4) := rfl
theorem shX_2 : shX 2 = .inl (2, [some 3, some 4, some 5, none, none, none, none, none, none]) := rfl
theorem shX_3 : shX 3 = .inr (0, 160, 0, 0) := rfl
theorem shX_4 : shX 4 = .inr (0, 160, 0, 0) := rfl
theorem shX_5 : shX 5 = .inr (0, 3, 0, 0) := rfl
theorem shX_6 : shX 6 = .inl (1, [some 7, some 8, some 9, none, none, none, none]) := rfl
theorem shX_7 : shX 7 = .inr (1, 10000, 0, 0) := rfl
theorem shX_8 : shX 8 = .inr (1, 31, 0, 0) := rfl
theorem shX_9 : shX 9 = .inr (0, 1000, 0, 0) := rfl
theorem shX_10 : shX 10 = .inl (4, [some 1, some 11, some 12, some 13, some 14, some 15, some 16, none, none, none, none]) := rfl
theorem shX_11 : shX 11 = .inr (0, 5, 0, 0) := rfl
theorem shX_12 : shX 12 = .inr (0, 5, 0, 0) := rfl
theorem shX_13 : shX 13 = .inr (0, 5, 0, 0) := rfl
theorem shX_14 : shX 14 = .inr (0, 5, 0, 0) := rfl
theorem shX_15 : shX 15 = .inr (0, 5, 0, 0) := rfl
theorem shX_16 : shX 16 = .inr (0, 6, 0, 0) := rfl
theorem shX_17 : shX 17 = .inl (4, [some 1, some 18, some 19, some 20, some 21, some 22, some 23, none, none, none, none]) := rfl
theorem shX_18 : shX 18 = .inr (0, 5, 0, 0) := rfl
theorem shX_19 : shX 19 = .inr (0, 5, 0, 0) := rfl
theorem shX_20 : shX 20 = .inr (0, 5, 0, 0) := rfl
theorem shX_21 : shX 21 = .inr (0, 5, 0, 0) := rfl
theorem shX_22 : shX 22 = .inr (0, 5, 0, 0) := rfl
theorem shX_23 : shX 23 = .inr (0, 6, 0, 0) := rfl
theorem shX_24 : shX 24 = .inl (4, [some 1, some 25, some 26, some 27, some 28, some 29, some 30, none, none, none, none]) := rfl
theorem shX_25 : shX 25 = .inr (0, 5, 0, 0) := rfl
theorem shX_26 : shX 26 = .inr (0, 5, 0, 0) := rfl
theorem shX_27 : shX 27 = .inr (0, 5, 0, 0) := rfl
theorem shX_28 : shX 28 = .inr (0, 5, 0, 0) := rfl
theorem shX_29 : shX 29 = .inr (0, 5, 0, 0) := rfl
theorem shX_30 : shX 30 = .inr (0, 6, 0, 0) := rfl
theorem shX_31 : shX 31 = .inr (4, 4, 56, 2) := rfl
theorem shX_32 : shX 32 = .inl (3, [some 33, some 34, some 35]) := rfl
theorem shX_33 : shX 33 = .inr (0, 160, 0, 0) := rfl
theorem shX_34 : shX 34 = .inr (0, 3, 0, 0) := rfl
theorem shX_35 : shX 35 = .inr (0, 160, 0, 0) := rfl
theorem shX_36 : shX 36 = .inl (3, [some 37, some 38, some 39]) := rfl
theorem shX_37 : shX 37 = .inr (0, 160, 0, 0) := rfl
theorem shX_38 : shX 38 = .inr (0, 3, 0, 0) := rfl
theorem shX_39 : shX 39 = .inr (0, 160, 0, 0) := rfl
theorem shX_40 : shX 40 = .inl (3, [some 41, some 42, some 43]) := rfl
theorem shX_41 : shX 41 = .inr (0, 160, 0, 0) := rfl
theorem shX_42 : shX 42 = .inr (0, 3, 0, 0) := rfl
theorem shX_43 : shX 43 = .inr (0, 160, 0, 0) := rfl
theorem shX_44 : shX 44 = .inl (3, [some 45, some 46, some 47]) := rfl
theorem shX_45 : shX 45 = .inr (0, 160, 0, 0) := rfl
theorem shX_46 : shX 46 = .inr (0, 3, 0, 0) := rfl
theorem shX_47 : shX 47 = .inr (0, 160, 0, 0) := rfl
theorem shX_48 : shX 48 = .inl (3, [some 49, some 50, some 51]) := rfl
theorem shX_49 : shX 49 = .inr (0, 160, 0, 0) := rfl
theorem shX_50 : shX 50 = .inr (0, 3, 0, 0) := rfl
theorem shX_51 : shX 51 = .inr (0, 160, 0, 0) := rfl
theorem shX_52 : shX 52 = .inl (3, [some 53, some 54, some 55]) := rfl
theorem shX_53 : shX 53 = .inr (0, 160, 0, 0) := rfl
theorem shX_54 : shX 54 = .inr (0, 3, 0, 0) := rfl
theorem shX_55 : shX 55 = .inr (0, 160, 0, 0) := rfl
theorem shX_56 : shX 56 = .inl (0, [some 57, none, none]) := rfl
theorem shX_57 : shX 57 = .inr (0, 40, 0, 0) := rfl
theorem shX_58 : shX 58 = .inl (0, [some 59, none, none]) := rfl
theorem shX_59 : shX 59 = .inr (0, 40, 0, 0) := rfl
theorem shX_60 : shX 60 = .inl (0, [some 61, none, none]) := rfl
theorem shX_61 : shX 61 = .inr (0, 40, 0, 0) := rfl
theorem shX_62 : shX 62 = .inl (0, [some 63, none, none]) := rfl
theorem shX_63 : shX 63 = .inr (0, 40, 0, 0) := rfl
theorem shM_0 : shM 0 = .inl (6, [none, none, none, some 1, some 2, some 3, some 4, none, none, some 5, none, some 6, some 7, some 8, none, none, none, none, none, none, some 9, none, none, none, none, none, some 10, some 11, none, none, some 12, some 13, some 14, none, none, none, some 15, some 16, none, none, none, none, none, none, none, some 17, some 18, some 19, some 20, some 21, some 22]) := rfl
theorem shM_1 : shM 1 = .inr (0, 5, 0, 0) := rfl
theorem shM_2 : shM 2 = .inr (0, 5, 0, 0) := rfl
theorem shM_3 : shM 3 = .inr (0, 5, 0, 0) := rfl
theorem shM_4 : shM 4 = .inr (0, 5, 0, 0) := rfl
theorem shM_5 : shM 5 = .inr (0, 160, 0, 0) := rfl
theorem shM_6 : shM 6 = .inr (0, 18, 0, 0) := rfl
theorem shM_7 : shM 7 = .inr (0, 18, 0, 0) := rfl
theorem shM_8 : shM 8 = .inr (0, 3000, 0, 0) := rfl
theorem shM_9 : shM 9 = .inr (0, 200, 0, 0) := rfl
theorem shM_10 : shM 10 = .inr (0, 200, 0, 0) := rfl
theorem shM_11 : shM 11 = .inr (0, 6, 0, 0) := rfl
theorem shM_12 : shM 12 = .inr (0, 5, 0, 0) := rfl
theorem shM_13 : shM 13 = .inr (0, 5, 0, 0) := rfl
theorem shM_14 : shM 14 = .inr (0, 5, 0, 0) := rfl
theorem shM_15 : shM 15 = .inr (2, 31000, 0, 0) := rfl
theorem shM_16 : shM 16 = .inr (0, 31000, 0, 0) := rfl
theorem shM_17 : shM 17 = .inr (0, 5, 0, 0) := rfl
theorem shM_18 : shM 18 = .inr (0, 5, 0, 0) := rfl
theorem shM_19 : shM 19 = .inr (0, 5, 0, 0) := rfl
theorem shM_20 : shM 20 = .inr (0, 4, 0, 0) := rfl
theorem shM_21 : shM 21 = .inr (0, 4, 0, 0) := rfl
theorem shM_22 : shM 22 = .inr (0, 160, 0, 0) := rfl
theorem uw_X0 : ∀ w ∈ u_ws RX0 TX0 3, w ∈ zT := fun w hw => zT_in ((by decide +kernel : ∀ w ∈ u_ws RX0 TX0 3, w ∈ lw_tbl) w hw) (List.all_eq_true.mp (by decide +kernel : (u_ws RX0 TX0 3).all goodWord = true) w hw)
theorem uw_X1 : ∀ w ∈ u_ws RX1 TX1 7, w ∈ zT := fun w hw => zT_in ((by decide +kernel : ∀ w ∈ u_ws RX1 TX1 7, w ∈ lw_tbl) w hw) (List.all_eq_true.mp (by decide +kernel : (u_ws RX1 TX1 7).all goodWord = true) w hw)
theorem uw_X2 : ∀ w ∈ u_ws RX2 TX2 9, w ∈ zT := fun w hw => zT_in ((by decide +kernel : ∀ w ∈ u_ws RX2 TX2 9, w ∈ lw_tbl) w hw) (List.all_eq_true.mp (by decide +kernel : (u_ws RX2 TX2 9).all goodWord = true) w hw)
theorem uw_X3 : ∀ w ∈ u_ws RX3 TX3 3, w ∈ zT := fun w hw => zT_in ((by decide +kernel : ∀ w ∈ u_ws RX3 TX3 3, w ∈ lw_tbl) w hw) (List.all_eq_true.mp (by decide +kernel : (u_ws RX3 TX3 3).all goodWord = true) w hw)
theorem uw_X4 : ∀ w ∈ u_ws RX4 TX4 11, w ∈ zT := fun w hw => zT_in ((by decide +kernel : ∀ w ∈ u_ws RX4 TX4 11, w ∈ lw_tbl) w hw) (List.all_eq_true.mp (by decide +kernel : (u_ws RX4 TX4 11).all goodWord = true) w hw)
theorem uw_X5 : ∀ w ∈ u_ws RX5 TX5 9, w ∈ zT := fun w hw => zT_in ((by decide +kernel : ∀ w ∈ u_ws RX5 TX5 9, w ∈ lw_tbl) w hw) (List.all_eq_true.mp (by decide +kernel : (u_ws RX5 TX5 9).all goodWord = true) w hw)
theorem uw_X6 : ∀ w ∈ u_ws RX6 TX6 51, w ∈ zT := fun w hw => zT_in ((by decide +kernel : ∀ w ∈ u_ws RX6 TX6 51, w ∈ lw_tbl) w hw) (List.all_eq_true.mp (by decide +kernel : (u_ws RX6 TX6 51).all goodWord = true) w hw)
