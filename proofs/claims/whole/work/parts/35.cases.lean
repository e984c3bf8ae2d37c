theorem mw_729 : Cond.methodLink RL 13 yX5_set ∈ zT := zT_in (List.mem_append_right _ (List.mem_of_getElem? (i := 386) (by decide +kernel))) (by decide +kernel)
theorem mw_730 : Cond.code yX5_set cX5_set 5 (some .int) ∈ zT := zT_in (List.mem_append_right _ (List.mem_of_getElem? (i := 389) (by decide +kernel))) (by decide +kernel)
theorem mw_731 : Cond.instanceMethod yX5_set ∈ zT := zT_in (List.mem_append_right _ (List.mem_of_getElem? (i := 387) (by decide +kernel))) (by decide +kernel)
theorem mw_732 : Cond.selects RX5 yX5_set yX5_set ∈ zT := zT_in (List.mem_append_right _ (List.mem_of_getElem? (i := 388) (by decide +kernel))) (by decide +kernel)
theorem mw_733 : Cond.methodLink RL 17 yX6_set ∈ zT := zT_in (List.mem_append_right _ (List.mem_of_getElem? (i := 871) (by decide +kernel))) (by decide +kernel)
theorem mw_734 : Cond.code yX6_set cX6_set 5 (some .int) ∈ zT := zT_in (List.mem_append_right _ (List.mem_of_getElem? (i := 874) (by decide +kernel))) (by decide +kernel)
theorem mw_735 : Cond.instanceMethod yX6_set ∈ zT := zT_in (List.mem_append_right _ (List.mem_of_getElem? (i := 872) (by decide +kernel))) (by decide +kernel)
theorem mw_736 : Cond.selects RX6 yX6_set yX6_set ∈ zT := zT_in (List.mem_append_right _ (List.mem_of_getElem? (i := 873) (by decide +kernel))) (by decide +kernel)
theorem mw_737 : Cond.methodLink RL 18 yX5_person ∈ zT := zT_in (List.mem_append_right _ (List.mem_of_getElem? (i := 404) (by decide +kernel))) (by decide +kernel)
theorem mw_738 : Cond.methodLink RL 21 yX6_person ∈ zT := zT_in (List.mem_append_right _ (List.mem_of_getElem? (i := 890) (by decide +kernel))) (by decide +kernel)
theorem mw_739 : Cond.methodLink RL 22 yX5_told ∈ zT := zT_in (List.mem_append_right _ (List.mem_of_getElem? (i := 416) (by decide +kernel))) (by decide +kernel)
theorem mw_740 : Cond.code yX5_told cX5_told 3 (some .int) ∈ zT := zT_in (List.mem_append_right _ (List.mem_of_getElem? (i := 419) (by decide +kernel))) (by decide +kernel)
theorem mw_741 : Cond.instanceMethod yX5_told ∈ zT := zT_in (List.mem_append_right _ (List.mem_of_getElem? (i := 417) (by decide +kernel))) (by decide +kernel)
theorem mw_742 : Cond.selects RX5 yX5_told yX5_told ∈ zT := zT_in (List.mem_append_right _ (List.mem_of_getElem? (i := 418) (by decide +kernel))) (by decide +kernel)
theorem mw_743 : Cond.methodLink RL 26 yX6_told ∈ zT := zT_in (List.mem_append_right _ (List.mem_of_getElem? (i := 894) (by decide +kernel))) (by decide +kernel)
theorem mw_744 : Cond.code yX6_told cX6_told 3 (some .int) ∈ zT := zT_in (List.mem_append_right _ (List.mem_of_getElem? (i := 897) (by decide +kernel))) (by decide +kernel)
theorem mw_745 : Cond.instanceMethod yX6_told ∈ zT := zT_in (List.mem_append_right _ (List.mem_of_getElem? (i := 895) (by decide +kernel))) (by decide +kernel)
theorem mw_746 : Cond.selects RX6 yX6_told yX6_told ∈ zT := zT_in (List.mem_append_right _ (List.mem_of_getElem? (i := 896) (by decide +kernel))) (by decide +kernel)
theorem mw_747 : Cond.methodLink RL 27 yX5_feed ∈ zT := zT_in (List.mem_append_right _ (List.mem_of_getElem? (i := 463) (by decide +kernel))) (by decide +kernel)
theorem mw_748 : Cond.code yX5_feed cX5_feed 2 (some .int) ∈ zT := zT_in (List.mem_append_right _ (List.mem_of_getElem? (i := 466) (by decide +kernel))) (by decide +kernel)
theorem mw_749 : Cond.instanceMethod yX5_feed ∈ zT := zT_in (List.mem_append_right _ (List.mem_of_getElem? (i := 464) (by decide +kernel))) (by decide +kernel)
theorem mw_750 : Cond.selects RX5 yX5_feed yX5_feed ∈ zT := zT_in (List.mem_append_right _ (List.mem_of_getElem? (i := 465) (by decide +kernel))) (by decide +kernel)
theorem mw_751 : Cond.methodLink RL 31 yX6_feed ∈ zT := zT_in (List.mem_append_right _ (List.mem_of_getElem? (i := 932) (by decide +kernel))) (by decide +kernel)
theorem mw_752 : Cond.code yX6_feed cX6_feed 2 (some .int) ∈ zT := zT_in (List.mem_append_right _ (List.mem_of_getElem? (i := 935) (by decide +kernel))) (by decide +kernel)
theorem mw_753 : Cond.instanceMethod yX6_feed ∈ zT := zT_in (List.mem_append_right _ (List.mem_of_getElem? (i := 933) (by decide +kernel))) (by decide +kernel)
theorem mw_754 : Cond.selects RX6 yX6_feed yX6_feed ∈ zT := zT_in (List.mem_append_right _ (List.mem_of_getElem? (i := 934) (by decide +kernel))) (by decide +kernel)
theorem mw_755 : Cond.methodLink RL 32 yX5_text ∈ zT := zT_in (List.mem_append_right _ (List.mem_of_getElem? (i := 467) (by decide +kernel))) (by decide +kernel)
theorem mw_756 : Cond.methodLink RL 36 yX6_text ∈ zT := zT_in (List.mem_append_right _ (List.mem_of_getElem? (i := 936) (by decide +kernel))) (by decide +kernel)
theorem mw_757 : Cond.code yX6_text cX6_text 3 (some .int) ∈ zT := zT_in (List.mem_append_right _ (List.mem_of_getElem? (i := 939) (by decide +kernel))) (by decide +kernel)
theorem mw_758 : Cond.instanceMethod yX6_text ∈ zT := zT_in (List.mem_append_right _ (List.mem_of_getElem? (i := 937) (by decide +kernel))) (by decide +kernel)
theorem mw_759 : Cond.selects RX6 yX6_text yX6_text ∈ zT := zT_in (List.mem_append_right _ (List.mem_of_getElem? (i := 938) (by decide +kernel))) (by decide +kernel)
theorem mw_760 : Cond.methodLink RL 37 yX5_force ∈ zT := zT_in (List.mem_append_right _ (List.mem_of_getElem? (i := 468) (by decide +kernel))) (by decide +kernel)
theorem mw_761 : Cond.code yX5_force cX5_force 3 (some .int) ∈ zT := zT_in (List.mem_append_right _ (List.mem_of_getElem? (i := 471) (by decide +kernel))) (by decide +kernel)
theorem mw_762 : Cond.instanceMethod yX5_force ∈ zT := zT_in (List.mem_append_right _ (List.mem_of_getElem? (i := 469) (by decide +kernel))) (by decide +kernel)
theorem mw_763 : Cond.selects RX5 yX5_force yX5_force ∈ zT := zT_in (List.mem_append_right _ (List.mem_of_getElem? (i := 470) (by decide +kernel))) (by decide +kernel)
theorem mw_764 : Cond.methodLink RL 40 yX6_force ∈ zT := zT_in (List.mem_append_right _ (List.mem_of_getElem? (i := 999) (by decide +kernel))) (by decide +kernel)
theorem mw_765 : Cond.code yX6_force cX6_force 3 (some .int) ∈ zT := zT_in (List.mem_append_right _ (List.mem_of_getElem? (i := 1002) (by decide +kernel))) (by decide +kernel)
theorem mw_766 : Cond.instanceMethod yX6_force ∈ zT := zT_in (List.mem_append_right _ (List.mem_of_getElem? (i := 1000) (by decide +kernel))) (by decide +kernel)
theorem mw_767 : Cond.selects RX6 yX6_force yX6_force ∈ zT := zT_in (List.mem_append_right _ (List.mem_of_getElem? (i := 1001) (by decide +kernel))) (by decide +kernel)
theorem mw_768 : Cond.methodLink RL 41 yX5_day ∈ zT := zT_in (List.mem_append_right _ (List.mem_of_getElem? (i := 472) (by decide +kernel))) (by decide +kernel)
theorem mw_769 : Cond.code yX5_day cX5_day 1 (some .int) ∈ zT := zT_in (List.mem_append_right _ (List.mem_of_getElem? (i := 475) (by decide +kernel))) (by decide +kernel)
theorem mw_770 : Cond.instanceMethod yX5_day ∈ zT := zT_in (List.mem_append_right _ (List.mem_of_getElem? (i := 473) (by decide +kernel))) (by decide +kernel)
theorem mw_771 : Cond.selects RX5 yX5_day yX5_day ∈ zT := zT_in (List.mem_append_right _ (List.mem_of_getElem? (i := 474) (by decide +kernel))) (by decide +kernel)
theorem mw_772 : Cond.methodLink RL 44 yX6_day ∈ zT := zT_in (List.mem_append_right _ (List.mem_of_getElem? (i := 1003) (by decide +kernel))) (by decide +kernel)
theorem mw_773 : Cond.code yX6_day cX6_day 1 (some .int) ∈ zT := zT_in (List.mem_append_right _ (List.mem_of_getElem? (i := 1006) (by decide +kernel))) (by decide +kernel)
theorem mw_774 : Cond.instanceMethod yX6_day ∈ zT := zT_in (List.mem_append_right _ (List.mem_of_getElem? (i := 1004) (by decide +kernel))) (by decide +kernel)
theorem mw_775 : Cond.selects RX6 yX6_day yX6_day ∈ zT := zT_in (List.mem_append_right _ (List.mem_of_getElem? (i := 1005) (by decide +kernel))) (by decide +kernel)
theorem mw_776 : Cond.methodLink RL 45 yX5_draw ∈ zT := zT_in (List.mem_append_right _ (List.mem_of_getElem? (i := 485) (by decide +kernel))) (by decide +kernel)
theorem mw_777 : Cond.code yX5_draw cX5_draw 4 (some .int) ∈ zT := zT_in (List.mem_append_right _ (List.mem_of_getElem? (i := 488) (by decide +kernel))) (by decide +kernel)
theorem mw_778 : Cond.instanceMethod yX5_draw ∈ zT := zT_in (List.mem_append_right _ (List.mem_of_getElem? (i := 486) (by decide +kernel))) (by decide +kernel)
theorem mw_779 : Cond.selects RX5 yX5_draw yX5_draw ∈ zT := zT_in (List.mem_append_right _ (List.mem_of_getElem? (i := 487) (by decide +kernel))) (by decide +kernel)
theorem mw_780 : Cond.methodLink RL 48 yX6_draw ∈ zT := zT_in (List.mem_append_right _ (List.mem_of_getElem? (i := 1015) (by decide +kernel))) (by decide +kernel)
theorem mw_781 : Cond.code yX6_draw cX6_draw 4 (some .int) ∈ zT := zT_in (List.mem_append_right _ (List.mem_of_getElem? (i := 1018) (by decide +kernel))) (by decide +kernel)
theorem mw_782 : Cond.instanceMethod yX6_draw ∈ zT := zT_in (List.mem_append_right _ (List.mem_of_getElem? (i := 1016) (by decide +kernel))) (by decide +kernel)
theorem mw_783 : Cond.selects RX6 yX6_draw yX6_draw ∈ zT := zT_in (List.mem_append_right _ (List.mem_of_getElem? (i := 1017) (by decide +kernel))) (by decide +kernel)
theorem mw_784 : Cond.methodLink RL 49 yX5_run ∈ zT := zT_in (List.mem_append_right _ (List.mem_of_getElem? (i := 493) (by decide +kernel))) (by decide +kernel)
theorem mw_785 : Cond.code yX5_run cX5_run 4 (some .int) ∈ zT := zT_in (List.mem_append_right _ (List.mem_of_getElem? (i := 496) (by decide +kernel))) (by decide +kernel)
theorem mw_786 : Cond.instanceMethod yX5_run ∈ zT := zT_in (List.mem_append_right _ (List.mem_of_getElem? (i := 494) (by decide +kernel))) (by decide +kernel)
theorem mw_787 : Cond.selects RX5 yX5_run yX5_run ∈ zT := zT_in (List.mem_append_right _ (List.mem_of_getElem? (i := 495) (by decide +kernel))) (by decide +kernel)
theorem mw_788 : Cond.methodLink RL 52 yX6_run ∈ zT := zT_in (List.mem_append_right _ (List.mem_of_getElem? (i := 1023) (by decide +kernel))) (by decide +kernel)
theorem mw_789 : Cond.code yX6_run cX6_run 5 (some .int) ∈ zT := zT_in (List.mem_append_right _ (List.mem_of_getElem? (i := 1026) (by decide +kernel))) (by decide +kernel)
theorem mw_790 : Cond.instanceMethod yX6_run ∈ zT := zT_in (List.mem_append_right _ (List.mem_of_getElem? (i := 1024) (by decide +kernel))) (by decide +kernel)
theorem mw_791 : Cond.selects RX6 yX6_run yX6_run ∈ zT := zT_in (List.mem_append_right _ (List.mem_of_getElem? (i := 1025) (by decide +kernel))) (by decide +kernel)
theorem mw_792 : Cond.methodLink RL 53 yX5_all ∈ zT := zT_in (List.mem_append_right _ (List.mem_of_getElem? (i := 506) (by decide +kernel))) (by decide +kernel)
theorem mw_793 : Cond.code yX5_all cX5_all 2 (some .int) ∈ zT := zT_in (List.mem_append_right _ (List.mem_of_getElem? (i := 509) (by decide +kernel))) (by decide +kernel)
theorem mw_794 : Cond.instanceMethod yX5_all ∈ zT := zT_in (List.mem_append_right _ (List.mem_of_getElem? (i := 507) (by decide +kernel))) (by decide +kernel)
theorem mw_795 : Cond.selects RX5 yX5_all yX5_all ∈ zT := zT_in (List.mem_append_right _ (List.mem_of_getElem? (i := 508) (by decide +kernel))) (by decide +kernel)
theorem mw_796 : Cond.methodLink RL 56 yX6_all ∈ zT := zT_in (List.mem_append_right _ (List.mem_of_getElem? (i := 1035) (by decide +kernel))) (by decide +kernel)
theorem mw_797 : Cond.code yX6_all cX6_all 3 (some .int) ∈ zT := zT_in (List.mem_append_right _ (List.mem_of_getElem? (i := 1038) (by decide +kernel))) (by decide +kernel)
theorem mw_798 : Cond.instanceMethod yX6_all ∈ zT := zT_in (List.mem_append_right _ (List.mem_of_getElem? (i := 1036) (by decide +kernel))) (by decide +kernel)
theorem mw_799 : Cond.selects RX6 yX6_all yX6_all ∈ zT := zT_in (List.mem_append_right _ (List.mem_of_getElem? (i := 1037) (by decide +kernel))) (by decide +kernel)
theorem mw_800 : Cond.methodLink RL 57 yX5_times ∈ zT := zT_in (List.mem_append_right _ (List.mem_of_getElem? (i := 520) (by decide +kernel))) (by decide +kernel)
theorem mw_801 : Cond.code yX5_times cX5_times 2 (some .long) ∈ zT := zT_in (List.mem_append_right _ (List.mem_of_getElem? (i := 523) (by decide +kernel))) (by decide +kernel)
theorem mw_802 : Cond.instanceMethod yX5_times ∈ zT := zT_in (List.mem_append_right _ (List.mem_of_getElem? (i := 521) (by decide +kernel))) (by decide +kernel)
theorem mw_803 : Cond.selects RX5 yX5_times yX5_times ∈ zT := zT_in (List.mem_append_right _ (List.mem_of_getElem? (i := 522) (by decide +kernel))) (by decide +kernel)
theorem mw_804 : Cond.methodLink RL 61 yX6_times ∈ zT := zT_in (List.mem_append_right _ (List.mem_of_getElem? (i := 1047) (by decide +kernel))) (by decide +kernel)
theorem mw_805 : Cond.code yX6_times cX6_times 2 (some .long) ∈ zT := zT_in (List.mem_append_right _ (List.mem_of_getElem? (i := 1050) (by decide +kernel))) (by decide +kernel)
theorem mw_806 : Cond.instanceMethod yX6_times ∈ zT := zT_in (List.mem_append_right _ (List.mem_of_getElem? (i := 1048) (by decide +kernel))) (by decide +kernel)
theorem mw_807 : Cond.selects RX6 yX6_times yX6_times ∈ zT := zT_in (List.mem_append_right _ (List.mem_of_getElem? (i := 1049) (by decide +kernel))) (by decide +kernel)
theorem mw_808 : Cond.methodLink RL 62 yX5_fewest ∈ zT := zT_in (List.mem_append_right _ (List.mem_of_getElem? (i := 581) (by decide +kernel))) (by decide +kernel)
theorem mw_809 : Cond.code yX5_fewest cX5_fewest 4 (some .int) ∈ zT := zT_in (List.mem_append_right _ (List.mem_of_getElem? (i := 584) (by decide +kernel))) (by decide +kernel)
theorem mw_810 : Cond.instanceMethod yX5_fewest ∈ zT := zT_in (List.mem_append_right _ (List.mem_of_getElem? (i := 582) (by decide +kernel))) (by decide +kernel)
theorem mw_811 : Cond.selects RX5 yX5_fewest yX5_fewest ∈ zT := zT_in (List.mem_append_right _ (List.mem_of_getElem? (i := 583) (by decide +kernel))) (by decide +kernel)
theorem mw_812 : Cond.methodLink RL 65 yX6_fewest ∈ zT := zT_in (List.mem_append_right _ (List.mem_of_getElem? (i := 1068) (by decide +kernel))) (by decide +kernel)
theorem mw_813 : Cond.code yX6_fewest cX6_fewest 4 (some .int) ∈ zT := zT_in (List.mem_append_right _ (List.mem_of_getElem? (i := 1071) (by decide +kernel))) (by decide +kernel)
theorem mw_814 : Cond.instanceMethod yX6_fewest ∈ zT := zT_in (List.mem_append_right _ (List.mem_of_getElem? (i := 1069) (by decide +kernel))) (by decide +kernel)
theorem mw_815 : Cond.selects RX6 yX6_fewest yX6_fewest ∈ zT := zT_in (List.mem_append_right _ (List.mem_of_getElem? (i := 1070) (by decide +kernel))) (by decide +kernel)
theorem mw_816 : Cond.methodLink RL 66 yX5_best ∈ zT := zT_in (List.mem_append_right _ (List.mem_of_getElem? (i := 604) (by decide +kernel))) (by decide +kernel)
theorem mw_817 : Cond.code yX5_best cX5_best 10 (some .int) ∈ zT := zT_in (List.mem_append_right _ (List.mem_of_getElem? (i := 607) (by decide +kernel))) (by decide +kernel)
theorem mw_818 : Cond.instanceMethod yX5_best ∈ zT := zT_in (List.mem_append_right _ (List.mem_of_getElem? (i := 605) (by decide +kernel))) (by decide +kernel)
theorem mw_819 : Cond.selects RX5 yX5_best yX5_best ∈ zT := zT_in (List.mem_append_right _ (List.mem_of_getElem? (i := 606) (by decide +kernel))) (by decide +kernel)
theorem mw_820 : Cond.methodLink RL 69 yX6_best ∈ zT := zT_in (List.mem_append_right _ (List.mem_of_getElem? (i := 1098) (by decide +kernel))) (by decide +kernel)
theorem mw_821 : Cond.code yX6_best cX6_best 6 (some .int) ∈ zT := zT_in (List.mem_append_right _ (List.mem_of_getElem? (i := 1101) (by decide +kernel))) (by decide +kernel)
theorem mw_822 : Cond.instanceMethod yX6_best ∈ zT := zT_in (List.mem_append_right _ (List.mem_of_getElem? (i := 1099) (by decide +kernel))) (by decide +kernel)
theorem mw_823 : Cond.selects RX6 yX6_best yX6_best ∈ zT := zT_in (List.mem_append_right _ (List.mem_of_getElem? (i := 1100) (by decide +kernel))) (by decide +kernel)
theorem mw_824 : Cond.methodLink RL 70 yX5_makes ∈ zT := zT_in (List.mem_append_right _ (List.mem_of_getElem? (i := 608) (by decide +kernel))) (by decide +kernel)
theorem mw_825 : Cond.code yX5_makes cX5_makes 8 (some .int) ∈ zT := zT_in (List.mem_append_right _ (List.mem_of_getElem? (i := 611) (by decide +kernel))) (by decide +kernel)
theorem mw_826 : Cond.instanceMethod yX5_makes ∈ zT := zT_in (List.mem_append_right _ (List.mem_of_getElem? (i := 609) (by decide +kernel))) (by decide +kernel)
theorem mw_827 : Cond.selects RX5 yX5_makes yX5_makes ∈ zT := zT_in (List.mem_append_right _ (List.mem_of_getElem? (i := 610) (by decide +kernel))) (by decide +kernel)
theorem mw_828 : Cond.methodLink RL 73 yX6_makes ∈ zT := zT_in (List.mem_append_right _ (List.mem_of_getElem? (i := 1102) (by decide +kernel))) (by decide +kernel)
theorem mw_829 : Cond.code yX6_makes cX6_makes 4 (some .int) ∈ zT := zT_in (List.mem_append_right _ (List.mem_of_getElem? (i := 1105) (by decide +kernel))) (by decide +kernel)
theorem mw_830 : Cond.instanceMethod yX6_makes ∈ zT := zT_in (List.mem_append_right _ (List.mem_of_getElem? (i := 1103) (by decide +kernel))) (by decide +kernel)
theorem mw_831 : Cond.selects RX6 yX6_makes yX6_makes ∈ zT := zT_in (List.mem_append_right _ (List.mem_of_getElem? (i := 1104) (by decide +kernel))) (by decide +kernel)
theorem mw_832 : Cond.methodLink RL 74 yX5_tells ∈ zT := zT_in (List.mem_append_right _ (List.mem_of_getElem? (i := 612) (by decide +kernel))) (by decide +kernel)
theorem mw_833 : Cond.code yX5_tells cX5_tells 9 (some .int) ∈ zT := zT_in (List.mem_append_right _ (List.mem_of_getElem? (i := 615) (by decide +kernel))) (by decide +kernel)
theorem mw_834 : Cond.instanceMethod yX5_tells ∈ zT := zT_in (List.mem_append_right _ (List.mem_of_getElem? (i := 613) (by decide +kernel))) (by decide +kernel)
theorem mw_835 : Cond.selects RX5 yX5_tells yX5_tells ∈ zT := zT_in (List.mem_append_right _ (List.mem_of_getElem? (i := 614) (by decide +kernel))) (by decide +kernel)
theorem mw_836 : Cond.methodLink RL 77 yX6_tells ∈ zT := zT_in (List.mem_append_right _ (List.mem_of_getElem? (i := 1118) (by decide +kernel))) (by decide +kernel)
theorem mw_837 : Cond.code yX6_tells cX6_tells 4 (some .int) ∈ zT := zT_in (List.mem_append_right _ (List.mem_of_getElem? (i := 1121) (by decide +kernel))) (by decide +kernel)
theorem mw_838 : Cond.instanceMethod yX6_tells ∈ zT := zT_in (List.mem_append_right _ (List.mem_of_getElem? (i := 1119) (by decide +kernel))) (by decide +kernel)
theorem mw_839 : Cond.selects RX6 yX6_tells yX6_tells ∈ zT := zT_in (List.mem_append_right _ (List.mem_of_getElem? (i := 1120) (by decide +kernel))) (by decide +kernel)
theorem mw_840 : Cond.methodLink RL 78 yX5_film ∈ zT := zT_in (List.mem_append_right _ (List.mem_of_getElem? (i := 628) (by decide +kernel))) (by decide +kernel)
theorem mw_841 : Cond.code yX5_film cX5_film 6 (some .int) ∈ zT := zT_in (List.mem_append_right _ (List.mem_of_getElem? (i := 631) (by decide +kernel))) (by decide +kernel)
theorem mw_842 : Cond.instanceMethod yX5_film ∈ zT := zT_in (List.mem_append_right _ (List.mem_of_getElem? (i := 629) (by decide +kernel))) (by decide +kernel)
theorem mw_843 : Cond.selects RX5 yX5_film yX5_film ∈ zT := zT_in (List.mem_append_right _ (List.mem_of_getElem? (i := 630) (by decide +kernel))) (by decide +kernel)
theorem mw_844 : Cond.methodLink RL 81 yX6_film ∈ zT := zT_in (List.mem_append_right _ (List.mem_of_getElem? (i := 1157) (by decide +kernel))) (by decide +kernel)
theorem mw_845 : Cond.code yX6_film cX6_film 5 (some .int) ∈ zT := zT_in (List.mem_append_right _ (List.mem_of_getElem? (i := 1160) (by decide +kernel))) (by decide +kernel)
theorem mw_846 : Cond.instanceMethod yX6_film ∈ zT := zT_in (List.mem_append_right _ (List.mem_of_getElem? (i := 1158) (by decide +kernel))) (by decide +kernel)
theorem mw_847 : Cond.selects RX6 yX6_film yX6_film ∈ zT := zT_in (List.mem_append_right _ (List.mem_of_getElem? (i := 1159) (by decide +kernel))) (by decide +kernel)
theorem mw_848 : Cond.methodLink RL 82 yX5_drawn ∈ zT := zT_in (List.mem_append_right _ (List.mem_of_getElem? (i := 643) (by decide +kernel))) (by decide +kernel)
theorem mw_849 : Cond.code yX5_drawn cX5_drawn 3 (some .int) ∈ zT := zT_in (List.mem_append_right _ (List.mem_of_getElem? (i := 646) (by decide +kernel))) (by decide +kernel)
theorem mw_850 : Cond.instanceMethod yX5_drawn ∈ zT := zT_in (List.mem_append_right _ (List.mem_of_getElem? (i := 644) (by decide +kernel))) (by decide +kernel)
theorem mw_851 : Cond.selects RX5 yX5_drawn yX5_drawn ∈ zT := zT_in (List.mem_append_right _ (List.mem_of_getElem? (i := 645) (by decide +kernel))) (by decide +kernel)
theorem mw_852 : Cond.methodLink RL 85 yX6_drawn ∈ zT := zT_in (List.mem_append_right _ (List.mem_of_getElem? (i := 1165) (by decide +kernel))) (by decide +kernel)
theorem mw_853 : Cond.code yX6_drawn cX6_drawn 3 (some .int) ∈ zT := zT_in (List.mem_append_right _ (List.mem_of_getElem? (i := 1168) (by decide +kernel))) (by decide +kernel)
theorem mw_854 : Cond.instanceMethod yX6_drawn ∈ zT := zT_in (List.mem_append_right _ (List.mem_of_getElem? (i := 1166) (by decide +kernel))) (by decide +kernel)
theorem mw_855 : Cond.selects RX6 yX6_drawn yX6_drawn ∈ zT := zT_in (List.mem_append_right _ (List.mem_of_getElem? (i := 1167) (by decide +kernel))) (by decide +kernel)
theorem mw_856 : Cond.methodLink RL 86 yX5_chance ∈ zT := zT_in (List.mem_append_right _ (List.mem_of_getElem? (i := 653) (by decide +kernel))) (by decide +kernel)
theorem mw_857 : Cond.code yX5_chance cX5_chance 7 (some .long) ∈ zT := zT_in (List.mem_append_right _ (List.mem_of_getElem? (i := 656) (by decide +kernel))) (by decide +kernel)
theorem mw_858 : Cond.instanceMethod yX5_chance ∈ zT := zT_in (List.mem_append_right _ (List.mem_of_getElem? (i := 654) (by decide +kernel))) (by decide +kernel)
theorem mw_859 : Cond.selects RX5 yX5_chance yX5_chance ∈ zT := zT_in (List.mem_append_right _ (List.mem_of_getElem? (i := 655) (by decide +kernel))) (by decide +kernel)
theorem mw_860 : Cond.methodLink RL 90 yX6_chance ∈ zT := zT_in (List.mem_append_right _ (List.mem_of_getElem? (i := 1174) (by decide +kernel))) (by decide +kernel)
theorem mw_861 : Cond.code yX6_chance cX6_chance 9 (some .long) ∈ zT := zT_in (List.mem_append_right _ (List.mem_of_getElem? (i := 1177) (by decide +kernel))) (by decide +kernel)
theorem mw_862 : Cond.instanceMethod yX6_chance ∈ zT := zT_in (List.mem_append_right _ (List.mem_of_getElem? (i := 1175) (by decide +kernel))) (by decide +kernel)
theorem mw_863 : Cond.selects RX6 yX6_chance yX6_chance ∈ zT := zT_in (List.mem_append_right _ (List.mem_of_getElem? (i := 1176) (by decide +kernel))) (by decide +kernel)
theorem mw_864 : Cond.methodLink RL 91 yX5_image ∈ zT := zT_in (List.mem_append_right _ (List.mem_of_getElem? (i := 660) (by decide +kernel))) (by decide +kernel)
theorem mw_865 : Cond.code yX5_image cX5_image 1 (some .int) ∈ zT := zT_in (List.mem_append_right _ (List.mem_of_getElem? (i := 663) (by decide +kernel))) (by decide +kernel)
theorem mw_866 : Cond.instanceMethod yX5_image ∈ zT := zT_in (List.mem_append_right _ (List.mem_of_getElem? (i := 661) (by decide +kernel))) (by decide +kernel)
theorem mw_867 : Cond.selects RX5 yX5_image yX5_image ∈ zT := zT_in (List.mem_append_right _ (List.mem_of_getElem? (i := 662) (by decide +kernel))) (by decide +kernel)
theorem mw_868 : Cond.methodLink RL 94 yX6_image ∈ zT := zT_in (List.mem_append_right _ (List.mem_of_getElem? (i := 1178) (by decide +kernel))) (by decide +kernel)
theorem mw_869 : Cond.code yX6_image cX6_image 2 (some .int) ∈ zT := zT_in (List.mem_append_right _ (List.mem_of_getElem? (i := 1181) (by decide +kernel))) (by decide +kernel)
theorem mw_870 : Cond.instanceMethod yX6_image ∈ zT := zT_in (List.mem_append_right _ (List.mem_of_getElem? (i := 1179) (by decide +kernel))) (by decide +kernel)
theorem mw_871 : Cond.selects RX6 yX6_image yX6_image ∈ zT := zT_in (List.mem_append_right _ (List.mem_of_getElem? (i := 1180) (by decide +kernel))) (by decide +kernel)
theorem mw_872 : Cond.methodLink RL 95 yX5_back ∈ zT := zT_in (List.mem_append_right _ (List.mem_of_getElem? (i := 664) (by decide +kernel))) (by decide +kernel)
theorem mw_873 : Cond.code yX5_back cX5_back 1 (some .int) ∈ zT := zT_in (List.mem_append_right _ (List.mem_of_getElem? (i := 667) (by decide +kernel))) (by decide +kernel)
theorem mw_874 : Cond.instanceMethod yX5_back ∈ zT := zT_in (List.mem_append_right _ (List.mem_of_getElem? (i := 665) (by decide +kernel))) (by decide +kernel)
theorem mw_875 : Cond.selects RX5 yX5_back yX5_back ∈ zT := zT_in (List.mem_append_right _ (List.mem_of_getElem? (i := 666) (by decide +kernel))) (by decide +kernel)
theorem mw_876 : Cond.methodLink RL 98 yX6_back ∈ zT := zT_in (List.mem_append_right _ (List.mem_of_getElem? (i := 1182) (by decide +kernel))) (by decide +kernel)
theorem mw_877 : Cond.code yX6_back cX6_back 2 (some .int) ∈ zT := zT_in (List.mem_append_right _ (List.mem_of_getElem? (i := 1185) (by decide +kernel))) (by decide +kernel)
theorem mw_878 : Cond.instanceMethod yX6_back ∈ zT := zT_in (List.mem_append_right _ (List.mem_of_getElem? (i := 1183) (by decide +kernel))) (by decide +kernel)
theorem mw_879 : Cond.selects RX6 yX6_back yX6_back ∈ zT := zT_in (List.mem_append_right _ (List.mem_of_getElem? (i := 1184) (by decide +kernel))) (by decide +kernel)
theorem mw_880 : Cond.methodLink RL 99 yX5_count ∈ zT := zT_in (List.mem_append_right _ (List.mem_of_getElem? (i := 668) (by decide +kernel))) (by decide +kernel)
theorem mw_881 : Cond.code yX5_count cX5_count 2 (some .int) ∈ zT := zT_in (List.mem_append_right _ (List.mem_of_getElem? (i := 671) (by decide +kernel))) (by decide +kernel)
theorem mw_882 : Cond.instanceMethod yX5_count ∈ zT := zT_in (List.mem_append_right _ (List.mem_of_getElem? (i := 669) (by decide +kernel))) (by decide +kernel)
theorem mw_883 : Cond.selects RX5 yX5_count yX5_count ∈ zT := zT_in (List.mem_append_right _ (List.mem_of_getElem? (i := 670) (by decide +kernel))) (by decide +kernel)
theorem mw_884 : Cond.methodLink RL 102 yX6_count ∈ zT := zT_in (List.mem_append_right _ (List.mem_of_getElem? (i := 1186) (by decide +kernel))) (by decide +kernel)
theorem mw_885 : Cond.code yX6_count cX6_count 2 (some .int) ∈ zT := zT_in (List.mem_append_right _ (List.mem_of_getElem? (i := 1189) (by decide +kernel))) (by decide +kernel)
theorem mw_886 : Cond.instanceMethod yX6_count ∈ zT := zT_in (List.mem_append_right _ (List.mem_of_getElem? (i := 1187) (by decide +kernel))) (by decide +kernel)
theorem mw_887 : Cond.selects RX6 yX6_count yX6_count ∈ zT := zT_in (List.mem_append_right _ (List.mem_of_getElem? (i := 1188) (by decide +kernel))) (by decide +kernel)
theorem mw_888 : Cond.methodLink RL 103 yX5_sheet ∈ zT := zT_in (List.mem_append_right _ (List.mem_of_getElem? (i := 672) (by decide +kernel))) (by decide +kernel)
theorem mw_889 : Cond.code yX5_sheet cX5_sheet 4 (some .int) ∈ zT := zT_in (List.mem_append_right _ (List.mem_of_getElem? (i := 675) (by decide +kernel))) (by decide +kernel)
theorem mw_890 : Cond.instanceMethod yX5_sheet ∈ zT := zT_in (List.mem_append_right _ (List.mem_of_getElem? (i := 673) (by decide +kernel))) (by decide +kernel)
theorem mw_891 : Cond.selects RX5 yX5_sheet yX5_sheet ∈ zT := zT_in (List.mem_append_right _ (List.mem_of_getElem? (i := 674) (by decide +kernel))) (by decide +kernel)
theorem mw_892 : Cond.methodLink RL 106 yX6_sheet ∈ zT := zT_in (List.mem_append_right _ (List.mem_of_getElem? (i := 1190) (by decide +kernel))) (by decide +kernel)
theorem mw_893 : Cond.methodLink RL 107 yX5_cell ∈ zT := zT_in (List.mem_append_right _ (List.mem_of_getElem? (i := 676) (by decide +kernel))) (by decide +kernel)
theorem mw_894 : Cond.code yX5_cell cX5_cell 5 (some .int) ∈ zT := zT_in (List.mem_append_right _ (List.mem_of_getElem? (i := 679) (by decide +kernel))) (by decide +kernel)
theorem mw_895 : Cond.instanceMethod yX5_cell ∈ zT := zT_in (List.mem_append_right _ (List.mem_of_getElem? (i := 677) (by decide +kernel))) (by decide +kernel)
theorem mw_896 : Cond.selects RX5 yX5_cell yX5_cell ∈ zT := zT_in (List.mem_append_right _ (List.mem_of_getElem? (i := 678) (by decide +kernel))) (by decide +kernel)
theorem mw_897 : Cond.methodLink RL 110 yX6_cell ∈ zT := zT_in (List.mem_append_right _ (List.mem_of_getElem? (i := 1191) (by decide +kernel))) (by decide +kernel)
theorem mw_898 : Cond.code yX6_cell cX6_cell 4 (some .int) ∈ zT := zT_in (List.mem_append_right _ (List.mem_of_getElem? (i := 1194) (by decide +kernel))) (by decide +kernel)
theorem mw_899 : Cond.instanceMethod yX6_cell ∈ zT := zT_in (List.mem_append_right _ (List.mem_of_getElem? (i := 1192) (by decide +kernel))) (by decide +kernel)
theorem mw_900 : Cond.selects RX6 yX6_cell yX6_cell ∈ zT := zT_in (List.mem_append_right _ (List.mem_of_getElem? (i := 1193) (by decide +kernel))) (by decide +kernel)
theorem mw_901 : Cond.methodLink RL 111 yX5_copy ∈ zT := zT_in (List.mem_append_right _ (List.mem_of_getElem? (i := 680) (by decide +kernel))) (by decide +kernel)
theorem mw_902 : Cond.code yX5_copy cX5_copy 8 (some .int) ∈ zT := zT_in (List.mem_append_right _ (List.mem_of_getElem? (i := 683) (by decide +kernel))) (by decide +kernel)
theorem mw_903 : Cond.instanceMethod yX5_copy ∈ zT := zT_in (List.mem_append_right _ (List.mem_of_getElem? (i := 681) (by decide +kernel))) (by decide +kernel)
theorem mw_904 : Cond.selects RX5 yX5_copy yX5_copy ∈ zT := zT_in (List.mem_append_right _ (List.mem_of_getElem? (i := 682) (by decide +kernel))) (by decide +kernel)
theorem mw_905 : Cond.methodLink RL 115 yX6_copy ∈ zT := zT_in (List.mem_append_right _ (List.mem_of_getElem? (i := 1195) (by decide +kernel))) (by decide +kernel)
theorem mw_906 : Cond.code yX6_copy cX6_copy 7 (some .int) ∈ zT := zT_in (List.mem_append_right _ (List.mem_of_getElem? (i := 1198) (by decide +kernel))) (by decide +kernel)
theorem mw_907 : Cond.instanceMethod yX6_copy ∈ zT := zT_in (List.mem_append_right _ (List.mem_of_getElem? (i := 1196) (by decide +kernel))) (by decide +kernel)
theorem mw_908 : Cond.selects RX6 yX6_copy yX6_copy ∈ zT := zT_in (List.mem_append_right _ (List.mem_of_getElem? (i := 1197) (by decide +kernel))) (by decide +kernel)
theorem mw_909 : Cond.methodLink RL 116 yX5_people ∈ zT := zT_in (List.mem_append_right _ (List.mem_of_getElem? (i := 691) (by decide +kernel))) (by decide +kernel)
theorem mw_910 : Cond.code yX5_people cX5_people 9 (some .int) ∈ zT := zT_in (List.mem_append_right _ (List.mem_of_getElem? (i := 694) (by decide +kernel))) (by decide +kernel)
theorem mw_911 : Cond.instanceMethod yX5_people ∈ zT := zT_in (List.mem_append_right _ (List.mem_of_getElem? (i := 692) (by decide +kernel))) (by decide +kernel)
theorem mw_912 : Cond.selects RX5 yX5_people yX5_people ∈ zT := zT_in (List.mem_append_right _ (List.mem_of_getElem? (i := 693) (by decide +kernel))) (by decide +kernel)
theorem mw_913 : Cond.methodLink RL 120 yX6_people ∈ zT := zT_in (List.mem_append_right _ (List.mem_of_getElem? (i := 1199) (by decide +kernel))) (by decide +kernel)
theorem mw_914 : Cond.code yX6_people cX6_people 10 (some .int) ∈ zT := zT_in (List.mem_append_right _ (List.mem_of_getElem? (i := 1202) (by decide +kernel))) (by decide +kernel)
theorem mw_915 : Cond.instanceMethod yX6_people ∈ zT := zT_in (List.mem_append_right _ (List.mem_of_getElem? (i := 1200) (by decide +kernel))) (by decide +kernel)
theorem mw_916 : Cond.selects RX6 yX6_people yX6_people ∈ zT := zT_in (List.mem_append_right _ (List.mem_of_getElem? (i := 1201) (by decide +kernel))) (by decide +kernel)
theorem mw_917 : Cond.methodLink RL 121 yX5_taken ∈ zT := zT_in (List.mem_append_right _ (List.mem_of_getElem? (i := 696) (by decide +kernel))) (by decide +kernel)
theorem mw_918 : Cond.code yX5_taken cX5_taken 3 (some .int) ∈ zT := zT_in (List.mem_append_right _ (List.mem_of_getElem? (i := 699) (by decide +kernel))) (by decide +kernel)
theorem mw_919 : Cond.instanceMethod yX5_taken ∈ zT := zT_in (List.mem_append_right _ (List.mem_of_getElem? (i := 697) (by decide +kernel))) (by decide +kernel)
theorem mw_920 : Cond.selects RX5 yX5_taken yX5_taken ∈ zT := zT_in (List.mem_append_right _ (List.mem_of_getElem? (i := 698) (by decide +kernel))) (by decide +kernel)
theorem mw_921 : Cond.methodLink RL 124 yX6_taken ∈ zT := zT_in (List.mem_append_right _ (List.mem_of_getElem? (i := 1206) (by decide +kernel))) (by decide +kernel)
theorem mw_922 : Cond.code yX6_taken cX6_taken 4 (some .int) ∈ zT := zT_in (List.mem_append_right _ (List.mem_of_getElem? (i := 1209) (by decide +kernel))) (by decide +kernel)
theorem mw_923 : Cond.instanceMethod yX6_taken ∈ zT := zT_in (List.mem_append_right _ (List.mem_of_getElem? (i := 1207) (by decide +kernel))) (by decide +kernel)
theorem mw_924 : Cond.selects RX6 yX6_taken yX6_taken ∈ zT := zT_in (List.mem_append_right _ (List.mem_of_getElem? (i := 1208) (by decide +kernel))) (by decide +kernel)
theorem mw_925 : Cond.classLink RL 7 RX5 ∈ zT := zT_in (List.mem_append_right _ (List.mem_of_getElem? (i := 17) (by decide +kernel))) (by decide +kernel)
theorem mw_926 : Cond.instantiable RX5 9 ∈ zT := zT_in (List.mem_append_right _ (List.mem_of_getElem? (i := 18) (by decide +kernel))) (by decide +kernel)
theorem mw_927 : Cond.code yX5_init cX5_init 2 none ∈ zT := zT_in (List.mem_append_right _ (List.mem_of_getElem? (i := 21) (by decide +kernel))) (by decide +kernel)
theorem mw_928 : Cond.methodLink RL 9 yX5_init ∈ zT := zT_in (List.mem_append_right _ (List.mem_of_getElem? (i := 19) (by decide +kernel))) (by decide +kernel)
theorem mw_929 : Cond.instanceMethod yX5_init ∈ zT := zT_in (List.mem_append_right _ (List.mem_of_getElem? (i := 20) (by decide +kernel))) (by decide +kernel)
theorem mw_930 : Cond.classLink RL 10 RX6 ∈ zT := zT_in (List.mem_append_right _ (List.mem_of_getElem? (i := 706) (by decide +kernel))) (by decide +kernel)
theorem mw_931 : Cond.instantiable RX6 51 ∈ zT := zT_in (List.mem_append_right _ (List.mem_of_getElem? (i := 707) (by decide +kernel))) (by decide +kernel)
theorem mw_932 : Cond.code yX6_init cX6_init 2 none ∈ zT := zT_in (List.mem_append_right _ (List.mem_of_getElem? (i := 710) (by decide +kernel))) (by decide +kernel)
theorem mw_933 : Cond.methodLink RL 12 yX6_init ∈ zT := zT_in (List.mem_append_right _ (List.mem_of_getElem? (i := 708) (by decide +kernel))) (by decide +kernel)
theorem mw_934 : Cond.instanceMethod yX6_init ∈ zT := zT_in (List.mem_append_right _ (List.mem_of_getElem? (i := 709) (by decide +kernel))) (by decide +kernel)
theorem lk_L_13 : zLk RL 13 yX5_set cX5_set 5 (some .int) := ⟨mw_729, mw_731, mw_732, mw_51, mw_730⟩
theorem lk_L_17 : zLk RL 17 yX6_set cX6_set 5 (some .int) := ⟨mw_733, mw_735, mw_736, mw_393, mw_734⟩
theorem lk_L_18 : zLk RL 18 yX5_person cX5_person 4 (some .int) := ⟨mw_737, mw_386, mw_387, mw_51, mw_385⟩
theorem lk_L_21 : zLk RL 21 yX6_person cX6_person 4 (some .int) := ⟨mw_738, mw_686, mw_687, mw_393, mw_685⟩
theorem lk_L_22 : zLk RL 22 yX5_told cX5_told 3 (some .int) := ⟨mw_739, mw_741, mw_742, mw_51, mw_740⟩
theorem lk_L_26 : zLk RL 26 yX6_told cX6_told 3 (some .int) := ⟨mw_743, mw_745, mw_746, mw_393, mw_744⟩
theorem lk_L_27 : zLk RL 27 yX5_feed cX5_feed 2 (some .int) := ⟨mw_747, mw_749, mw_750, mw_51, mw_748⟩
theorem lk_L_31 : zLk RL 31 yX6_feed cX6_feed 2 (some .int) := ⟨mw_751, mw_753, mw_754, mw_393, mw_752⟩
theorem lk_L_32 : zLk RL 32 yX5_text cX5_text 2 (some .int) := ⟨mw_755, mw_724, mw_725, mw_51, mw_723⟩
theorem lk_L_36 : zLk RL 36 yX6_text cX6_text 3 (some .int) := ⟨mw_756, mw_758, mw_759, mw_393, mw_757⟩
theorem lk_L_37 : zLk RL 37 yX5_force cX5_force 3 (some .int) := ⟨mw_760, mw_762, mw_763, mw_51, mw_761⟩
theorem lk_L_40 : zLk RL 40 yX6_force cX6_force 3 (some .int) := ⟨mw_764, mw_766, mw_767, mw_393, mw_765⟩
theorem lk_L_41 : zLk RL 41 yX5_day cX5_day 1 (some .int) := ⟨mw_768, mw_770, mw_771, mw_51, mw_769⟩
theorem lk_L_44 : zLk RL 44 yX6_day cX6_day 1 (some .int) := ⟨mw_772, mw_774, mw_775, mw_393, mw_773⟩
theorem lk_L_45 : zLk RL 45 yX5_draw cX5_draw 4 (some .int) := ⟨mw_776, mw_778, mw_779, mw_51, mw_777⟩
theorem lk_L_48 : zLk RL 48 yX6_draw cX6_draw 4 (some .int) := ⟨mw_780, mw_782, mw_783, mw_393, mw_781⟩
theorem lk_L_49 : zLk RL 49 yX5_run cX5_run 4 (some .int) := ⟨mw_784, mw_786, mw_787, mw_51, mw_785⟩
theorem lk_L_52 : zLk RL 52 yX6_run cX6_run 5 (some .int) := ⟨mw_788, mw_790, mw_791, mw_393, mw_789⟩
theorem lk_L_53 : zLk RL 53 yX5_all cX5_all 2 (some .int) := ⟨mw_792, mw_794, mw_795, mw_51, mw_793⟩
theorem lk_L_56 : zLk RL 56 yX6_all cX6_all 3 (some .int) := ⟨mw_796, mw_798, mw_799, mw_393, mw_797⟩
theorem lk_L_57 : zLk RL 57 yX5_times cX5_times 2 (some .long) := ⟨mw_800, mw_802, mw_803, mw_51, mw_801⟩
theorem lk_L_61 : zLk RL 61 yX6_times cX6_times 2 (some .long) := ⟨mw_804, mw_806, mw_807, mw_393, mw_805⟩
theorem lk_L_62 : zLk RL 62 yX5_fewest cX5_fewest 4 (some .int) := ⟨mw_808, mw_810, mw_811, mw_51, mw_809⟩
theorem lk_L_65 : zLk RL 65 yX6_fewest cX6_fewest 4 (some .int) := ⟨mw_812, mw_814, mw_815, mw_393, mw_813⟩
theorem lk_L_66 : zLk RL 66 yX5_best cX5_best 10 (some .int) := ⟨mw_816, mw_818, mw_819, mw_51, mw_817⟩
theorem lk_L_69 : zLk RL 69 yX6_best cX6_best 6 (some .int) := ⟨mw_820, mw_822, mw_823, mw_393, mw_821⟩
theorem lk_L_70 : zLk RL 70 yX5_makes cX5_makes 8 (some .int) := ⟨mw_824, mw_826, mw_827, mw_51, mw_825⟩
theorem lk_L_73 : zLk RL 73 yX6_makes cX6_makes 4 (some .int) := ⟨mw_828, mw_830, mw_831, mw_393, mw_829⟩
theorem lk_L_74 : zLk RL 74 yX5_tells cX5_tells 9 (some .int) := ⟨mw_832, mw_834, mw_835, mw_51, mw_833⟩
theorem lk_L_77 : zLk RL 77 yX6_tells cX6_tells 4 (some .int) := ⟨mw_836, mw_838, mw_839, mw_393, mw_837⟩
theorem lk_L_78 : zLk RL 78 yX5_film cX5_film 6 (some .int) := ⟨mw_840, mw_842, mw_843, mw_51, mw_841⟩
theorem lk_L_81 : zLk RL 81 yX6_film cX6_film 5 (some .int) := ⟨mw_844, mw_846, mw_847, mw_393, mw_845⟩
theorem lk_L_82 : zLk RL 82 yX5_drawn cX5_drawn 3 (some .int) := ⟨mw_848, mw_850, mw_851, mw_51, mw_849⟩
theorem lk_L_85 : zLk RL 85 yX6_drawn cX6_drawn 3 (some .int) := ⟨mw_852, mw_854, mw_855, mw_393, mw_853⟩
theorem lk_L_86 : zLk RL 86 yX5_chance cX5_chance 7 (some .long) := ⟨mw_856, mw_858, mw_859, mw_51, mw_857⟩
theorem lk_L_90 : zLk RL 90 yX6_chance cX6_chance 9 (some .long) := ⟨mw_860, mw_862, mw_863, mw_393, mw_861⟩
theorem lk_L_91 : zLk RL 91 yX5_image cX5_image 1 (some .int) := ⟨mw_864, mw_866, mw_867, mw_51, mw_865⟩
theorem lk_L_94 : zLk RL 94 yX6_image cX6_image 2 (some .int) := ⟨mw_868, mw_870, mw_871, mw_393, mw_869⟩
theorem lk_L_95 : zLk RL 95 yX5_back cX5_back 1 (some .int) := ⟨mw_872, mw_874, mw_875, mw_51, mw_873⟩
theorem lk_L_98 : zLk RL 98 yX6_back cX6_back 2 (some .int) := ⟨mw_876, mw_878, mw_879, mw_393, mw_877⟩
theorem lk_L_99 : zLk RL 99 yX5_count cX5_count 2 (some .int) := ⟨mw_880, mw_882, mw_883, mw_51, mw_881⟩
theorem lk_L_102 : zLk RL 102 yX6_count cX6_count 2 (some .int) := ⟨mw_884, mw_886, mw_887, mw_393, mw_885⟩
theorem lk_L_103 : zLk RL 103 yX5_sheet cX5_sheet 4 (some .int) := ⟨mw_888, mw_890, mw_891, mw_51, mw_889⟩
theorem lk_L_106 : zLk RL 106 yX6_sheet cX6_sheet 5 (some .int) := ⟨mw_892, mw_667, mw_668, mw_393, mw_666⟩
theorem lk_L_107 : zLk RL 107 yX5_cell cX5_cell 5 (some .int) := ⟨mw_893, mw_895, mw_896, mw_51, mw_894⟩
theorem lk_L_110 : zLk RL 110 yX6_cell cX6_cell 4 (some .int) := ⟨mw_897, mw_899, mw_900, mw_393, mw_898⟩
theorem lk_L_111 : zLk RL 111 yX5_copy cX5_copy 8 (some .int) := ⟨mw_901, mw_903, mw_904, mw_51, mw_902⟩
theorem lk_L_115 : zLk RL 115 yX6_copy cX6_copy 7 (some .int) := ⟨mw_905, mw_907, mw_908, mw_393, mw_906⟩
theorem lk_L_116 : zLk RL 116 yX5_people cX5_people 9 (some .int) := ⟨mw_909, mw_911, mw_912, mw_51, mw_910⟩
theorem lk_L_120 : zLk RL 120 yX6_people cX6_people 10 (some .int) := ⟨mw_913, mw_915, mw_916, mw_393, mw_914⟩
theorem lk_L_121 : zLk RL 121 yX5_taken cX5_taken 3 (some .int) := ⟨mw_917, mw_919, mw_920, mw_51, mw_918⟩
theorem lk_L_124 : zLk RL 124 yX6_taken cX6_taken 4 (some .int) := ⟨mw_921, mw_923, mw_924, mw_393, mw_922⟩
theorem ds_X5_set : zDs yX5_set 3 := ⟨by decide +kernel, by decide +kernel, by decide +kernel⟩
theorem ds_X6_set : zDs yX6_set 3 := ⟨by decide +kernel, by decide +kernel, by decide +kernel⟩
theorem ds_X5_told : zDs yX5_told 2 := ⟨by decide +kernel, by decide +kernel, by decide +kernel⟩
theorem ds_X6_told : zDs yX6_told 2 := ⟨by decide +kernel, by decide +kernel, by decide +kernel⟩
theorem ds_X5_feed : zDs yX5_feed 1 := ⟨by decide +kernel, by decide +kernel, by decide +kernel⟩
theorem ds_X6_feed : zDs yX6_feed 1 := ⟨by decide +kernel, by decide +kernel, by decide +kernel⟩
theorem ds_X6_text : zDs yX6_text 0 := ⟨by decide +kernel, by decide +kernel, by decide +kernel⟩
theorem ds_X5_force : zDs yX5_force 1 := ⟨by decide +kernel, by decide +kernel, by decide +kernel⟩
theorem ds_X6_force : zDs yX6_force 1 := ⟨by decide +kernel, by decide +kernel, by decide +kernel⟩
theorem ds_X5_day : zDs yX5_day 0 := ⟨by decide +kernel, by decide +kernel, by decide +kernel⟩
theorem ds_X6_day : zDs yX6_day 0 := ⟨by decide +kernel, by decide +kernel, by decide +kernel⟩
theorem ds_X5_draw : zDs yX5_draw 3 := ⟨by decide +kernel, by decide +kernel, by decide +kernel⟩
theorem ds_X6_draw : zDs yX6_draw 3 := ⟨by decide +kernel, by decide +kernel, by decide +kernel⟩
theorem ds_X5_run : zDs yX5_run 3 := ⟨by decide +kernel, by decide +kernel, by decide +kernel⟩
theorem ds_X6_run : zDs yX6_run 3 := ⟨by decide +kernel, by decide +kernel, by decide +kernel⟩
theorem ds_X5_all : zDs yX5_all 1 := ⟨by decide +kernel, by decide +kernel, by decide +kernel⟩
theorem ds_X6_all : zDs yX6_all 1 := ⟨by decide +kernel, by decide +kernel, by decide +kernel⟩
theorem ds_X5_times : zDs yX5_times 1 := ⟨by decide +kernel, by decide +kernel, by decide +kernel⟩
theorem ds_X6_times : zDs yX6_times 1 := ⟨by decide +kernel, by decide +kernel, by decide +kernel⟩
theorem ds_X5_fewest : zDs yX5_fewest 3 := ⟨by decide +kernel, by decide +kernel, by decide +kernel⟩
theorem ds_X6_fewest : zDs yX6_fewest 3 := ⟨by decide +kernel, by decide +kernel, by decide +kernel⟩
theorem ds_X5_best : zDs yX5_best 2 := ⟨by decide +kernel, by decide +kernel, by decide +kernel⟩
theorem ds_X6_best : zDs yX6_best 2 := ⟨by decide +kernel, by decide +kernel, by decide +kernel⟩
theorem ds_X5_makes : zDs yX5_makes 3 := ⟨by decide +kernel, by decide +kernel, by decide +kernel⟩
theorem ds_X6_makes : zDs yX6_makes 3 := ⟨by decide +kernel, by decide +kernel, by decide +kernel⟩
theorem ds_X5_tells : zDs yX5_tells 3 := ⟨by decide +kernel, by decide +kernel, by decide +kernel⟩
theorem ds_X6_tells : zDs yX6_tells 3 := ⟨by decide +kernel, by decide +kernel, by decide +kernel⟩
theorem ds_X5_film : zDs yX5_film 3 := ⟨by decide +kernel, by decide +kernel, by decide +kernel⟩
theorem ds_X6_film : zDs yX6_film 3 := ⟨by decide +kernel, by decide +kernel, by decide +kernel⟩
theorem ds_X5_drawn : zDs yX5_drawn 2 := ⟨by decide +kernel, by decide +kernel, by decide +kernel⟩
theorem ds_X6_drawn : zDs yX6_drawn 2 := ⟨by decide +kernel, by decide +kernel, by decide +kernel⟩
theorem ds_X5_chance : zDs yX5_chance 4 := ⟨by decide +kernel, by decide +kernel, by decide +kernel⟩
theorem ds_X6_chance : zDs yX6_chance 4 := ⟨by decide +kernel, by decide +kernel, by decide +kernel⟩
theorem ds_X5_image : zDs yX5_image 0 := ⟨by decide +kernel, by decide +kernel, by decide +kernel⟩
theorem ds_X6_image : zDs yX6_image 0 := ⟨by decide +kernel, by decide +kernel, by decide +kernel⟩
theorem ds_X5_back : zDs yX5_back 0 := ⟨by decide +kernel, by decide +kernel, by decide +kernel⟩
theorem ds_X6_back : zDs yX6_back 0 := ⟨by decide +kernel, by decide +kernel, by decide +kernel⟩
theorem ds_X5_count : zDs yX5_count 1 := ⟨by decide +kernel, by decide +kernel, by decide +kernel⟩
theorem ds_X6_count : zDs yX6_count 1 := ⟨by decide +kernel, by decide +kernel, by decide +kernel⟩
theorem ds_X5_sheet : zDs yX5_sheet 3 := ⟨by decide +kernel, by decide +kernel, by decide +kernel⟩
theorem ds_X5_cell : zDs yX5_cell 3 := ⟨by decide +kernel, by decide +kernel, by decide +kernel⟩
theorem ds_X6_cell : zDs yX6_cell 3 := ⟨by decide +kernel, by decide +kernel, by decide +kernel⟩
theorem ds_X5_copy : zDs yX5_copy 5 := ⟨by decide +kernel, by decide +kernel, by decide +kernel⟩
theorem ds_X6_copy : zDs yX6_copy 5 := ⟨by decide +kernel, by decide +kernel, by decide +kernel⟩
theorem ds_X5_people : zDs yX5_people 4 := ⟨by decide +kernel, by decide +kernel, by decide +kernel⟩
theorem ds_X6_people : zDs yX6_people 4 := ⟨by decide +kernel, by decide +kernel, by decide +kernel⟩
theorem ds_X5_taken : zDs yX5_taken 2 := ⟨by decide +kernel, by decide +kernel, by decide +kernel⟩
theorem ds_X6_taken : zDs yX6_taken 2 := ⟨by decide +kernel, by decide +kernel, by decide +kernel⟩
/-! the law: calls with two worlds side by side -/
theorem zcmp_s (x : Int64) : zcmp x x = 0 := by
  unfold zcmp lg_cmp
  simp
theorem law_lt {L i : Nat} (hL : L ≤ 3072) (hi : i ≤ L + 5) (h : ¬ (Int32.ofNat L - nI 6 < nI i)) : i + 6 ≤ L := by
  rw [Int32.lt_iff_toInt_lt, show Int32.ofNat L = nI L from rfl, pk_sub_toInt (by omega) (by omega), nI_toInt (by omega)] at h
  omega
section ZLAW
variable {p : Program} {l : Launch} {e : Env} {R : Room} {s : State} {m : MethodId} {args : Array Value} {below : List Frame} {meth : Method} {c : Code} {H : Heap} {locs : List Loc} {cells slots : Nat} {Q : State → Prop}
variable {cc : ByteArray} {pc mL : Nat} {ls : Array Slot} {rest : List Value} {own : String} {rt : Option FieldType} {G : zGr} {sh : Nat → zSh} {N : Nat} {M : zM}
variable {y : MethodName} {ccy : ByteArray} {mLy : Nat} {rty : Option FieldType} {fr lo index n : Nat} {As stk : List Value}
theorem zd_keep {G' : zGr} {sh' : Nat → zSh} {N' : Nat} {M2 : zM} {H1 : Heap} (hP2 : va_P G'.1 zcl (zw G' sh' N' M2) H) (hdis : ∀ i j, i < N → j < N' → G.2.2.1 i ≠ G'.2.2.1 j) (hk : ∀ q : Nat, q < H.size → ¬ zA G N H.size q → H1[q]? = H[q]?) : va_P G'.1 zcl (zw G' sh' N' M2) H1 := by
  refine hP2.kept (fun k q hq => ?_)
  have hlt := (hP2 k q hq).lt
  have hl : k < N' := by simpa [zw] using (List.getElem?_eq_some_iff.mp hq).1
  rw [zw_get G' sh' M2 hl] at hq
  cases hq
  refine hk _ hlt (fun h => ?_)
  rcases h with ⟨i, hi, h⟩ | h
  · exact hdis i k hi hl h.symm
  · exact absurd h (Nat.not_le.mpr hlt)
theorem zd_vi {r : Int32} {M' : zM} (C0 : zCx p s m args meth c cc mL own rt G N) (he : zA G N s.heap.size = fun q => s.heap.size ≤ q) (hP : va_P G.1 zcl (zw G sh N M) H) {G' : zGr} {sh' : Nat → zSh} {N' : Nat} {M2 : zM} (hP2 : va_P G'.1 zcl (zw G' sh' N' M2) H) (hdis : ∀ i j, i < N → j < N' → G.2.2.1 i ≠ G'.2.2.1 j) (hS : va_S (fun q => s.heap.size ≤ q) s.heap H locs) (hls : ls.size = mL) (ob : Nat) (hM : zMi l G sh N y ccy mLy rty fr lo (.ref (G.2.2.1 ob) :: As) M (r, M')) (hw : zLk own index y ccy mLy rty) (hob : ob < N) {ci : Nat} {fl : List (Option Nat)} (hsh : sh ob = .inl (ci, fl)) {T : u_T} {n' : Nat} (hc : zcl[ci]? = some (y.cls, T, n')) (hd : zDs y n) (hR : fr + 1 ≤ R.frames ∧ 8 + (mLy + 11) + lo ≤ R.locals)
    (hn : As.length = n) (hstk : stk = As.reverse ++ .ref (G.2.2.1 ob) :: rest) (hcat : (rest.map fun v => v.category).sum ≤ 8) (hdg : decode cc pc = .ok (.invokevirtual index, 3)) (hcs : cells ≤ R.cells ∧ slots ≤ R.slots)
    (kk : ∀ (H1 : Heap) (locs1 : List Loc), va_P G.1 zcl (zw G sh N M') H1 → va_P G'.1 zcl (zw G' sh' N' M2) H1 → va_S (fun q => s.heap.size ≤ q) s.heap H1 locs1 → W p l e R s m args below meth c H1 locs1 cells slots Q (F0 m (pc + 3) ls (.int r :: rest))) : W p l e R s m args below meth c H locs cells slots Q (F0 m pc ls stk) := by
  rw [← he] at hS
  have hpre := zq_pre (av := .ref (G.2.2.1 ob) :: As) C0 hP hS
  have hrv := zq_recv C0 hP ob hob hsh hc
  obtain ⟨hx, hb, hml, hown, hts, hr, hlk, hK, hSt⟩ := C0
  subst hstk
  refine va_calli (va_runV (As := As) (rest := rest) ⟨hx, hb, hml, hown, hts⟩ (hM H.size) (cwV n hts (zLk_g hw) rfl rfl rfl ⟨rfl, hd⟩ hR) ⟨zPre_blind _ _ _ _ _ _, hrv, hpre⟩ rfl hn hls rfl (lv_room hcat) hdg hcs) hS (fun q _ h => zq_A hS q h) (zq_A hS) (fun r2 u t H1 locs1 ht hvm hq hB hz hk hS1 => ?_)
  cases hq
  rw [he] at hS1
  exact kk H1 locs1 (by rw [← ht]; exact hB) (zd_keep hP2 hdis hk) hS1
theorem zd_vl {r : Int64} {M' : zM} (C0 : zCx p s m args meth c cc mL own rt G N) (he : zA G N s.heap.size = fun q => s.heap.size ≤ q) (hP : va_P G.1 zcl (zw G sh N M) H) {G' : zGr} {sh' : Nat → zSh} {N' : Nat} {M2 : zM} (hP2 : va_P G'.1 zcl (zw G' sh' N' M2) H) (hdis : ∀ i j, i < N → j < N' → G.2.2.1 i ≠ G'.2.2.1 j) (hS : va_S (fun q => s.heap.size ≤ q) s.heap H locs) (hls : ls.size = mL) (ob : Nat) (hM : zMl l G sh N y ccy mLy rty fr lo (.ref (G.2.2.1 ob) :: As) M (r, M')) (hw : zLk own index y ccy mLy rty) (hob : ob < N) {ci : Nat} {fl : List (Option Nat)} (hsh : sh ob = .inl (ci, fl)) {T : u_T} {n' : Nat} (hc : zcl[ci]? = some (y.cls, T, n')) (hd : zDs y n) (hR : fr + 1 ≤ R.frames ∧ 8 + (mLy + 11) + lo ≤ R.locals)
    (hn : As.length = n) (hstk : stk = As.reverse ++ .ref (G.2.2.1 ob) :: rest) (hcat : (rest.map fun v => v.category).sum ≤ 8) (hdg : decode cc pc = .ok (.invokevirtual index, 3)) (hcs : cells ≤ R.cells ∧ slots ≤ R.slots)
    (kk : ∀ (H1 : Heap) (locs1 : List Loc), va_P G.1 zcl (zw G sh N M') H1 → va_P G'.1 zcl (zw G' sh' N' M2) H1 → va_S (fun q => s.heap.size ≤ q) s.heap H1 locs1 → W p l e R s m args below meth c H1 locs1 cells slots Q (F0 m (pc + 3) ls (.long r :: rest))) : W p l e R s m args below meth c H locs cells slots Q (F0 m pc ls stk) := by
  rw [← he] at hS
  have hpre := zq_pre (av := .ref (G.2.2.1 ob) :: As) C0 hP hS
  have hrv := zq_recv C0 hP ob hob hsh hc
  obtain ⟨hx, hb, hml, hown, hts, hr, hlk, hK, hSt⟩ := C0
  subst hstk
  refine va_calll (va_runV (As := As) (rest := rest) ⟨hx, hb, hml, hown, hts⟩ (hM H.size) (cwV n hts (zLk_g hw) rfl rfl rfl ⟨rfl, hd⟩ hR) ⟨zPre_blind _ _ _ _ _ _, hrv, hpre⟩ rfl hn hls rfl (lv_room hcat) hdg hcs) hS (fun q _ h => zq_A hS q h) (zq_A hS) (fun r2 u t H1 locs1 ht hvm hq hB hz hk hS1 => ?_)
  cases hq
  rw [he] at hS1
  exact kk H1 locs1 (by rw [← ht]; exact hB) (zd_keep hP2 hdis hk) hS1
end ZLAW

set_option maxHeartbeats 4000000 in
set_option maxRecDepth 100000 in
theorem lawc_0 (Rel : zM → zM → Prop) {p : Program} {e : Env} {s : State} {m : MethodId} {below : List Frame} {meth : Method} {c : Code} (l : Launch) {b L : Nat} {xs : Nat → Int32} {Q : State → Prop} (G1 G2 : zGr) (hJ1 : zJ G1 64) (hJ2 : zJ G2 23) (he1 : zA G1 64 s.heap.size = fun q => s.heap.size ≤ q) (he2 : zA G2 23 s.heap.size = fun q => s.heap.size ≤ q) (hdis : ∀ i j, i < 64 → j < 23 → G1.2.2.1 i ≠ G2.2.2.1 j) (C1 : zCx p s m #[Value.ref b] meth c code 4 RL ret G1 64) (C2 : zCx p s m #[Value.ref b] meth c code 4 RL ret G2 23) (hX : va_X b L xs s s.heap) (hbl : b < s.heap.size) {MX MM : zM} (hR : Rel MX MM) (hstep : ∀ MX MM, Rel MX MM → ∀ a1 a2 a3 : Int32, ∃ (r : Int32) (MX' MM' : zM), fX5_set a1 a2 a3 MX = some (r, MX') ∧ fX6_set a1 a2 a3 MM = some (r, MM') ∧ Rel MX' MM') (x3 : Int32) (hin : ∀ k : Nat, k < 6 → vp_in (x3 + nI k) L) (H : Heap) (locs : List Loc) (ls : Array Slot) (hl : lv_has ls 4 [(0, .ref b), (1, .ref (G1.2.2.1 0)), (2, .ref (G2.2.2.1 0)), (3, .int x3)]) (hP1 : va_P G1.1 zcl (zw G1 shX 64 MX) H) (hP2 : va_P G2.1 zcl (zw G2 shM 23 MM) H) (hS : va_S (fun q => s.heap.size ≤ q) s.heap H locs) (kk : ∀ (MX MM : zM) (H : Heap) (locs : List Loc), Rel MX MM → va_P G1.1 zcl (zw G1 shX 64 MX) H → va_P G2.1 zcl (zw G2 shM 23 MM) H → va_S (fun q => s.heap.size ≤ q) s.heap H locs → W p l e room_1 s m #[Value.ref b] below meth c H locs 87 79514 Q (F0 m 1052 ls [])) : W p l e room_1 s m #[Value.ref b] below meth c H locs 87 79514 Q (F0 m 152 ls []) := by
  have hx := C1.1
  have hb := C1.2.1
  have hbA : ¬ (fun q : Nat => s.heap.size ≤ q) b := Nat.not_le.mpr hbl
  obtain ⟨r, MX', MM', hc1, hc2, hR'⟩ := hstep MX MM hR (xs (x3 + nI 1).toNatClampNeg) (xs (x3 + nI 2).toNatClampNeg) (xs (x3 + nI 3).toNatClampNeg)
  refine lv_aload_n hx hb dL_law_152 rfl (lv_at hl 1 rfl) ?_
  refine lv_aload_n hx hb dL_law_153 rfl (lv_at hl 0 rfl) ?_
  refine lv_iload_n hx hb dL_law_154 rfl (lv_at hl 3 rfl) ?_
  refine lv_iconst (v := nI 1) hx hb dL_law_155 (by decide) ?_
  refine lv_iadd hx hb dL_law_156 ?_
  refine va_sld hx hb hX hbl hbA hS (hin 1 (by decide)) dL_law_157 ?_
  refine lv_aload_n hx hb dL_law_158 rfl (lv_at hl 0 rfl) ?_
  refine lv_iload_n hx hb dL_law_159 rfl (lv_at hl 3 rfl) ?_
  refine lv_iconst (v := nI 2) hx hb dL_law_160 (by decide) ?_
  refine lv_iadd hx hb dL_law_161 ?_
  refine va_sld hx hb hX hbl hbA hS (hin 2 (by decide)) dL_law_162 ?_
  refine lv_aload_n hx hb dL_law_163 rfl (lv_at hl 0 rfl) ?_
  refine lv_iload_n hx hb dL_law_164 rfl (lv_at hl 3 rfl) ?_
  refine lv_iconst (v := nI 3) hx hb dL_law_165 (by decide) ?_
  refine lv_iadd hx hb dL_law_166 ?_
  refine va_sld hx hb hX hbl hbA hS (hin 3 (by decide)) dL_law_167 ?_
  refine zd_vi (As := [.int (xs (x3 + nI 1).toNatClampNeg), .int (xs (x3 + nI 2).toNatClampNeg), .int (xs (x3 + nI 3).toNatClampNeg)]) (rest := []) C1 he1 hP1 (G' := G2) (sh' := shM) (N' := 23) (M2 := MM) hP2 hdis hS hl.1 0 (mtX5_set l G1 hJ1 (xs (x3 + nI 1).toNatClampNeg) (xs (x3 + nI 2).toNatClampNeg) (xs (x3 + nI 3).toNatClampNeg) MX _ hc1) lk_L_13 (by decide) shX_0 (T := TX5) (n' := 9) rfl ds_X5_set ⟨Nat.le_of_ble_eq_true rfl, Nat.le_of_ble_eq_true rfl⟩ rfl rfl (Nat.le_of_ble_eq_true rfl) dL_law_168 ⟨Nat.le_of_ble_eq_true rfl, Nat.le_of_ble_eq_true rfl⟩ (fun H locs hP1 hP2 hS => ?_)
  refine lv_aload_n hx hb dL_law_171 rfl (lv_at hl 2 rfl) ?_
  refine lv_aload_n hx hb dL_law_172 rfl (lv_at hl 0 rfl) ?_
  refine lv_iload_n hx hb dL_law_173 rfl (lv_at hl 3 rfl) ?_
  refine lv_iconst (v := nI 1) hx hb dL_law_174 (by decide) ?_
  refine lv_iadd hx hb dL_law_175 ?_
  refine va_sld hx hb hX hbl hbA hS (hin 1 (by decide)) dL_law_176 ?_
  refine lv_aload_n hx hb dL_law_177 rfl (lv_at hl 0 rfl) ?_
  refine lv_iload_n hx hb dL_law_178 rfl (lv_at hl 3 rfl) ?_
  refine lv_iconst (v := nI 2) hx hb dL_law_179 (by decide) ?_
  refine lv_iadd hx hb dL_law_180 ?_
  refine va_sld hx hb hX hbl hbA hS (hin 2 (by decide)) dL_law_181 ?_
  refine lv_aload_n hx hb dL_law_182 rfl (lv_at hl 0 rfl) ?_
  refine lv_iload_n hx hb dL_law_183 rfl (lv_at hl 3 rfl) ?_
  refine lv_iconst (v := nI 3) hx hb dL_law_184 (by decide) ?_
  refine lv_iadd hx hb dL_law_185 ?_
  refine va_sld hx hb hX hbl hbA hS (hin 3 (by decide)) dL_law_186 ?_
  refine zd_vi (As := [.int (xs (x3 + nI 1).toNatClampNeg), .int (xs (x3 + nI 2).toNatClampNeg), .int (xs (x3 + nI 3).toNatClampNeg)]) (rest := [.int r]) C2 he2 hP2 (G' := G1) (sh' := shX) (N' := 64) (M2 := MX') hP1 (fun i j hi hj => Ne.symm (hdis j i hj hi)) hS hl.1 0 (mtX6_set l G2 hJ2 (xs (x3 + nI 1).toNatClampNeg) (xs (x3 + nI 2).toNatClampNeg) (xs (x3 + nI 3).toNatClampNeg) MM _ hc2) lk_L_17 (by decide) shM_0 (T := TX6) (n' := 51) rfl ds_X6_set ⟨Nat.le_of_ble_eq_true rfl, Nat.le_of_ble_eq_true rfl⟩ rfl rfl (Nat.le_of_ble_eq_true rfl) dL_law_187 ⟨Nat.le_of_ble_eq_true rfl, Nat.le_of_ble_eq_true rfl⟩ (fun H locs hP2 hP1 hS => ?_)
  refine lv_icmp_eq (tgt := 1052) hx hb dL_law_190 (by decide) (fun _ => ?_) (fun c1 => absurd rfl c1)
  exact kk MX' MM' H locs hR' hP1 hP2 hS
set_option maxHeartbeats 4000000 in
set_option maxRecDepth 100000 in
theorem lawc_1 (Rel : zM → zM → Prop) {p : Program} {e : Env} {s : State} {m : MethodId} {below : List Frame} {meth : Method} {c : Code} (l : Launch) {b L : Nat} {xs : Nat → Int32} {Q : State → Prop} (G1 G2 : zGr) (hJ1 : zJ G1 64) (hJ2 : zJ G2 23) (he1 : zA G1 64 s.heap.size = fun q => s.heap.size ≤ q) (he2 : zA G2 23 s.heap.size = fun q => s.heap.size ≤ q) (hdis : ∀ i j, i < 64 → j < 23 → G1.2.2.1 i ≠ G2.2.2.1 j) (C1 : zCx p s m #[Value.ref b] meth c code 4 RL ret G1 64) (C2 : zCx p s m #[Value.ref b] meth c code 4 RL ret G2 23) (hX : va_X b L xs s s.heap) (hbl : b < s.heap.size) {MX MM : zM} (hR : Rel MX MM) (hstep : ∀ MX MM, Rel MX MM → ∀ a1 a2 a3 : Int32, ∃ (r : Int32) (MX' MM' : zM), fX5_person a1 a2 a3 MX = some (r, MX') ∧ fX6_person a1 a2 a3 MM = some (r, MM') ∧ Rel MX' MM') (x3 : Int32) (hin : ∀ k : Nat, k < 6 → vp_in (x3 + nI k) L) (H : Heap) (locs : List Loc) (ls : Array Slot) (hl : lv_has ls 4 [(0, .ref b), (1, .ref (G1.2.2.1 0)), (2, .ref (G2.2.2.1 0)), (3, .int x3)]) (hP1 : va_P G1.1 zcl (zw G1 shX 64 MX) H) (hP2 : va_P G2.1 zcl (zw G2 shM 23 MM) H) (hS : va_S (fun q => s.heap.size ≤ q) s.heap H locs) (kk : ∀ (MX MM : zM) (H : Heap) (locs : List Loc), Rel MX MM → va_P G1.1 zcl (zw G1 shX 64 MX) H → va_P G2.1 zcl (zw G2 shM 23 MM) H → va_S (fun q => s.heap.size ≤ q) s.heap H locs → W p l e room_1 s m #[Value.ref b] below meth c H locs 87 79514 Q (F0 m 1052 ls [])) : W p l e room_1 s m #[Value.ref b] below meth c H locs 87 79514 Q (F0 m 195 ls []) := by
  have hx := C1.1
  have hb := C1.2.1
  have hbA : ¬ (fun q : Nat => s.heap.size ≤ q) b := Nat.not_le.mpr hbl
  obtain ⟨r, MX', MM', hc1, hc2, hR'⟩ := hstep MX MM hR (xs (x3 + nI 1).toNatClampNeg) (xs (x3 + nI 2).toNatClampNeg) (xs (x3 + nI 3).toNatClampNeg)
  refine lv_aload_n hx hb dL_law_195 rfl (lv_at hl 1 rfl) ?_
  refine lv_aload_n hx hb dL_law_196 rfl (lv_at hl 0 rfl) ?_
  refine lv_iload_n hx hb dL_law_197 rfl (lv_at hl 3 rfl) ?_
  refine lv_iconst (v := nI 1) hx hb dL_law_198 (by decide) ?_
  refine lv_iadd hx hb dL_law_199 ?_
  refine va_sld hx hb hX hbl hbA hS (hin 1 (by decide)) dL_law_200 ?_
  refine lv_aload_n hx hb dL_law_201 rfl (lv_at hl 0 rfl) ?_
  refine lv_iload_n hx hb dL_law_202 rfl (lv_at hl 3 rfl) ?_
  refine lv_iconst (v := nI 2) hx hb dL_law_203 (by decide) ?_
  refine lv_iadd hx hb dL_law_204 ?_
  refine va_sld hx hb hX hbl hbA hS (hin 2 (by decide)) dL_law_205 ?_
  refine lv_aload_n hx hb dL_law_206 rfl (lv_at hl 0 rfl) ?_
  refine lv_iload_n hx hb dL_law_207 rfl (lv_at hl 3 rfl) ?_
  refine lv_iconst (v := nI 3) hx hb dL_law_208 (by decide) ?_
  refine lv_iadd hx hb dL_law_209 ?_
  refine va_sld hx hb hX hbl hbA hS (hin 3 (by decide)) dL_law_210 ?_
  refine zd_vi (As := [.int (xs (x3 + nI 1).toNatClampNeg), .int (xs (x3 + nI 2).toNatClampNeg), .int (xs (x3 + nI 3).toNatClampNeg)]) (rest := []) C1 he1 hP1 (G' := G2) (sh' := shM) (N' := 23) (M2 := MM) hP2 hdis hS hl.1 0 (mtX5_person l G1 hJ1 (xs (x3 + nI 1).toNatClampNeg) (xs (x3 + nI 2).toNatClampNeg) (xs (x3 + nI 3).toNatClampNeg) MX _ hc1) lk_L_18 (by decide) shX_0 (T := TX5) (n' := 9) rfl ds_X5_person ⟨Nat.le_of_ble_eq_true rfl, Nat.le_of_ble_eq_true rfl⟩ rfl rfl (Nat.le_of_ble_eq_true rfl) dL_law_211 ⟨Nat.le_of_ble_eq_true rfl, Nat.le_of_ble_eq_true rfl⟩ (fun H locs hP1 hP2 hS => ?_)
  refine lv_aload_n hx hb dL_law_214 rfl (lv_at hl 2 rfl) ?_
  refine lv_aload_n hx hb dL_law_215 rfl (lv_at hl 0 rfl) ?_
  refine lv_iload_n hx hb dL_law_216 rfl (lv_at hl 3 rfl) ?_
  refine lv_iconst (v := nI 1) hx hb dL_law_217 (by decide) ?_
  refine lv_iadd hx hb dL_law_218 ?_
  refine va_sld hx hb hX hbl hbA hS (hin 1 (by decide)) dL_law_219 ?_
  refine lv_aload_n hx hb dL_law_220 rfl (lv_at hl 0 rfl) ?_
  refine lv_iload_n hx hb dL_law_221 rfl (lv_at hl 3 rfl) ?_
  refine lv_iconst (v := nI 2) hx hb dL_law_222 (by decide) ?_
  refine lv_iadd hx hb dL_law_223 ?_
  refine va_sld hx hb hX hbl hbA hS (hin 2 (by decide)) dL_law_224 ?_
  refine lv_aload_n hx hb dL_law_225 rfl (lv_at hl 0 rfl) ?_
  refine lv_iload_n hx hb dL_law_226 rfl (lv_at hl 3 rfl) ?_
  refine lv_iconst (v := nI 3) hx hb dL_law_227 (by decide) ?_
  refine lv_iadd hx hb dL_law_228 ?_
  refine va_sld hx hb hX hbl hbA hS (hin 3 (by decide)) dL_law_229 ?_
  refine zd_vi (As := [.int (xs (x3 + nI 1).toNatClampNeg), .int (xs (x3 + nI 2).toNatClampNeg), .int (xs (x3 + nI 3).toNatClampNeg)]) (rest := [.int r]) C2 he2 hP2 (G' := G1) (sh' := shX) (N' := 64) (M2 := MX') hP1 (fun i j hi hj => Ne.symm (hdis j i hj hi)) hS hl.1 0 (mtX6_person l G2 hJ2 (xs (x3 + nI 1).toNatClampNeg) (xs (x3 + nI 2).toNatClampNeg) (xs (x3 + nI 3).toNatClampNeg) MM _ hc2) lk_L_21 (by decide) shM_0 (T := TX6) (n' := 51) rfl ds_X6_person ⟨Nat.le_of_ble_eq_true rfl, Nat.le_of_ble_eq_true rfl⟩ rfl rfl (Nat.le_of_ble_eq_true rfl) dL_law_230 ⟨Nat.le_of_ble_eq_true rfl, Nat.le_of_ble_eq_true rfl⟩ (fun H locs hP2 hP1 hS => ?_)
  refine lv_icmp_eq (tgt := 1052) hx hb dL_law_233 (by decide) (fun _ => ?_) (fun c1 => absurd rfl c1)
  exact kk MX' MM' H locs hR' hP1 hP2 hS
set_option maxHeartbeats 4000000 in
set_option maxRecDepth 100000 in
theorem lawc_2 (Rel : zM → zM → Prop) {p : Program} {e : Env} {s : State} {m : MethodId} {below : List Frame} {meth : Method} {c : Code} (l : Launch) {b L : Nat} {xs : Nat → Int32} {Q : State → Prop} (G1 G2 : zGr) (hJ1 : zJ G1 64) (hJ2 : zJ G2 23) (he1 : zA G1 64 s.heap.size = fun q => s.heap.size ≤ q) (he2 : zA G2 23 s.heap.size = fun q => s.heap.size ≤ q) (hdis : ∀ i j, i < 64 → j < 23 → G1.2.2.1 i ≠ G2.2.2.1 j) (C1 : zCx p s m #[Value.ref b] meth c code 4 RL ret G1 64) (C2 : zCx p s m #[Value.ref b] meth c code 4 RL ret G2 23) (hX : va_X b L xs s s.heap) (hbl : b < s.heap.size) {MX MM : zM} (hR : Rel MX MM) (hstep : ∀ MX MM, Rel MX MM → ∀ a1 a2 : Int32, ∃ (r : Int32) (MX' MM' : zM), fX5_told a1 a2 MX = some (r, MX') ∧ fX6_told a1 a2 MM = some (r, MM') ∧ Rel MX' MM') (x3 : Int32) (hin : ∀ k : Nat, k < 6 → vp_in (x3 + nI k) L) (H : Heap) (locs : List Loc) (ls : Array Slot) (hl : lv_has ls 4 [(0, .ref b), (1, .ref (G1.2.2.1 0)), (2, .ref (G2.2.2.1 0)), (3, .int x3)]) (hP1 : va_P G1.1 zcl (zw G1 shX 64 MX) H) (hP2 : va_P G2.1 zcl (zw G2 shM 23 MM) H) (hS : va_S (fun q => s.heap.size ≤ q) s.heap H locs) (kk : ∀ (MX MM : zM) (H : Heap) (locs : List Loc), Rel MX MM → va_P G1.1 zcl (zw G1 shX 64 MX) H → va_P G2.1 zcl (zw G2 shM 23 MM) H → va_S (fun q => s.heap.size ≤ q) s.heap H locs → W p l e room_1 s m #[Value.ref b] below meth c H locs 87 79514 Q (F0 m 1052 ls [])) : W p l e room_1 s m #[Value.ref b] below meth c H locs 87 79514 Q (F0 m 238 ls []) := by
  have hx := C1.1
  have hb := C1.2.1
  have hbA : ¬ (fun q : Nat => s.heap.size ≤ q) b := Nat.not_le.mpr hbl
  obtain ⟨r, MX', MM', hc1, hc2, hR'⟩ := hstep MX MM hR (xs (x3 + nI 1).toNatClampNeg) (xs (x3 + nI 2).toNatClampNeg)
  refine lv_aload_n hx hb dL_law_238 rfl (lv_at hl 1 rfl) ?_
  refine lv_aload_n hx hb dL_law_239 rfl (lv_at hl 0 rfl) ?_
  refine lv_iload_n hx hb dL_law_240 rfl (lv_at hl 3 rfl) ?_
  refine lv_iconst (v := nI 1) hx hb dL_law_241 (by decide) ?_
  refine lv_iadd hx hb dL_law_242 ?_
  refine va_sld hx hb hX hbl hbA hS (hin 1 (by decide)) dL_law_243 ?_
  refine lv_aload_n hx hb dL_law_244 rfl (lv_at hl 0 rfl) ?_
  refine lv_iload_n hx hb dL_law_245 rfl (lv_at hl 3 rfl) ?_
  refine lv_iconst (v := nI 2) hx hb dL_law_246 (by decide) ?_
  refine lv_iadd hx hb dL_law_247 ?_
  refine va_sld hx hb hX hbl hbA hS (hin 2 (by decide)) dL_law_248 ?_
  refine zd_vi (As := [.int (xs (x3 + nI 1).toNatClampNeg), .int (xs (x3 + nI 2).toNatClampNeg)]) (rest := []) C1 he1 hP1 (G' := G2) (sh' := shM) (N' := 23) (M2 := MM) hP2 hdis hS hl.1 0 (mtX5_told l G1 hJ1 (xs (x3 + nI 1).toNatClampNeg) (xs (x3 + nI 2).toNatClampNeg) MX _ hc1) lk_L_22 (by decide) shX_0 (T := TX5) (n' := 9) rfl ds_X5_told ⟨Nat.le_of_ble_eq_true rfl, Nat.le_of_ble_eq_true rfl⟩ rfl rfl (Nat.le_of_ble_eq_true rfl) dL_law_249 ⟨Nat.le_of_ble_eq_true rfl, Nat.le_of_ble_eq_true rfl⟩ (fun H locs hP1 hP2 hS => ?_)
  refine lv_aload_n hx hb dL_law_252 rfl (lv_at hl 2 rfl) ?_
  refine lv_aload_n hx hb dL_law_253 rfl (lv_at hl 0 rfl) ?_
  refine lv_iload_n hx hb dL_law_254 rfl (lv_at hl 3 rfl) ?_
  refine lv_iconst (v := nI 1) hx hb dL_law_255 (by decide) ?_
  refine lv_iadd hx hb dL_law_256 ?_
  refine va_sld hx hb hX hbl hbA hS (hin 1 (by decide)) dL_law_257 ?_
  refine lv_aload_n hx hb dL_law_258 rfl (lv_at hl 0 rfl) ?_
  refine lv_iload_n hx hb dL_law_259 rfl (lv_at hl 3 rfl) ?_
  refine lv_iconst (v := nI 2) hx hb dL_law_260 (by decide) ?_
  refine lv_iadd hx hb dL_law_261 ?_
  refine va_sld hx hb hX hbl hbA hS (hin 2 (by decide)) dL_law_262 ?_
  refine zd_vi (As := [.int (xs (x3 + nI 1).toNatClampNeg), .int (xs (x3 + nI 2).toNatClampNeg)]) (rest := [.int r]) C2 he2 hP2 (G' := G1) (sh' := shX) (N' := 64) (M2 := MX') hP1 (fun i j hi hj => Ne.symm (hdis j i hj hi)) hS hl.1 0 (mtX6_told l G2 hJ2 (xs (x3 + nI 1).toNatClampNeg) (xs (x3 + nI 2).toNatClampNeg) MM _ hc2) lk_L_26 (by decide) shM_0 (T := TX6) (n' := 51) rfl ds_X6_told ⟨Nat.le_of_ble_eq_true rfl, Nat.le_of_ble_eq_true rfl⟩ rfl rfl (Nat.le_of_ble_eq_true rfl) dL_law_263 ⟨Nat.le_of_ble_eq_true rfl, Nat.le_of_ble_eq_true rfl⟩ (fun H locs hP2 hP1 hS => ?_)
  refine lv_icmp_eq (tgt := 1052) hx hb dL_law_266 (by decide) (fun _ => ?_) (fun c1 => absurd rfl c1)
  exact kk MX' MM' H locs hR' hP1 hP2 hS
set_option maxHeartbeats 4000000 in
set_option maxRecDepth 100000 in
theorem lawc_3 (Rel : zM → zM → Prop) {p : Program} {e : Env} {s : State} {m : MethodId} {below : List Frame} {meth : Method} {c : Code} (l : Launch) {b L : Nat} {xs : Nat → Int32} {Q : State → Prop} (G1 G2 : zGr) (hJ1 : zJ G1 64) (hJ2 : zJ G2 23) (he1 : zA G1 64 s.heap.size = fun q => s.heap.size ≤ q) (he2 : zA G2 23 s.heap.size = fun q => s.heap.size ≤ q) (hdis : ∀ i j, i < 64 → j < 23 → G1.2.2.1 i ≠ G2.2.2.1 j) (C1 : zCx p s m #[Value.ref b] meth c code 4 RL ret G1 64) (C2 : zCx p s m #[Value.ref b] meth c code 4 RL ret G2 23) (hX : va_X b L xs s s.heap) (hbl : b < s.heap.size) {MX MM : zM} (hR : Rel MX MM) (hstep : ∀ MX MM, Rel MX MM → ∀ a1 : Int32, ∃ (r : Int32) (MX' MM' : zM), fX5_feed a1 MX = some (r, MX') ∧ fX6_feed a1 MM = some (r, MM') ∧ Rel MX' MM') (x3 : Int32) (hin : ∀ k : Nat, k < 6 → vp_in (x3 + nI k) L) (H : Heap) (locs : List Loc) (ls : Array Slot) (hl : lv_has ls 4 [(0, .ref b), (1, .ref (G1.2.2.1 0)), (2, .ref (G2.2.2.1 0)), (3, .int x3)]) (hP1 : va_P G1.1 zcl (zw G1 shX 64 MX) H) (hP2 : va_P G2.1 zcl (zw G2 shM 23 MM) H) (hS : va_S (fun q => s.heap.size ≤ q) s.heap H locs) (kk : ∀ (MX MM : zM) (H : Heap) (locs : List Loc), Rel MX MM → va_P G1.1 zcl (zw G1 shX 64 MX) H → va_P G2.1 zcl (zw G2 shM 23 MM) H → va_S (fun q => s.heap.size ≤ q) s.heap H locs → W p l e room_1 s m #[Value.ref b] below meth c H locs 87 79514 Q (F0 m 1052 ls [])) : W p l e room_1 s m #[Value.ref b] below meth c H locs 87 79514 Q (F0 m 271 ls []) := by
  have hx := C1.1
  have hb := C1.2.1
  have hbA : ¬ (fun q : Nat => s.heap.size ≤ q) b := Nat.not_le.mpr hbl
  obtain ⟨r, MX', MM', hc1, hc2, hR'⟩ := hstep MX MM hR (xs (x3 + nI 1).toNatClampNeg)
  refine lv_aload_n hx hb dL_law_271 rfl (lv_at hl 1 rfl) ?_
  refine lv_aload_n hx hb dL_law_272 rfl (lv_at hl 0 rfl) ?_
  refine lv_iload_n hx hb dL_law_273 rfl (lv_at hl 3 rfl) ?_
  refine lv_iconst (v := nI 1) hx hb dL_law_274 (by decide) ?_
  refine lv_iadd hx hb dL_law_275 ?_
  refine va_sld hx hb hX hbl hbA hS (hin 1 (by decide)) dL_law_276 ?_
  refine zd_vi (As := [.int (xs (x3 + nI 1).toNatClampNeg)]) (rest := []) C1 he1 hP1 (G' := G2) (sh' := shM) (N' := 23) (M2 := MM) hP2 hdis hS hl.1 0 (mtX5_feed l G1 hJ1 (xs (x3 + nI 1).toNatClampNeg) MX _ hc1) lk_L_27 (by decide) shX_0 (T := TX5) (n' := 9) rfl ds_X5_feed ⟨Nat.le_of_ble_eq_true rfl, Nat.le_of_ble_eq_true rfl⟩ rfl rfl (Nat.le_of_ble_eq_true rfl) dL_law_277 ⟨Nat.le_of_ble_eq_true rfl, Nat.le_of_ble_eq_true rfl⟩ (fun H locs hP1 hP2 hS => ?_)
  refine lv_aload_n hx hb dL_law_280 rfl (lv_at hl 2 rfl) ?_
  refine lv_aload_n hx hb dL_law_281 rfl (lv_at hl 0 rfl) ?_
  refine lv_iload_n hx hb dL_law_282 rfl (lv_at hl 3 rfl) ?_
  refine lv_iconst (v := nI 1) hx hb dL_law_283 (by decide) ?_
  refine lv_iadd hx hb dL_law_284 ?_
  refine va_sld hx hb hX hbl hbA hS (hin 1 (by decide)) dL_law_285 ?_
  refine zd_vi (As := [.int (xs (x3 + nI 1).toNatClampNeg)]) (rest := [.int r]) C2 he2 hP2 (G' := G1) (sh' := shX) (N' := 64) (M2 := MX') hP1 (fun i j hi hj => Ne.symm (hdis j i hj hi)) hS hl.1 0 (mtX6_feed l G2 hJ2 (xs (x3 + nI 1).toNatClampNeg) MM _ hc2) lk_L_31 (by decide) shM_0 (T := TX6) (n' := 51) rfl ds_X6_feed ⟨Nat.le_of_ble_eq_true rfl, Nat.le_of_ble_eq_true rfl⟩ rfl rfl (Nat.le_of_ble_eq_true rfl) dL_law_286 ⟨Nat.le_of_ble_eq_true rfl, Nat.le_of_ble_eq_true rfl⟩ (fun H locs hP2 hP1 hS => ?_)
  refine lv_icmp_eq (tgt := 1052) hx hb dL_law_289 (by decide) (fun _ => ?_) (fun c1 => absurd rfl c1)
  exact kk MX' MM' H locs hR' hP1 hP2 hS
set_option maxHeartbeats 4000000 in
set_option maxRecDepth 100000 in
theorem lawc_4 (Rel : zM → zM → Prop) {p : Program} {e : Env} {s : State} {m : MethodId} {below : List Frame} {meth : Method} {c : Code} (l : Launch) {b L : Nat} {xs : Nat → Int32} {Q : State → Prop} (G1 G2 : zGr) (hJ1 : zJ G1 64) (hJ2 : zJ G2 23) (he1 : zA G1 64 s.heap.size = fun q => s.heap.size ≤ q) (he2 : zA G2 23 s.heap.size = fun q => s.heap.size ≤ q) (hdis : ∀ i j, i < 64 → j < 23 → G1.2.2.1 i ≠ G2.2.2.1 j) (C1 : zCx p s m #[Value.ref b] meth c code 4 RL ret G1 64) (C2 : zCx p s m #[Value.ref b] meth c code 4 RL ret G2 23) (hX : va_X b L xs s s.heap) (hbl : b < s.heap.size) {MX MM : zM} (hR : Rel MX MM) (hstep : ∀ MX MM, Rel MX MM → ∃ (r : Int32) (MX' MM' : zM), fX5_text MX = some (r, MX') ∧ fX6_text MM = some (r, MM') ∧ Rel MX' MM') (x3 : Int32) (hin : ∀ k : Nat, k < 6 → vp_in (x3 + nI k) L) (H : Heap) (locs : List Loc) (ls : Array Slot) (hl : lv_has ls 4 [(0, .ref b), (1, .ref (G1.2.2.1 0)), (2, .ref (G2.2.2.1 0)), (3, .int x3)]) (hP1 : va_P G1.1 zcl (zw G1 shX 64 MX) H) (hP2 : va_P G2.1 zcl (zw G2 shM 23 MM) H) (hS : va_S (fun q => s.heap.size ≤ q) s.heap H locs) (kk : ∀ (MX MM : zM) (H : Heap) (locs : List Loc), Rel MX MM → va_P G1.1 zcl (zw G1 shX 64 MX) H → va_P G2.1 zcl (zw G2 shM 23 MM) H → va_S (fun q => s.heap.size ≤ q) s.heap H locs → W p l e room_1 s m #[Value.ref b] below meth c H locs 87 79514 Q (F0 m 1052 ls [])) : W p l e room_1 s m #[Value.ref b] below meth c H locs 87 79514 Q (F0 m 294 ls []) := by
  have hx := C1.1
  have hb := C1.2.1
  have hbA : ¬ (fun q : Nat => s.heap.size ≤ q) b := Nat.not_le.mpr hbl
  obtain ⟨r, MX', MM', hc1, hc2, hR'⟩ := hstep MX MM hR
  refine lv_aload_n hx hb dL_law_294 rfl (lv_at hl 1 rfl) ?_
  refine zd_vi (As := []) (rest := []) C1 he1 hP1 (G' := G2) (sh' := shM) (N' := 23) (M2 := MM) hP2 hdis hS hl.1 0 (mtX5_text l G1 hJ1 MX _ hc1) lk_L_32 (by decide) shX_0 (T := TX5) (n' := 9) rfl ds_X5_text ⟨Nat.le_of_ble_eq_true rfl, Nat.le_of_ble_eq_true rfl⟩ rfl rfl (Nat.le_of_ble_eq_true rfl) dL_law_295 ⟨Nat.le_of_ble_eq_true rfl, Nat.le_of_ble_eq_true rfl⟩ (fun H locs hP1 hP2 hS => ?_)
  refine lv_aload_n hx hb dL_law_298 rfl (lv_at hl 2 rfl) ?_
  refine zd_vi (As := []) (rest := [.int r]) C2 he2 hP2 (G' := G1) (sh' := shX) (N' := 64) (M2 := MX') hP1 (fun i j hi hj => Ne.symm (hdis j i hj hi)) hS hl.1 0 (mtX6_text l G2 hJ2 MM _ hc2) lk_L_36 (by decide) shM_0 (T := TX6) (n' := 51) rfl ds_X6_text ⟨Nat.le_of_ble_eq_true rfl, Nat.le_of_ble_eq_true rfl⟩ rfl rfl (Nat.le_of_ble_eq_true rfl) dL_law_299 ⟨Nat.le_of_ble_eq_true rfl, Nat.le_of_ble_eq_true rfl⟩ (fun H locs hP2 hP1 hS => ?_)
  refine lv_icmp_eq (tgt := 1052) hx hb dL_law_302 (by decide) (fun _ => ?_) (fun c1 => absurd rfl c1)
  exact kk MX' MM' H locs hR' hP1 hP2 hS
set_option maxHeartbeats 4000000 in
set_option maxRecDepth 100000 in
theorem lawc_5 (Rel : zM → zM → Prop) {p : Program} {e : Env} {s : State} {m : MethodId} {below : List Frame} {meth : Method} {c : Code} (l : Launch) {b L : Nat} {xs : Nat → Int32} {Q : State → Prop} (G1 G2 : zGr) (hJ1 : zJ G1 64) (hJ2 : zJ G2 23) (he1 : zA G1 64 s.heap.size = fun q => s.heap.size ≤ q) (he2 : zA G2 23 s.heap.size = fun q => s.heap.size ≤ q) (hdis : ∀ i j, i < 64 → j < 23 → G1.2.2.1 i ≠ G2.2.2.1 j) (C1 : zCx p s m #[Value.ref b] meth c code 4 RL ret G1 64) (C2 : zCx p s m #[Value.ref b] meth c code 4 RL ret G2 23) (hX : va_X b L xs s s.heap) (hbl : b < s.heap.size) {MX MM : zM} (hR : Rel MX MM) (hstep : ∀ MX MM, Rel MX MM → ∀ a1 : Int32, ∃ (r : Int32) (MX' MM' : zM), fX5_force a1 MX = some (r, MX') ∧ fX6_force a1 MM = some (r, MM') ∧ Rel MX' MM') (x3 : Int32) (hin : ∀ k : Nat, k < 6 → vp_in (x3 + nI k) L) (H : Heap) (locs : List Loc) (ls : Array Slot) (hl : lv_has ls 4 [(0, .ref b), (1, .ref (G1.2.2.1 0)), (2, .ref (G2.2.2.1 0)), (3, .int x3)]) (hP1 : va_P G1.1 zcl (zw G1 shX 64 MX) H) (hP2 : va_P G2.1 zcl (zw G2 shM 23 MM) H) (hS : va_S (fun q => s.heap.size ≤ q) s.heap H locs) (kk : ∀ (MX MM : zM) (H : Heap) (locs : List Loc), Rel MX MM → va_P G1.1 zcl (zw G1 shX 64 MX) H → va_P G2.1 zcl (zw G2 shM 23 MM) H → va_S (fun q => s.heap.size ≤ q) s.heap H locs → W p l e room_1 s m #[Value.ref b] below meth c H locs 87 79514 Q (F0 m 1052 ls [])) : W p l e room_1 s m #[Value.ref b] below meth c H locs 87 79514 Q (F0 m 307 ls []) := by
  have hx := C1.1
  have hb := C1.2.1
  have hbA : ¬ (fun q : Nat => s.heap.size ≤ q) b := Nat.not_le.mpr hbl
  obtain ⟨r, MX', MM', hc1, hc2, hR'⟩ := hstep MX MM hR (xs (x3 + nI 1).toNatClampNeg)
  refine lv_aload_n hx hb dL_law_307 rfl (lv_at hl 1 rfl) ?_
  refine lv_aload_n hx hb dL_law_308 rfl (lv_at hl 0 rfl) ?_
  refine lv_iload_n hx hb dL_law_309 rfl (lv_at hl 3 rfl) ?_
  refine lv_iconst (v := nI 1) hx hb dL_law_310 (by decide) ?_
  refine lv_iadd hx hb dL_law_311 ?_
  refine va_sld hx hb hX hbl hbA hS (hin 1 (by decide)) dL_law_312 ?_
  refine zd_vi (As := [.int (xs (x3 + nI 1).toNatClampNeg)]) (rest := []) C1 he1 hP1 (G' := G2) (sh' := shM) (N' := 23) (M2 := MM) hP2 hdis hS hl.1 0 (mtX5_force l G1 hJ1 (xs (x3 + nI 1).toNatClampNeg) MX _ hc1) lk_L_37 (by decide) shX_0 (T := TX5) (n' := 9) rfl ds_X5_force ⟨Nat.le_of_ble_eq_true rfl, Nat.le_of_ble_eq_true rfl⟩ rfl rfl (Nat.le_of_ble_eq_true rfl) dL_law_313 ⟨Nat.le_of_ble_eq_true rfl, Nat.le_of_ble_eq_true rfl⟩ (fun H locs hP1 hP2 hS => ?_)
  refine lv_aload_n hx hb dL_law_316 rfl (lv_at hl 2 rfl) ?_
  refine lv_aload_n hx hb dL_law_317 rfl (lv_at hl 0 rfl) ?_
  refine lv_iload_n hx hb dL_law_318 rfl (lv_at hl 3 rfl) ?_
  refine lv_iconst (v := nI 1) hx hb dL_law_319 (by decide) ?_
  refine lv_iadd hx hb dL_law_320 ?_
  refine va_sld hx hb hX hbl hbA hS (hin 1 (by decide)) dL_law_321 ?_
  refine zd_vi (As := [.int (xs (x3 + nI 1).toNatClampNeg)]) (rest := [.int r]) C2 he2 hP2 (G' := G1) (sh' := shX) (N' := 64) (M2 := MX') hP1 (fun i j hi hj => Ne.symm (hdis j i hj hi)) hS hl.1 0 (mtX6_force l G2 hJ2 (xs (x3 + nI 1).toNatClampNeg) MM _ hc2) lk_L_40 (by decide) shM_0 (T := TX6) (n' := 51) rfl ds_X6_force ⟨Nat.le_of_ble_eq_true rfl, Nat.le_of_ble_eq_true rfl⟩ rfl rfl (Nat.le_of_ble_eq_true rfl) dL_law_322 ⟨Nat.le_of_ble_eq_true rfl, Nat.le_of_ble_eq_true rfl⟩ (fun H locs hP2 hP1 hS => ?_)
  refine lv_icmp_eq (tgt := 1052) hx hb dL_law_325 (by decide) (fun _ => ?_) (fun c1 => absurd rfl c1)
  exact kk MX' MM' H locs hR' hP1 hP2 hS
set_option maxHeartbeats 4000000 in
set_option maxRecDepth 100000 in
theorem lawc_6 (Rel : zM → zM → Prop) {p : Program} {e : Env} {s : State} {m : MethodId} {below : List Frame} {meth : Method} {c : Code} (l : Launch) {b L : Nat} {xs : Nat → Int32} {Q : State → Prop} (G1 G2 : zGr) (hJ1 : zJ G1 64) (hJ2 : zJ G2 23) (he1 : zA G1 64 s.heap.size = fun q => s.heap.size ≤ q) (he2 : zA G2 23 s.heap.size = fun q => s.heap.size ≤ q) (hdis : ∀ i j, i < 64 → j < 23 → G1.2.2.1 i ≠ G2.2.2.1 j) (C1 : zCx p s m #[Value.ref b] meth c code 4 RL ret G1 64) (C2 : zCx p s m #[Value.ref b] meth c code 4 RL ret G2 23) (hX : va_X b L xs s s.heap) (hbl : b < s.heap.size) {MX MM : zM} (hR : Rel MX MM) (hstep : ∀ MX MM, Rel MX MM → ∃ (r : Int32) (MX' MM' : zM), fX5_day MX = some (r, MX') ∧ fX6_day MM = some (r, MM') ∧ Rel MX' MM') (x3 : Int32) (hin : ∀ k : Nat, k < 6 → vp_in (x3 + nI k) L) (H : Heap) (locs : List Loc) (ls : Array Slot) (hl : lv_has ls 4 [(0, .ref b), (1, .ref (G1.2.2.1 0)), (2, .ref (G2.2.2.1 0)), (3, .int x3)]) (hP1 : va_P G1.1 zcl (zw G1 shX 64 MX) H) (hP2 : va_P G2.1 zcl (zw G2 shM 23 MM) H) (hS : va_S (fun q => s.heap.size ≤ q) s.heap H locs) (kk : ∀ (MX MM : zM) (H : Heap) (locs : List Loc), Rel MX MM → va_P G1.1 zcl (zw G1 shX 64 MX) H → va_P G2.1 zcl (zw G2 shM 23 MM) H → va_S (fun q => s.heap.size ≤ q) s.heap H locs → W p l e room_1 s m #[Value.ref b] below meth c H locs 87 79514 Q (F0 m 1052 ls [])) : W p l e room_1 s m #[Value.ref b] below meth c H locs 87 79514 Q (F0 m 330 ls []) := by
  have hx := C1.1
  have hb := C1.2.1
  have hbA : ¬ (fun q : Nat => s.heap.size ≤ q) b := Nat.not_le.mpr hbl
  obtain ⟨r, MX', MM', hc1, hc2, hR'⟩ := hstep MX MM hR
  refine lv_aload_n hx hb dL_law_330 rfl (lv_at hl 1 rfl) ?_
  refine zd_vi (As := []) (rest := []) C1 he1 hP1 (G' := G2) (sh' := shM) (N' := 23) (M2 := MM) hP2 hdis hS hl.1 0 (mtX5_day l G1 hJ1 MX _ hc1) lk_L_41 (by decide) shX_0 (T := TX5) (n' := 9) rfl ds_X5_day ⟨Nat.le_of_ble_eq_true rfl, Nat.le_of_ble_eq_true rfl⟩ rfl rfl (Nat.le_of_ble_eq_true rfl) dL_law_331 ⟨Nat.le_of_ble_eq_true rfl, Nat.le_of_ble_eq_true rfl⟩ (fun H locs hP1 hP2 hS => ?_)
  refine lv_aload_n hx hb dL_law_334 rfl (lv_at hl 2 rfl) ?_
  refine zd_vi (As := []) (rest := [.int r]) C2 he2 hP2 (G' := G1) (sh' := shX) (N' := 64) (M2 := MX') hP1 (fun i j hi hj => Ne.symm (hdis j i hj hi)) hS hl.1 0 (mtX6_day l G2 hJ2 MM _ hc2) lk_L_44 (by decide) shM_0 (T := TX6) (n' := 51) rfl ds_X6_day ⟨Nat.le_of_ble_eq_true rfl, Nat.le_of_ble_eq_true rfl⟩ rfl rfl (Nat.le_of_ble_eq_true rfl) dL_law_335 ⟨Nat.le_of_ble_eq_true rfl, Nat.le_of_ble_eq_true rfl⟩ (fun H locs hP2 hP1 hS => ?_)
  refine lv_icmp_eq (tgt := 1052) hx hb dL_law_338 (by decide) (fun _ => ?_) (fun c1 => absurd rfl c1)
  exact kk MX' MM' H locs hR' hP1 hP2 hS
set_option maxHeartbeats 4000000 in
set_option maxRecDepth 100000 in
theorem lawc_7 (Rel : zM → zM → Prop) {p : Program} {e : Env} {s : State} {m : MethodId} {below : List Frame} {meth : Method} {c : Code} (l : Launch) {b L : Nat} {xs : Nat → Int32} {Q : State → Prop} (G1 G2 : zGr) (hJ1 : zJ G1 64) (hJ2 : zJ G2 23) (he1 : zA G1 64 s.heap.size = fun q => s.heap.size ≤ q) (he2 : zA G2 23 s.heap.size = fun q => s.heap.size ≤ q) (hdis : ∀ i j, i < 64 → j < 23 → G1.2.2.1 i ≠ G2.2.2.1 j) (C1 : zCx p s m #[Value.ref b] meth c code 4 RL ret G1 64) (C2 : zCx p s m #[Value.ref b] meth c code 4 RL ret G2 23) (hX : va_X b L xs s s.heap) (hbl : b < s.heap.size) {MX MM : zM} (hR : Rel MX MM) (hstep : ∀ MX MM, Rel MX MM → ∀ a1 a2 a3 : Int32, ∃ (r : Int32) (MX' MM' : zM), fX5_draw a1 a2 a3 MX = some (r, MX') ∧ fX6_draw a1 a2 a3 MM = some (r, MM') ∧ Rel MX' MM') (x3 : Int32) (hin : ∀ k : Nat, k < 6 → vp_in (x3 + nI k) L) (H : Heap) (locs : List Loc) (ls : Array Slot) (hl : lv_has ls 4 [(0, .ref b), (1, .ref (G1.2.2.1 0)), (2, .ref (G2.2.2.1 0)), (3, .int x3)]) (hP1 : va_P G1.1 zcl (zw G1 shX 64 MX) H) (hP2 : va_P G2.1 zcl (zw G2 shM 23 MM) H) (hS : va_S (fun q => s.heap.size ≤ q) s.heap H locs) (kk : ∀ (MX MM : zM) (H : Heap) (locs : List Loc), Rel MX MM → va_P G1.1 zcl (zw G1 shX 64 MX) H → va_P G2.1 zcl (zw G2 shM 23 MM) H → va_S (fun q => s.heap.size ≤ q) s.heap H locs → W p l e room_1 s m #[Value.ref b] below meth c H locs 87 79514 Q (F0 m 1052 ls [])) : W p l e room_1 s m #[Value.ref b] below meth c H locs 87 79514 Q (F0 m 343 ls []) := by
  have hx := C1.1
  have hb := C1.2.1
  have hbA : ¬ (fun q : Nat => s.heap.size ≤ q) b := Nat.not_le.mpr hbl
  obtain ⟨r, MX', MM', hc1, hc2, hR'⟩ := hstep MX MM hR (xs (x3 + nI 1).toNatClampNeg) (xs (x3 + nI 2).toNatClampNeg) (xs (x3 + nI 3).toNatClampNeg)
  refine lv_aload_n hx hb dL_law_343 rfl (lv_at hl 1 rfl) ?_
  refine lv_aload_n hx hb dL_law_344 rfl (lv_at hl 0 rfl) ?_
  refine lv_iload_n hx hb dL_law_345 rfl (lv_at hl 3 rfl) ?_
  refine lv_iconst (v := nI 1) hx hb dL_law_346 (by decide) ?_
  refine lv_iadd hx hb dL_law_347 ?_
  refine va_sld hx hb hX hbl hbA hS (hin 1 (by decide)) dL_law_348 ?_
  refine lv_aload_n hx hb dL_law_349 rfl (lv_at hl 0 rfl) ?_
  refine lv_iload_n hx hb dL_law_350 rfl (lv_at hl 3 rfl) ?_
  refine lv_iconst (v := nI 2) hx hb dL_law_351 (by decide) ?_
  refine lv_iadd hx hb dL_law_352 ?_
  refine va_sld hx hb hX hbl hbA hS (hin 2 (by decide)) dL_law_353 ?_
  refine lv_aload_n hx hb dL_law_354 rfl (lv_at hl 0 rfl) ?_
  refine lv_iload_n hx hb dL_law_355 rfl (lv_at hl 3 rfl) ?_
  refine lv_iconst (v := nI 3) hx hb dL_law_356 (by decide) ?_
  refine lv_iadd hx hb dL_law_357 ?_
  refine va_sld hx hb hX hbl hbA hS (hin 3 (by decide)) dL_law_358 ?_
  refine zd_vi (As := [.int (xs (x3 + nI 1).toNatClampNeg), .int (xs (x3 + nI 2).toNatClampNeg), .int (xs (x3 + nI 3).toNatClampNeg)]) (rest := []) C1 he1 hP1 (G' := G2) (sh' := shM) (N' := 23) (M2 := MM) hP2 hdis hS hl.1 0 (mtX5_draw l G1 hJ1 (xs (x3 + nI 1).toNatClampNeg) (xs (x3 + nI 2).toNatClampNeg) (xs (x3 + nI 3).toNatClampNeg) MX _ hc1) lk_L_45 (by decide) shX_0 (T := TX5) (n' := 9) rfl ds_X5_draw ⟨Nat.le_of_ble_eq_true rfl, Nat.le_of_ble_eq_true rfl⟩ rfl rfl (Nat.le_of_ble_eq_true rfl) dL_law_359 ⟨Nat.le_of_ble_eq_true rfl, Nat.le_of_ble_eq_true rfl⟩ (fun H locs hP1 hP2 hS => ?_)
  refine lv_aload_n hx hb dL_law_362 rfl (lv_at hl 2 rfl) ?_
  refine lv_aload_n hx hb dL_law_363 rfl (lv_at hl 0 rfl) ?_
  refine lv_iload_n hx hb dL_law_364 rfl (lv_at hl 3 rfl) ?_
  refine lv_iconst (v := nI 1) hx hb dL_law_365 (by decide) ?_
  refine lv_iadd hx hb dL_law_366 ?_
  refine va_sld hx hb hX hbl hbA hS (hin 1 (by decide)) dL_law_367 ?_
  refine lv_aload_n hx hb dL_law_368 rfl (lv_at hl 0 rfl) ?_
  refine lv_iload_n hx hb dL_law_369 rfl (lv_at hl 3 rfl) ?_
  refine lv_iconst (v := nI 2) hx hb dL_law_370 (by decide) ?_
  refine lv_iadd hx hb dL_law_371 ?_
  refine va_sld hx hb hX hbl hbA hS (hin 2 (by decide)) dL_law_372 ?_
  refine lv_aload_n hx hb dL_law_373 rfl (lv_at hl 0 rfl) ?_
  refine lv_iload_n hx hb dL_law_374 rfl (lv_at hl 3 rfl) ?_
  refine lv_iconst (v := nI 3) hx hb dL_law_375 (by decide) ?_
  refine lv_iadd hx hb dL_law_376 ?_
  refine va_sld hx hb hX hbl hbA hS (hin 3 (by decide)) dL_law_377 ?_
  refine zd_vi (As := [.int (xs (x3 + nI 1).toNatClampNeg), .int (xs (x3 + nI 2).toNatClampNeg), .int (xs (x3 + nI 3).toNatClampNeg)]) (rest := [.int r]) C2 he2 hP2 (G' := G1) (sh' := shX) (N' := 64) (M2 := MX') hP1 (fun i j hi hj => Ne.symm (hdis j i hj hi)) hS hl.1 0 (mtX6_draw l G2 hJ2 (xs (x3 + nI 1).toNatClampNeg) (xs (x3 + nI 2).toNatClampNeg) (xs (x3 + nI 3).toNatClampNeg) MM _ hc2) lk_L_48 (by decide) shM_0 (T := TX6) (n' := 51) rfl ds_X6_draw ⟨Nat.le_of_ble_eq_true rfl, Nat.le_of_ble_eq_true rfl⟩ rfl rfl (Nat.le_of_ble_eq_true rfl) dL_law_378 ⟨Nat.le_of_ble_eq_true rfl, Nat.le_of_ble_eq_true rfl⟩ (fun H locs hP2 hP1 hS => ?_)
  refine lv_icmp_eq (tgt := 1052) hx hb dL_law_381 (by decide) (fun _ => ?_) (fun c1 => absurd rfl c1)
  exact kk MX' MM' H locs hR' hP1 hP2 hS
set_option maxHeartbeats 4000000 in
set_option maxRecDepth 100000 in
theorem lawc_8 (Rel : zM → zM → Prop) {p : Program} {e : Env} {s : State} {m : MethodId} {below : List Frame} {meth : Method} {c : Code} (l : Launch) {b L : Nat} {xs : Nat → Int32} {Q : State → Prop} (G1 G2 : zGr) (hJ1 : zJ G1 64) (hJ2 : zJ G2 23) (he1 : zA G1 64 s.heap.size = fun q => s.heap.size ≤ q) (he2 : zA G2 23 s.heap.size = fun q => s.heap.size ≤ q) (hdis : ∀ i j, i < 64 → j < 23 → G1.2.2.1 i ≠ G2.2.2.1 j) (C1 : zCx p s m #[Value.ref b] meth c code 4 RL ret G1 64) (C2 : zCx p s m #[Value.ref b] meth c code 4 RL ret G2 23) (hX : va_X b L xs s s.heap) (hbl : b < s.heap.size) {MX MM : zM} (hR : Rel MX MM) (hstep : ∀ MX MM, Rel MX MM → ∀ a1 a2 a3 : Int32, ∃ (r : Int32) (MX' MM' : zM), fX5_run a1 a2 a3 MX = some (r, MX') ∧ fX6_run a1 a2 a3 MM = some (r, MM') ∧ Rel MX' MM') (x3 : Int32) (hin : ∀ k : Nat, k < 6 → vp_in (x3 + nI k) L) (H : Heap) (locs : List Loc) (ls : Array Slot) (hl : lv_has ls 4 [(0, .ref b), (1, .ref (G1.2.2.1 0)), (2, .ref (G2.2.2.1 0)), (3, .int x3)]) (hP1 : va_P G1.1 zcl (zw G1 shX 64 MX) H) (hP2 : va_P G2.1 zcl (zw G2 shM 23 MM) H) (hS : va_S (fun q => s.heap.size ≤ q) s.heap H locs) (kk : ∀ (MX MM : zM) (H : Heap) (locs : List Loc), Rel MX MM → va_P G1.1 zcl (zw G1 shX 64 MX) H → va_P G2.1 zcl (zw G2 shM 23 MM) H → va_S (fun q => s.heap.size ≤ q) s.heap H locs → W p l e room_1 s m #[Value.ref b] below meth c H locs 87 79514 Q (F0 m 1052 ls [])) : W p l e room_1 s m #[Value.ref b] below meth c H locs 87 79514 Q (F0 m 386 ls []) := by
  have hx := C1.1
  have hb := C1.2.1
  have hbA : ¬ (fun q : Nat => s.heap.size ≤ q) b := Nat.not_le.mpr hbl
  obtain ⟨r, MX', MM', hc1, hc2, hR'⟩ := hstep MX MM hR (xs (x3 + nI 1).toNatClampNeg) (xs (x3 + nI 2).toNatClampNeg) (xs (x3 + nI 3).toNatClampNeg)
  refine lv_aload_n hx hb dL_law_386 rfl (lv_at hl 1 rfl) ?_
  refine lv_aload_n hx hb dL_law_387 rfl (lv_at hl 0 rfl) ?_
  refine lv_iload_n hx hb dL_law_388 rfl (lv_at hl 3 rfl) ?_
  refine lv_iconst (v := nI 1) hx hb dL_law_389 (by decide) ?_
  refine lv_iadd hx hb dL_law_390 ?_
  refine va_sld hx hb hX hbl hbA hS (hin 1 (by decide)) dL_law_391 ?_
  refine lv_aload_n hx hb dL_law_392 rfl (lv_at hl 0 rfl) ?_
  refine lv_iload_n hx hb dL_law_393 rfl (lv_at hl 3 rfl) ?_
  refine lv_iconst (v := nI 2) hx hb dL_law_394 (by decide) ?_
  refine lv_iadd hx hb dL_law_395 ?_
  refine va_sld hx hb hX hbl hbA hS (hin 2 (by decide)) dL_law_396 ?_
  refine lv_aload_n hx hb dL_law_397 rfl (lv_at hl 0 rfl) ?_
  refine lv_iload_n hx hb dL_law_398 rfl (lv_at hl 3 rfl) ?_
  refine lv_iconst (v := nI 3) hx hb dL_law_399 (by decide) ?_
  refine lv_iadd hx hb dL_law_400 ?_
  refine va_sld hx hb hX hbl hbA hS (hin 3 (by decide)) dL_law_401 ?_
  refine zd_vi (As := [.int (xs (x3 + nI 1).toNatClampNeg), .int (xs (x3 + nI 2).toNatClampNeg), .int (xs (x3 + nI 3).toNatClampNeg)]) (rest := []) C1 he1 hP1 (G' := G2) (sh' := shM) (N' := 23) (M2 := MM) hP2 hdis hS hl.1 0 (mtX5_run l G1 hJ1 (xs (x3 + nI 1).toNatClampNeg) (xs (x3 + nI 2).toNatClampNeg) (xs (x3 + nI 3).toNatClampNeg) MX _ hc1) lk_L_49 (by decide) shX_0 (T := TX5) (n' := 9) rfl ds_X5_run ⟨Nat.le_of_ble_eq_true rfl, Nat.le_of_ble_eq_true rfl⟩ rfl rfl (Nat.le_of_ble_eq_true rfl) dL_law_402 ⟨Nat.le_of_ble_eq_true rfl, Nat.le_of_ble_eq_true rfl⟩ (fun H locs hP1 hP2 hS => ?_)
  refine lv_aload_n hx hb dL_law_405 rfl (lv_at hl 2 rfl) ?_
  refine lv_aload_n hx hb dL_law_406 rfl (lv_at hl 0 rfl) ?_
  refine lv_iload_n hx hb dL_law_407 rfl (lv_at hl 3 rfl) ?_
  refine lv_iconst (v := nI 1) hx hb dL_law_408 (by decide) ?_
  refine lv_iadd hx hb dL_law_409 ?_
  refine va_sld hx hb hX hbl hbA hS (hin 1 (by decide)) dL_law_410 ?_
  refine lv_aload_n hx hb dL_law_411 rfl (lv_at hl 0 rfl) ?_
  refine lv_iload_n hx hb dL_law_412 rfl (lv_at hl 3 rfl) ?_
  refine lv_iconst (v := nI 2) hx hb dL_law_413 (by decide) ?_
  refine lv_iadd hx hb dL_law_414 ?_
  refine va_sld hx hb hX hbl hbA hS (hin 2 (by decide)) dL_law_415 ?_
  refine lv_aload_n hx hb dL_law_416 rfl (lv_at hl 0 rfl) ?_
  refine lv_iload_n hx hb dL_law_417 rfl (lv_at hl 3 rfl) ?_
  refine lv_iconst (v := nI 3) hx hb dL_law_418 (by decide) ?_
  refine lv_iadd hx hb dL_law_419 ?_
  refine va_sld hx hb hX hbl hbA hS (hin 3 (by decide)) dL_law_420 ?_
  refine zd_vi (As := [.int (xs (x3 + nI 1).toNatClampNeg), .int (xs (x3 + nI 2).toNatClampNeg), .int (xs (x3 + nI 3).toNatClampNeg)]) (rest := [.int r]) C2 he2 hP2 (G' := G1) (sh' := shX) (N' := 64) (M2 := MX') hP1 (fun i j hi hj => Ne.symm (hdis j i hj hi)) hS hl.1 0 (mtX6_run l G2 hJ2 (xs (x3 + nI 1).toNatClampNeg) (xs (x3 + nI 2).toNatClampNeg) (xs (x3 + nI 3).toNatClampNeg) MM _ hc2) lk_L_52 (by decide) shM_0 (T := TX6) (n' := 51) rfl ds_X6_run ⟨Nat.le_of_ble_eq_true rfl, Nat.le_of_ble_eq_true rfl⟩ rfl rfl (Nat.le_of_ble_eq_true rfl) dL_law_421 ⟨Nat.le_of_ble_eq_true rfl, Nat.le_of_ble_eq_true rfl⟩ (fun H locs hP2 hP1 hS => ?_)
  refine lv_icmp_eq (tgt := 1052) hx hb dL_law_424 (by decide) (fun _ => ?_) (fun c1 => absurd rfl c1)
  exact kk MX' MM' H locs hR' hP1 hP2 hS
set_option maxHeartbeats 4000000 in
set_option maxRecDepth 100000 in
theorem lawc_9 (Rel : zM → zM → Prop) {p : Program} {e : Env} {s : State} {m : MethodId} {below : List Frame} {meth : Method} {c : Code} (l : Launch) {b L : Nat} {xs : Nat → Int32} {Q : State → Prop} (G1 G2 : zGr) (hJ1 : zJ G1 64) (hJ2 : zJ G2 23) (he1 : zA G1 64 s.heap.size = fun q => s.heap.size ≤ q) (he2 : zA G2 23 s.heap.size = fun q => s.heap.size ≤ q) (hdis : ∀ i j, i < 64 → j < 23 → G1.2.2.1 i ≠ G2.2.2.1 j) (C1 : zCx p s m #[Value.ref b] meth c code 4 RL ret G1 64) (C2 : zCx p s m #[Value.ref b] meth c code 4 RL ret G2 23) (hX : va_X b L xs s s.heap) (hbl : b < s.heap.size) {MX MM : zM} (hR : Rel MX MM) (hstep : ∀ MX MM, Rel MX MM → ∀ a1 : Int32, ∃ (r : Int32) (MX' MM' : zM), fX5_all a1 MX = some (r, MX') ∧ fX6_all a1 MM = some (r, MM') ∧ Rel MX' MM') (x3 : Int32) (hin : ∀ k : Nat, k < 6 → vp_in (x3 + nI k) L) (H : Heap) (locs : List Loc) (ls : Array Slot) (hl : lv_has ls 4 [(0, .ref b), (1, .ref (G1.2.2.1 0)), (2, .ref (G2.2.2.1 0)), (3, .int x3)]) (hP1 : va_P G1.1 zcl (zw G1 shX 64 MX) H) (hP2 : va_P G2.1 zcl (zw G2 shM 23 MM) H) (hS : va_S (fun q => s.heap.size ≤ q) s.heap H locs) (kk : ∀ (MX MM : zM) (H : Heap) (locs : List Loc), Rel MX MM → va_P G1.1 zcl (zw G1 shX 64 MX) H → va_P G2.1 zcl (zw G2 shM 23 MM) H → va_S (fun q => s.heap.size ≤ q) s.heap H locs → W p l e room_1 s m #[Value.ref b] below meth c H locs 87 79514 Q (F0 m 1052 ls [])) : W p l e room_1 s m #[Value.ref b] below meth c H locs 87 79514 Q (F0 m 429 ls []) := by
  have hx := C1.1
  have hb := C1.2.1
  have hbA : ¬ (fun q : Nat => s.heap.size ≤ q) b := Nat.not_le.mpr hbl
  obtain ⟨r, MX', MM', hc1, hc2, hR'⟩ := hstep MX MM hR (xs (x3 + nI 1).toNatClampNeg)
  refine lv_aload_n hx hb dL_law_429 rfl (lv_at hl 1 rfl) ?_
  refine lv_aload_n hx hb dL_law_430 rfl (lv_at hl 0 rfl) ?_
  refine lv_iload_n hx hb dL_law_431 rfl (lv_at hl 3 rfl) ?_
  refine lv_iconst (v := nI 1) hx hb dL_law_432 (by decide) ?_
  refine lv_iadd hx hb dL_law_433 ?_
  refine va_sld hx hb hX hbl hbA hS (hin 1 (by decide)) dL_law_434 ?_
  refine zd_vi (As := [.int (xs (x3 + nI 1).toNatClampNeg)]) (rest := []) C1 he1 hP1 (G' := G2) (sh' := shM) (N' := 23) (M2 := MM) hP2 hdis hS hl.1 0 (mtX5_all l G1 hJ1 (xs (x3 + nI 1).toNatClampNeg) MX _ hc1) lk_L_53 (by decide) shX_0 (T := TX5) (n' := 9) rfl ds_X5_all ⟨Nat.le_of_ble_eq_true rfl, Nat.le_of_ble_eq_true rfl⟩ rfl rfl (Nat.le_of_ble_eq_true rfl) dL_law_435 ⟨Nat.le_of_ble_eq_true rfl, Nat.le_of_ble_eq_true rfl⟩ (fun H locs hP1 hP2 hS => ?_)
  refine lv_aload_n hx hb dL_law_438 rfl (lv_at hl 2 rfl) ?_
  refine lv_aload_n hx hb dL_law_439 rfl (lv_at hl 0 rfl) ?_
  refine lv_iload_n hx hb dL_law_440 rfl (lv_at hl 3 rfl) ?_
  refine lv_iconst (v := nI 1) hx hb dL_law_441 (by decide) ?_
  refine lv_iadd hx hb dL_law_442 ?_
  refine va_sld hx hb hX hbl hbA hS (hin 1 (by decide)) dL_law_443 ?_
  refine zd_vi (As := [.int (xs (x3 + nI 1).toNatClampNeg)]) (rest := [.int r]) C2 he2 hP2 (G' := G1) (sh' := shX) (N' := 64) (M2 := MX') hP1 (fun i j hi hj => Ne.symm (hdis j i hj hi)) hS hl.1 0 (mtX6_all l G2 hJ2 (xs (x3 + nI 1).toNatClampNeg) MM _ hc2) lk_L_56 (by decide) shM_0 (T := TX6) (n' := 51) rfl ds_X6_all ⟨Nat.le_of_ble_eq_true rfl, Nat.le_of_ble_eq_true rfl⟩ rfl rfl (Nat.le_of_ble_eq_true rfl) dL_law_444 ⟨Nat.le_of_ble_eq_true rfl, Nat.le_of_ble_eq_true rfl⟩ (fun H locs hP2 hP1 hS => ?_)
  refine lv_icmp_eq (tgt := 1052) hx hb dL_law_447 (by decide) (fun _ => ?_) (fun c1 => absurd rfl c1)
  exact kk MX' MM' H locs hR' hP1 hP2 hS
set_option maxHeartbeats 4000000 in
set_option maxRecDepth 100000 in
theorem lawc_10 (Rel : zM → zM → Prop) {p : Program} {e : Env} {s : State} {m : MethodId} {below : List Frame} {meth : Method} {c : Code} (l : Launch) {b L : Nat} {xs : Nat → Int32} {Q : State → Prop} (G1 G2 : zGr) (hJ1 : zJ G1 64) (hJ2 : zJ G2 23) (he1 : zA G1 64 s.heap.size = fun q => s.heap.size ≤ q) (he2 : zA G2 23 s.heap.size = fun q => s.heap.size ≤ q) (hdis : ∀ i j, i < 64 → j < 23 → G1.2.2.1 i ≠ G2.2.2.1 j) (C1 : zCx p s m #[Value.ref b] meth c code 4 RL ret G1 64) (C2 : zCx p s m #[Value.ref b] meth c code 4 RL ret G2 23) (hX : va_X b L xs s s.heap) (hbl : b < s.heap.size) {MX MM : zM} (hR : Rel MX MM) (hstep : ∀ MX MM, Rel MX MM → ∀ a1 : Int32, ∃ (r : Int64) (MX' MM' : zM), fX5_times a1 MX = some (r, MX') ∧ fX6_times a1 MM = some (r, MM') ∧ Rel MX' MM') (x3 : Int32) (hin : ∀ k : Nat, k < 6 → vp_in (x3 + nI k) L) (H : Heap) (locs : List Loc) (ls : Array Slot) (hl : lv_has ls 4 [(0, .ref b), (1, .ref (G1.2.2.1 0)), (2, .ref (G2.2.2.1 0)), (3, .int x3)]) (hP1 : va_P G1.1 zcl (zw G1 shX 64 MX) H) (hP2 : va_P G2.1 zcl (zw G2 shM 23 MM) H) (hS : va_S (fun q => s.heap.size ≤ q) s.heap H locs) (kk : ∀ (MX MM : zM) (H : Heap) (locs : List Loc), Rel MX MM → va_P G1.1 zcl (zw G1 shX 64 MX) H → va_P G2.1 zcl (zw G2 shM 23 MM) H → va_S (fun q => s.heap.size ≤ q) s.heap H locs → W p l e room_1 s m #[Value.ref b] below meth c H locs 87 79514 Q (F0 m 1052 ls [])) : W p l e room_1 s m #[Value.ref b] below meth c H locs 87 79514 Q (F0 m 452 ls []) := by
  have hx := C1.1
  have hb := C1.2.1
  have hbA : ¬ (fun q : Nat => s.heap.size ≤ q) b := Nat.not_le.mpr hbl
  obtain ⟨r, MX', MM', hc1, hc2, hR'⟩ := hstep MX MM hR (xs (x3 + nI 1).toNatClampNeg)
  refine lv_aload_n hx hb dL_law_452 rfl (lv_at hl 1 rfl) ?_
  refine lv_aload_n hx hb dL_law_453 rfl (lv_at hl 0 rfl) ?_
  refine lv_iload_n hx hb dL_law_454 rfl (lv_at hl 3 rfl) ?_
  refine lv_iconst (v := nI 1) hx hb dL_law_455 (by decide) ?_
  refine lv_iadd hx hb dL_law_456 ?_
  refine va_sld hx hb hX hbl hbA hS (hin 1 (by decide)) dL_law_457 ?_
  refine zd_vl (As := [.int (xs (x3 + nI 1).toNatClampNeg)]) (rest := []) C1 he1 hP1 (G' := G2) (sh' := shM) (N' := 23) (M2 := MM) hP2 hdis hS hl.1 0 (mtX5_times l G1 hJ1 (xs (x3 + nI 1).toNatClampNeg) MX _ hc1) lk_L_57 (by decide) shX_0 (T := TX5) (n' := 9) rfl ds_X5_times ⟨Nat.le_of_ble_eq_true rfl, Nat.le_of_ble_eq_true rfl⟩ rfl rfl (Nat.le_of_ble_eq_true rfl) dL_law_458 ⟨Nat.le_of_ble_eq_true rfl, Nat.le_of_ble_eq_true rfl⟩ (fun H locs hP1 hP2 hS => ?_)
  refine lv_aload_n hx hb dL_law_461 rfl (lv_at hl 2 rfl) ?_
  refine lv_aload_n hx hb dL_law_462 rfl (lv_at hl 0 rfl) ?_
  refine lv_iload_n hx hb dL_law_463 rfl (lv_at hl 3 rfl) ?_
  refine lv_iconst (v := nI 1) hx hb dL_law_464 (by decide) ?_
  refine lv_iadd hx hb dL_law_465 ?_
  refine va_sld hx hb hX hbl hbA hS (hin 1 (by decide)) dL_law_466 ?_
  refine zd_vl (As := [.int (xs (x3 + nI 1).toNatClampNeg)]) (rest := [.long r]) C2 he2 hP2 (G' := G1) (sh' := shX) (N' := 64) (M2 := MX') hP1 (fun i j hi hj => Ne.symm (hdis j i hj hi)) hS hl.1 0 (mtX6_times l G2 hJ2 (xs (x3 + nI 1).toNatClampNeg) MM _ hc2) lk_L_61 (by decide) shM_0 (T := TX6) (n' := 51) rfl ds_X6_times ⟨Nat.le_of_ble_eq_true rfl, Nat.le_of_ble_eq_true rfl⟩ rfl rfl (Nat.le_of_ble_eq_true rfl) dL_law_467 ⟨Nat.le_of_ble_eq_true rfl, Nat.le_of_ble_eq_true rfl⟩ (fun H locs hP2 hP1 hS => ?_)
  refine zo_lcmp hx hb dL_law_470 ?_
  refine lv_if_eq (tgt := 1052) hx hb dL_law_471 (by decide) (fun _ => ?_) (fun c1 => absurd (zcmp_s _) c1)
  exact kk MX' MM' H locs hR' hP1 hP2 hS
set_option maxHeartbeats 4000000 in
set_option maxRecDepth 100000 in
theorem lawc_11 (Rel : zM → zM → Prop) {p : Program} {e : Env} {s : State} {m : MethodId} {below : List Frame} {meth : Method} {c : Code} (l : Launch) {b L : Nat} {xs : Nat → Int32} {Q : State → Prop} (G1 G2 : zGr) (hJ1 : zJ G1 64) (hJ2 : zJ G2 23) (he1 : zA G1 64 s.heap.size = fun q => s.heap.size ≤ q) (he2 : zA G2 23 s.heap.size = fun q => s.heap.size ≤ q) (hdis : ∀ i j, i < 64 → j < 23 → G1.2.2.1 i ≠ G2.2.2.1 j) (C1 : zCx p s m #[Value.ref b] meth c code 4 RL ret G1 64) (C2 : zCx p s m #[Value.ref b] meth c code 4 RL ret G2 23) (hX : va_X b L xs s s.heap) (hbl : b < s.heap.size) {MX MM : zM} (hR : Rel MX MM) (hstep : ∀ MX MM, Rel MX MM → ∀ a1 a2 a3 : Int32, ∃ (r : Int32) (MX' MM' : zM), fX5_fewest a1 a2 a3 MX = some (r, MX') ∧ fX6_fewest a1 a2 a3 MM = some (r, MM') ∧ Rel MX' MM') (x3 : Int32) (hin : ∀ k : Nat, k < 6 → vp_in (x3 + nI k) L) (H : Heap) (locs : List Loc) (ls : Array Slot) (hl : lv_has ls 4 [(0, .ref b), (1, .ref (G1.2.2.1 0)), (2, .ref (G2.2.2.1 0)), (3, .int x3)]) (hP1 : va_P G1.1 zcl (zw G1 shX 64 MX) H) (hP2 : va_P G2.1 zcl (zw G2 shM 23 MM) H) (hS : va_S (fun q => s.heap.size ≤ q) s.heap H locs) (kk : ∀ (MX MM : zM) (H : Heap) (locs : List Loc), Rel MX MM → va_P G1.1 zcl (zw G1 shX 64 MX) H → va_P G2.1 zcl (zw G2 shM 23 MM) H → va_S (fun q => s.heap.size ≤ q) s.heap H locs → W p l e room_1 s m #[Value.ref b] below meth c H locs 87 79514 Q (F0 m 1052 ls [])) : W p l e room_1 s m #[Value.ref b] below meth c H locs 87 79514 Q (F0 m 476 ls []) := by
  have hx := C1.1
  have hb := C1.2.1
  have hbA : ¬ (fun q : Nat => s.heap.size ≤ q) b := Nat.not_le.mpr hbl
  obtain ⟨r, MX', MM', hc1, hc2, hR'⟩ := hstep MX MM hR (xs (x3 + nI 1).toNatClampNeg) (xs (x3 + nI 2).toNatClampNeg) (xs (x3 + nI 3).toNatClampNeg)
  refine lv_aload_n hx hb dL_law_476 rfl (lv_at hl 1 rfl) ?_
  refine lv_aload_n hx hb dL_law_477 rfl (lv_at hl 0 rfl) ?_
  refine lv_iload_n hx hb dL_law_478 rfl (lv_at hl 3 rfl) ?_
  refine lv_iconst (v := nI 1) hx hb dL_law_479 (by decide) ?_
  refine lv_iadd hx hb dL_law_480 ?_
  refine va_sld hx hb hX hbl hbA hS (hin 1 (by decide)) dL_law_481 ?_
  refine lv_aload_n hx hb dL_law_482 rfl (lv_at hl 0 rfl) ?_
  refine lv_iload_n hx hb dL_law_483 rfl (lv_at hl 3 rfl) ?_
  refine lv_iconst (v := nI 2) hx hb dL_law_484 (by decide) ?_
  refine lv_iadd hx hb dL_law_485 ?_
  refine va_sld hx hb hX hbl hbA hS (hin 2 (by decide)) dL_law_486 ?_
  refine lv_aload_n hx hb dL_law_487 rfl (lv_at hl 0 rfl) ?_
  refine lv_iload_n hx hb dL_law_488 rfl (lv_at hl 3 rfl) ?_
  refine lv_iconst (v := nI 3) hx hb dL_law_489 (by decide) ?_
  refine lv_iadd hx hb dL_law_490 ?_
  refine va_sld hx hb hX hbl hbA hS (hin 3 (by decide)) dL_law_491 ?_
  refine zd_vi (As := [.int (xs (x3 + nI 1).toNatClampNeg), .int (xs (x3 + nI 2).toNatClampNeg), .int (xs (x3 + nI 3).toNatClampNeg)]) (rest := []) C1 he1 hP1 (G' := G2) (sh' := shM) (N' := 23) (M2 := MM) hP2 hdis hS hl.1 0 (mtX5_fewest l G1 hJ1 (xs (x3 + nI 1).toNatClampNeg) (xs (x3 + nI 2).toNatClampNeg) (xs (x3 + nI 3).toNatClampNeg) MX _ hc1) lk_L_62 (by decide) shX_0 (T := TX5) (n' := 9) rfl ds_X5_fewest ⟨Nat.le_of_ble_eq_true rfl, Nat.le_of_ble_eq_true rfl⟩ rfl rfl (Nat.le_of_ble_eq_true rfl) dL_law_492 ⟨Nat.le_of_ble_eq_true rfl, Nat.le_of_ble_eq_true rfl⟩ (fun H locs hP1 hP2 hS => ?_)
  refine lv_aload_n hx hb dL_law_495 rfl (lv_at hl 2 rfl) ?_
  refine lv_aload_n hx hb dL_law_496 rfl (lv_at hl 0 rfl) ?_
  refine lv_iload_n hx hb dL_law_497 rfl (lv_at hl 3 rfl) ?_
  refine lv_iconst (v := nI 1) hx hb dL_law_498 (by decide) ?_
  refine lv_iadd hx hb dL_law_499 ?_
  refine va_sld hx hb hX hbl hbA hS (hin 1 (by decide)) dL_law_500 ?_
  refine lv_aload_n hx hb dL_law_501 rfl (lv_at hl 0 rfl) ?_
  refine lv_iload_n hx hb dL_law_502 rfl (lv_at hl 3 rfl) ?_
  refine lv_iconst (v := nI 2) hx hb dL_law_503 (by decide) ?_
  refine lv_iadd hx hb dL_law_504 ?_
  refine va_sld hx hb hX hbl hbA hS (hin 2 (by decide)) dL_law_505 ?_
  refine lv_aload_n hx hb dL_law_506 rfl (lv_at hl 0 rfl) ?_
  refine lv_iload_n hx hb dL_law_507 rfl (lv_at hl 3 rfl) ?_
  refine lv_iconst (v := nI 3) hx hb dL_law_508 (by decide) ?_
  refine lv_iadd hx hb dL_law_509 ?_
  refine va_sld hx hb hX hbl hbA hS (hin 3 (by decide)) dL_law_510 ?_
  refine zd_vi (As := [.int (xs (x3 + nI 1).toNatClampNeg), .int (xs (x3 + nI 2).toNatClampNeg), .int (xs (x3 + nI 3).toNatClampNeg)]) (rest := [.int r]) C2 he2 hP2 (G' := G1) (sh' := shX) (N' := 64) (M2 := MX') hP1 (fun i j hi hj => Ne.symm (hdis j i hj hi)) hS hl.1 0 (mtX6_fewest l G2 hJ2 (xs (x3 + nI 1).toNatClampNeg) (xs (x3 + nI 2).toNatClampNeg) (xs (x3 + nI 3).toNatClampNeg) MM _ hc2) lk_L_65 (by decide) shM_0 (T := TX6) (n' := 51) rfl ds_X6_fewest ⟨Nat.le_of_ble_eq_true rfl, Nat.le_of_ble_eq_true rfl⟩ rfl rfl (Nat.le_of_ble_eq_true rfl) dL_law_511 ⟨Nat.le_of_ble_eq_true rfl, Nat.le_of_ble_eq_true rfl⟩ (fun H locs hP2 hP1 hS => ?_)
  refine lv_icmp_eq (tgt := 1052) hx hb dL_law_514 (by decide) (fun _ => ?_) (fun c1 => absurd rfl c1)
  exact kk MX' MM' H locs hR' hP1 hP2 hS
set_option maxHeartbeats 4000000 in
set_option maxRecDepth 100000 in
theorem lawc_12 (Rel : zM → zM → Prop) {p : Program} {e : Env} {s : State} {m : MethodId} {below : List Frame} {meth : Method} {c : Code} (l : Launch) {b L : Nat} {xs : Nat → Int32} {Q : State → Prop} (G1 G2 : zGr) (hJ1 : zJ G1 64) (hJ2 : zJ G2 23) (he1 : zA G1 64 s.heap.size = fun q => s.heap.size ≤ q) (he2 : zA G2 23 s.heap.size = fun q => s.heap.size ≤ q) (hdis : ∀ i j, i < 64 → j < 23 → G1.2.2.1 i ≠ G2.2.2.1 j) (C1 : zCx p s m #[Value.ref b] meth c code 4 RL ret G1 64) (C2 : zCx p s m #[Value.ref b] meth c code 4 RL ret G2 23) (hX : va_X b L xs s s.heap) (hbl : b < s.heap.size) {MX MM : zM} (hR : Rel MX MM) (hstep : ∀ MX MM, Rel MX MM → ∀ a1 a2 : Int32, ∃ (r : Int32) (MX' MM' : zM), fX5_best a1 a2 MX = some (r, MX') ∧ fX6_best a1 a2 MM = some (r, MM') ∧ Rel MX' MM') (x3 : Int32) (hin : ∀ k : Nat, k < 6 → vp_in (x3 + nI k) L) (H : Heap) (locs : List Loc) (ls : Array Slot) (hl : lv_has ls 4 [(0, .ref b), (1, .ref (G1.2.2.1 0)), (2, .ref (G2.2.2.1 0)), (3, .int x3)]) (hP1 : va_P G1.1 zcl (zw G1 shX 64 MX) H) (hP2 : va_P G2.1 zcl (zw G2 shM 23 MM) H) (hS : va_S (fun q => s.heap.size ≤ q) s.heap H locs) (kk : ∀ (MX MM : zM) (H : Heap) (locs : List Loc), Rel MX MM → va_P G1.1 zcl (zw G1 shX 64 MX) H → va_P G2.1 zcl (zw G2 shM 23 MM) H → va_S (fun q => s.heap.size ≤ q) s.heap H locs → W p l e room_1 s m #[Value.ref b] below meth c H locs 87 79514 Q (F0 m 1052 ls [])) : W p l e room_1 s m #[Value.ref b] below meth c H locs 87 79514 Q (F0 m 519 ls []) := by
  have hx := C1.1
  have hb := C1.2.1
  have hbA : ¬ (fun q : Nat => s.heap.size ≤ q) b := Nat.not_le.mpr hbl
  obtain ⟨r, MX', MM', hc1, hc2, hR'⟩ := hstep MX MM hR (xs (x3 + nI 1).toNatClampNeg) (xs (x3 + nI 2).toNatClampNeg)
  refine lv_aload_n hx hb dL_law_519 rfl (lv_at hl 1 rfl) ?_
  refine lv_aload_n hx hb dL_law_520 rfl (lv_at hl 0 rfl) ?_
  refine lv_iload_n hx hb dL_law_521 rfl (lv_at hl 3 rfl) ?_
  refine lv_iconst (v := nI 1) hx hb dL_law_522 (by decide) ?_
  refine lv_iadd hx hb dL_law_523 ?_
  refine va_sld hx hb hX hbl hbA hS (hin 1 (by decide)) dL_law_524 ?_
  refine lv_aload_n hx hb dL_law_525 rfl (lv_at hl 0 rfl) ?_
  refine lv_iload_n hx hb dL_law_526 rfl (lv_at hl 3 rfl) ?_
  refine lv_iconst (v := nI 2) hx hb dL_law_527 (by decide) ?_
  refine lv_iadd hx hb dL_law_528 ?_
  refine va_sld hx hb hX hbl hbA hS (hin 2 (by decide)) dL_law_529 ?_
  refine zd_vi (As := [.int (xs (x3 + nI 1).toNatClampNeg), .int (xs (x3 + nI 2).toNatClampNeg)]) (rest := []) C1 he1 hP1 (G' := G2) (sh' := shM) (N' := 23) (M2 := MM) hP2 hdis hS hl.1 0 (mtX5_best l G1 hJ1 (xs (x3 + nI 1).toNatClampNeg) (xs (x3 + nI 2).toNatClampNeg) MX _ hc1) lk_L_66 (by decide) shX_0 (T := TX5) (n' := 9) rfl ds_X5_best ⟨Nat.le_of_ble_eq_true rfl, Nat.le_of_ble_eq_true rfl⟩ rfl rfl (Nat.le_of_ble_eq_true rfl) dL_law_530 ⟨Nat.le_of_ble_eq_true rfl, Nat.le_of_ble_eq_true rfl⟩ (fun H locs hP1 hP2 hS => ?_)
  refine lv_aload_n hx hb dL_law_533 rfl (lv_at hl 2 rfl) ?_
  refine lv_aload_n hx hb dL_law_534 rfl (lv_at hl 0 rfl) ?_
  refine lv_iload_n hx hb dL_law_535 rfl (lv_at hl 3 rfl) ?_
  refine lv_iconst (v := nI 1) hx hb dL_law_536 (by decide) ?_
  refine lv_iadd hx hb dL_law_537 ?_
  refine va_sld hx hb hX hbl hbA hS (hin 1 (by decide)) dL_law_538 ?_
  refine lv_aload_n hx hb dL_law_539 rfl (lv_at hl 0 rfl) ?_
  refine lv_iload_n hx hb dL_law_540 rfl (lv_at hl 3 rfl) ?_
  refine lv_iconst (v := nI 2) hx hb dL_law_541 (by decide) ?_
  refine lv_iadd hx hb dL_law_542 ?_
  refine va_sld hx hb hX hbl hbA hS (hin 2 (by decide)) dL_law_543 ?_
  refine zd_vi (As := [.int (xs (x3 + nI 1).toNatClampNeg), .int (xs (x3 + nI 2).toNatClampNeg)]) (rest := [.int r]) C2 he2 hP2 (G' := G1) (sh' := shX) (N' := 64) (M2 := MX') hP1 (fun i j hi hj => Ne.symm (hdis j i hj hi)) hS hl.1 0 (mtX6_best l G2 hJ2 (xs (x3 + nI 1).toNatClampNeg) (xs (x3 + nI 2).toNatClampNeg) MM _ hc2) lk_L_69 (by decide) shM_0 (T := TX6) (n' := 51) rfl ds_X6_best ⟨Nat.le_of_ble_eq_true rfl, Nat.le_of_ble_eq_true rfl⟩ rfl rfl (Nat.le_of_ble_eq_true rfl) dL_law_544 ⟨Nat.le_of_ble_eq_true rfl, Nat.le_of_ble_eq_true rfl⟩ (fun H locs hP2 hP1 hS => ?_)
  refine lv_icmp_eq (tgt := 1052) hx hb dL_law_547 (by decide) (fun _ => ?_) (fun c1 => absurd rfl c1)
  exact kk MX' MM' H locs hR' hP1 hP2 hS
set_option maxHeartbeats 4000000 in
set_option maxRecDepth 100000 in
theorem lawc_13 (Rel : zM → zM → Prop) {p : Program} {e : Env} {s : State} {m : MethodId} {below : List Frame} {meth : Method} {c : Code} (l : Launch) {b L : Nat} {xs : Nat → Int32} {Q : State → Prop} (G1 G2 : zGr) (hJ1 : zJ G1 64) (hJ2 : zJ G2 23) (he1 : zA G1 64 s.heap.size = fun q => s.heap.size ≤ q) (he2 : zA G2 23 s.heap.size = fun q => s.heap.size ≤ q) (hdis : ∀ i j, i < 64 → j < 23 → G1.2.2.1 i ≠ G2.2.2.1 j) (C1 : zCx p s m #[Value.ref b] meth c code 4 RL ret G1 64) (C2 : zCx p s m #[Value.ref b] meth c code 4 RL ret G2 23) (hX : va_X b L xs s s.heap) (hbl : b < s.heap.size) {MX MM : zM} (hR : Rel MX MM) (hstep : ∀ MX MM, Rel MX MM → ∀ a1 a2 a3 : Int32, ∃ (r : Int32) (MX' MM' : zM), fX5_makes a1 a2 a3 MX = some (r, MX') ∧ fX6_makes a1 a2 a3 MM = some (r, MM') ∧ Rel MX' MM') (x3 : Int32) (hin : ∀ k : Nat, k < 6 → vp_in (x3 + nI k) L) (H : Heap) (locs : List Loc) (ls : Array Slot) (hl : lv_has ls 4 [(0, .ref b), (1, .ref (G1.2.2.1 0)), (2, .ref (G2.2.2.1 0)), (3, .int x3)]) (hP1 : va_P G1.1 zcl (zw G1 shX 64 MX) H) (hP2 : va_P G2.1 zcl (zw G2 shM 23 MM) H) (hS : va_S (fun q => s.heap.size ≤ q) s.heap H locs) (kk : ∀ (MX MM : zM) (H : Heap) (locs : List Loc), Rel MX MM → va_P G1.1 zcl (zw G1 shX 64 MX) H → va_P G2.1 zcl (zw G2 shM 23 MM) H → va_S (fun q => s.heap.size ≤ q) s.heap H locs → W p l e room_1 s m #[Value.ref b] below meth c H locs 87 79514 Q (F0 m 1052 ls [])) : W p l e room_1 s m #[Value.ref b] below meth c H locs 87 79514 Q (F0 m 552 ls []) := by
  have hx := C1.1
  have hb := C1.2.1
  have hbA : ¬ (fun q : Nat => s.heap.size ≤ q) b := Nat.not_le.mpr hbl
  obtain ⟨r, MX', MM', hc1, hc2, hR'⟩ := hstep MX MM hR (xs (x3 + nI 1).toNatClampNeg) (xs (x3 + nI 2).toNatClampNeg) (xs (x3 + nI 3).toNatClampNeg)
  refine lv_aload_n hx hb dL_law_552 rfl (lv_at hl 1 rfl) ?_
  refine lv_aload_n hx hb dL_law_553 rfl (lv_at hl 0 rfl) ?_
  refine lv_iload_n hx hb dL_law_554 rfl (lv_at hl 3 rfl) ?_
  refine lv_iconst (v := nI 1) hx hb dL_law_555 (by decide) ?_
  refine lv_iadd hx hb dL_law_556 ?_
  refine va_sld hx hb hX hbl hbA hS (hin 1 (by decide)) dL_law_557 ?_
  refine lv_aload_n hx hb dL_law_558 rfl (lv_at hl 0 rfl) ?_
  refine lv_iload_n hx hb dL_law_559 rfl (lv_at hl 3 rfl) ?_
  refine lv_iconst (v := nI 2) hx hb dL_law_560 (by decide) ?_
  refine lv_iadd hx hb dL_law_561 ?_
  refine va_sld hx hb hX hbl hbA hS (hin 2 (by decide)) dL_law_562 ?_
  refine lv_aload_n hx hb dL_law_563 rfl (lv_at hl 0 rfl) ?_
  refine lv_iload_n hx hb dL_law_564 rfl (lv_at hl 3 rfl) ?_
  refine lv_iconst (v := nI 3) hx hb dL_law_565 (by decide) ?_
  refine lv_iadd hx hb dL_law_566 ?_
  refine va_sld hx hb hX hbl hbA hS (hin 3 (by decide)) dL_law_567 ?_
  refine zd_vi (As := [.int (xs (x3 + nI 1).toNatClampNeg), .int (xs (x3 + nI 2).toNatClampNeg), .int (xs (x3 + nI 3).toNatClampNeg)]) (rest := []) C1 he1 hP1 (G' := G2) (sh' := shM) (N' := 23) (M2 := MM) hP2 hdis hS hl.1 0 (mtX5_makes l G1 hJ1 (xs (x3 + nI 1).toNatClampNeg) (xs (x3 + nI 2).toNatClampNeg) (xs (x3 + nI 3).toNatClampNeg) MX _ hc1) lk_L_70 (by decide) shX_0 (T := TX5) (n' := 9) rfl ds_X5_makes ⟨Nat.le_of_ble_eq_true rfl, Nat.le_of_ble_eq_true rfl⟩ rfl rfl (Nat.le_of_ble_eq_true rfl) dL_law_568 ⟨Nat.le_of_ble_eq_true rfl, Nat.le_of_ble_eq_true rfl⟩ (fun H locs hP1 hP2 hS => ?_)
  refine lv_aload_n hx hb dL_law_571 rfl (lv_at hl 2 rfl) ?_
  refine lv_aload_n hx hb dL_law_572 rfl (lv_at hl 0 rfl) ?_
  refine lv_iload_n hx hb dL_law_573 rfl (lv_at hl 3 rfl) ?_
  refine lv_iconst (v := nI 1) hx hb dL_law_574 (by decide) ?_
  refine lv_iadd hx hb dL_law_575 ?_
  refine va_sld hx hb hX hbl hbA hS (hin 1 (by decide)) dL_law_576 ?_
  refine lv_aload_n hx hb dL_law_577 rfl (lv_at hl 0 rfl) ?_
  refine lv_iload_n hx hb dL_law_578 rfl (lv_at hl 3 rfl) ?_
  refine lv_iconst (v := nI 2) hx hb dL_law_579 (by decide) ?_
  refine lv_iadd hx hb dL_law_580 ?_
  refine va_sld hx hb hX hbl hbA hS (hin 2 (by decide)) dL_law_581 ?_
  refine lv_aload_n hx hb dL_law_582 rfl (lv_at hl 0 rfl) ?_
  refine lv_iload_n hx hb dL_law_583 rfl (lv_at hl 3 rfl) ?_
  refine lv_iconst (v := nI 3) hx hb dL_law_584 (by decide) ?_
  refine lv_iadd hx hb dL_law_585 ?_
  refine va_sld hx hb hX hbl hbA hS (hin 3 (by decide)) dL_law_586 ?_
  refine zd_vi (As := [.int (xs (x3 + nI 1).toNatClampNeg), .int (xs (x3 + nI 2).toNatClampNeg), .int (xs (x3 + nI 3).toNatClampNeg)]) (rest := [.int r]) C2 he2 hP2 (G' := G1) (sh' := shX) (N' := 64) (M2 := MX') hP1 (fun i j hi hj => Ne.symm (hdis j i hj hi)) hS hl.1 0 (mtX6_makes l G2 hJ2 (xs (x3 + nI 1).toNatClampNeg) (xs (x3 + nI 2).toNatClampNeg) (xs (x3 + nI 3).toNatClampNeg) MM _ hc2) lk_L_73 (by decide) shM_0 (T := TX6) (n' := 51) rfl ds_X6_makes ⟨Nat.le_of_ble_eq_true rfl, Nat.le_of_ble_eq_true rfl⟩ rfl rfl (Nat.le_of_ble_eq_true rfl) dL_law_587 ⟨Nat.le_of_ble_eq_true rfl, Nat.le_of_ble_eq_true rfl⟩ (fun H locs hP2 hP1 hS => ?_)
  refine lv_icmp_eq (tgt := 1052) hx hb dL_law_590 (by decide) (fun _ => ?_) (fun c1 => absurd rfl c1)
  exact kk MX' MM' H locs hR' hP1 hP2 hS
set_option maxHeartbeats 4000000 in
set_option maxRecDepth 100000 in
theorem lawc_14 (Rel : zM → zM → Prop) {p : Program} {e : Env} {s : State} {m : MethodId} {below : List Frame} {meth : Method} {c : Code} (l : Launch) {b L : Nat} {xs : Nat → Int32} {Q : State → Prop} (G1 G2 : zGr) (hJ1 : zJ G1 64) (hJ2 : zJ G2 23) (he1 : zA G1 64 s.heap.size = fun q => s.heap.size ≤ q) (he2 : zA G2 23 s.heap.size = fun q => s.heap.size ≤ q) (hdis : ∀ i j, i < 64 → j < 23 → G1.2.2.1 i ≠ G2.2.2.1 j) (C1 : zCx p s m #[Value.ref b] meth c code 4 RL ret G1 64) (C2 : zCx p s m #[Value.ref b] meth c code 4 RL ret G2 23) (hX : va_X b L xs s s.heap) (hbl : b < s.heap.size) {MX MM : zM} (hR : Rel MX MM) (hstep : ∀ MX MM, Rel MX MM → ∀ a1 a2 a3 : Int32, ∃ (r : Int32) (MX' MM' : zM), fX5_tells a1 a2 a3 MX = some (r, MX') ∧ fX6_tells a1 a2 a3 MM = some (r, MM') ∧ Rel MX' MM') (x3 : Int32) (hin : ∀ k : Nat, k < 6 → vp_in (x3 + nI k) L) (H : Heap) (locs : List Loc) (ls : Array Slot) (hl : lv_has ls 4 [(0, .ref b), (1, .ref (G1.2.2.1 0)), (2, .ref (G2.2.2.1 0)), (3, .int x3)]) (hP1 : va_P G1.1 zcl (zw G1 shX 64 MX) H) (hP2 : va_P G2.1 zcl (zw G2 shM 23 MM) H) (hS : va_S (fun q => s.heap.size ≤ q) s.heap H locs) (kk : ∀ (MX MM : zM) (H : Heap) (locs : List Loc), Rel MX MM → va_P G1.1 zcl (zw G1 shX 64 MX) H → va_P G2.1 zcl (zw G2 shM 23 MM) H → va_S (fun q => s.heap.size ≤ q) s.heap H locs → W p l e room_1 s m #[Value.ref b] below meth c H locs 87 79514 Q (F0 m 1052 ls [])) : W p l e room_1 s m #[Value.ref b] below meth c H locs 87 79514 Q (F0 m 595 ls []) := by
  have hx := C1.1
  have hb := C1.2.1
  have hbA : ¬ (fun q : Nat => s.heap.size ≤ q) b := Nat.not_le.mpr hbl
  obtain ⟨r, MX', MM', hc1, hc2, hR'⟩ := hstep MX MM hR (xs (x3 + nI 1).toNatClampNeg) (xs (x3 + nI 2).toNatClampNeg) (xs (x3 + nI 3).toNatClampNeg)
  refine lv_aload_n hx hb dL_law_595 rfl (lv_at hl 1 rfl) ?_
  refine lv_aload_n hx hb dL_law_596 rfl (lv_at hl 0 rfl) ?_
  refine lv_iload_n hx hb dL_law_597 rfl (lv_at hl 3 rfl) ?_
  refine lv_iconst (v := nI 1) hx hb dL_law_598 (by decide) ?_
  refine lv_iadd hx hb dL_law_599 ?_
  refine va_sld hx hb hX hbl hbA hS (hin 1 (by decide)) dL_law_600 ?_
  refine lv_aload_n hx hb dL_law_601 rfl (lv_at hl 0 rfl) ?_
  refine lv_iload_n hx hb dL_law_602 rfl (lv_at hl 3 rfl) ?_
  refine lv_iconst (v := nI 2) hx hb dL_law_603 (by decide) ?_
  refine lv_iadd hx hb dL_law_604 ?_
  refine va_sld hx hb hX hbl hbA hS (hin 2 (by decide)) dL_law_605 ?_
  refine lv_aload_n hx hb dL_law_606 rfl (lv_at hl 0 rfl) ?_
  refine lv_iload_n hx hb dL_law_607 rfl (lv_at hl 3 rfl) ?_
  refine lv_iconst (v := nI 3) hx hb dL_law_608 (by decide) ?_
  refine lv_iadd hx hb dL_law_609 ?_
  refine va_sld hx hb hX hbl hbA hS (hin 3 (by decide)) dL_law_610 ?_
  refine zd_vi (As := [.int (xs (x3 + nI 1).toNatClampNeg), .int (xs (x3 + nI 2).toNatClampNeg), .int (xs (x3 + nI 3).toNatClampNeg)]) (rest := []) C1 he1 hP1 (G' := G2) (sh' := shM) (N' := 23) (M2 := MM) hP2 hdis hS hl.1 0 (mtX5_tells l G1 hJ1 (xs (x3 + nI 1).toNatClampNeg) (xs (x3 + nI 2).toNatClampNeg) (xs (x3 + nI 3).toNatClampNeg) MX _ hc1) lk_L_74 (by decide) shX_0 (T := TX5) (n' := 9) rfl ds_X5_tells ⟨Nat.le_of_ble_eq_true rfl, Nat.le_of_ble_eq_true rfl⟩ rfl rfl (Nat.le_of_ble_eq_true rfl) dL_law_611 ⟨Nat.le_of_ble_eq_true rfl, Nat.le_of_ble_eq_true rfl⟩ (fun H locs hP1 hP2 hS => ?_)
  refine lv_aload_n hx hb dL_law_614 rfl (lv_at hl 2 rfl) ?_
  refine lv_aload_n hx hb dL_law_615 rfl (lv_at hl 0 rfl) ?_
  refine lv_iload_n hx hb dL_law_616 rfl (lv_at hl 3 rfl) ?_
  refine lv_iconst (v := nI 1) hx hb dL_law_617 (by decide) ?_
  refine lv_iadd hx hb dL_law_618 ?_
  refine va_sld hx hb hX hbl hbA hS (hin 1 (by decide)) dL_law_619 ?_
  refine lv_aload_n hx hb dL_law_620 rfl (lv_at hl 0 rfl) ?_
  refine lv_iload_n hx hb dL_law_621 rfl (lv_at hl 3 rfl) ?_
  refine lv_iconst (v := nI 2) hx hb dL_law_622 (by decide) ?_
  refine lv_iadd hx hb dL_law_623 ?_
  refine va_sld hx hb hX hbl hbA hS (hin 2 (by decide)) dL_law_624 ?_
  refine lv_aload_n hx hb dL_law_625 rfl (lv_at hl 0 rfl) ?_
  refine lv_iload_n hx hb dL_law_626 rfl (lv_at hl 3 rfl) ?_
  refine lv_iconst (v := nI 3) hx hb dL_law_627 (by decide) ?_
  refine lv_iadd hx hb dL_law_628 ?_
  refine va_sld hx hb hX hbl hbA hS (hin 3 (by decide)) dL_law_629 ?_
  refine zd_vi (As := [.int (xs (x3 + nI 1).toNatClampNeg), .int (xs (x3 + nI 2).toNatClampNeg), .int (xs (x3 + nI 3).toNatClampNeg)]) (rest := [.int r]) C2 he2 hP2 (G' := G1) (sh' := shX) (N' := 64) (M2 := MX') hP1 (fun i j hi hj => Ne.symm (hdis j i hj hi)) hS hl.1 0 (mtX6_tells l G2 hJ2 (xs (x3 + nI 1).toNatClampNeg) (xs (x3 + nI 2).toNatClampNeg) (xs (x3 + nI 3).toNatClampNeg) MM _ hc2) lk_L_77 (by decide) shM_0 (T := TX6) (n' := 51) rfl ds_X6_tells ⟨Nat.le_of_ble_eq_true rfl, Nat.le_of_ble_eq_true rfl⟩ rfl rfl (Nat.le_of_ble_eq_true rfl) dL_law_630 ⟨Nat.le_of_ble_eq_true rfl, Nat.le_of_ble_eq_true rfl⟩ (fun H locs hP2 hP1 hS => ?_)
  refine lv_icmp_eq (tgt := 1052) hx hb dL_law_633 (by decide) (fun _ => ?_) (fun c1 => absurd rfl c1)
  exact kk MX' MM' H locs hR' hP1 hP2 hS
set_option maxHeartbeats 4000000 in
set_option maxRecDepth 100000 in
theorem lawc_15 (Rel : zM → zM → Prop) {p : Program} {e : Env} {s : State} {m : MethodId} {below : List Frame} {meth : Method} {c : Code} (l : Launch) {b L : Nat} {xs : Nat → Int32} {Q : State → Prop} (G1 G2 : zGr) (hJ1 : zJ G1 64) (hJ2 : zJ G2 23) (he1 : zA G1 64 s.heap.size = fun q => s.heap.size ≤ q) (he2 : zA G2 23 s.heap.size = fun q => s.heap.size ≤ q) (hdis : ∀ i j, i < 64 → j < 23 → G1.2.2.1 i ≠ G2.2.2.1 j) (C1 : zCx p s m #[Value.ref b] meth c code 4 RL ret G1 64) (C2 : zCx p s m #[Value.ref b] meth c code 4 RL ret G2 23) (hX : va_X b L xs s s.heap) (hbl : b < s.heap.size) {MX MM : zM} (hR : Rel MX MM) (hstep : ∀ MX MM, Rel MX MM → ∀ a1 a2 a3 : Int32, ∃ (r : Int32) (MX' MM' : zM), fX5_film a1 a2 a3 MX = some (r, MX') ∧ fX6_film a1 a2 a3 MM = some (r, MM') ∧ Rel MX' MM') (x3 : Int32) (hin : ∀ k : Nat, k < 6 → vp_in (x3 + nI k) L) (H : Heap) (locs : List Loc) (ls : Array Slot) (hl : lv_has ls 4 [(0, .ref b), (1, .ref (G1.2.2.1 0)), (2, .ref (G2.2.2.1 0)), (3, .int x3)]) (hP1 : va_P G1.1 zcl (zw G1 shX 64 MX) H) (hP2 : va_P G2.1 zcl (zw G2 shM 23 MM) H) (hS : va_S (fun q => s.heap.size ≤ q) s.heap H locs) (kk : ∀ (MX MM : zM) (H : Heap) (locs : List Loc), Rel MX MM → va_P G1.1 zcl (zw G1 shX 64 MX) H → va_P G2.1 zcl (zw G2 shM 23 MM) H → va_S (fun q => s.heap.size ≤ q) s.heap H locs → W p l e room_1 s m #[Value.ref b] below meth c H locs 87 79514 Q (F0 m 1052 ls [])) : W p l e room_1 s m #[Value.ref b] below meth c H locs 87 79514 Q (F0 m 638 ls []) := by
  have hx := C1.1
  have hb := C1.2.1
  have hbA : ¬ (fun q : Nat => s.heap.size ≤ q) b := Nat.not_le.mpr hbl
  obtain ⟨r, MX', MM', hc1, hc2, hR'⟩ := hstep MX MM hR (xs (x3 + nI 1).toNatClampNeg) (xs (x3 + nI 2).toNatClampNeg) (xs (x3 + nI 3).toNatClampNeg)
  refine lv_aload_n hx hb dL_law_638 rfl (lv_at hl 1 rfl) ?_
  refine lv_aload_n hx hb dL_law_639 rfl (lv_at hl 0 rfl) ?_
  refine lv_iload_n hx hb dL_law_640 rfl (lv_at hl 3 rfl) ?_
  refine lv_iconst (v := nI 1) hx hb dL_law_641 (by decide) ?_
  refine lv_iadd hx hb dL_law_642 ?_
  refine va_sld hx hb hX hbl hbA hS (hin 1 (by decide)) dL_law_643 ?_
  refine lv_aload_n hx hb dL_law_644 rfl (lv_at hl 0 rfl) ?_
  refine lv_iload_n hx hb dL_law_645 rfl (lv_at hl 3 rfl) ?_
  refine lv_iconst (v := nI 2) hx hb dL_law_646 (by decide) ?_
  refine lv_iadd hx hb dL_law_647 ?_
  refine va_sld hx hb hX hbl hbA hS (hin 2 (by decide)) dL_law_648 ?_
  refine lv_aload_n hx hb dL_law_649 rfl (lv_at hl 0 rfl) ?_
  refine lv_iload_n hx hb dL_law_650 rfl (lv_at hl 3 rfl) ?_
  refine lv_iconst (v := nI 3) hx hb dL_law_651 (by decide) ?_
  refine lv_iadd hx hb dL_law_652 ?_
  refine va_sld hx hb hX hbl hbA hS (hin 3 (by decide)) dL_law_653 ?_
  refine zd_vi (As := [.int (xs (x3 + nI 1).toNatClampNeg), .int (xs (x3 + nI 2).toNatClampNeg), .int (xs (x3 + nI 3).toNatClampNeg)]) (rest := []) C1 he1 hP1 (G' := G2) (sh' := shM) (N' := 23) (M2 := MM) hP2 hdis hS hl.1 0 (mtX5_film l G1 hJ1 (xs (x3 + nI 1).toNatClampNeg) (xs (x3 + nI 2).toNatClampNeg) (xs (x3 + nI 3).toNatClampNeg) MX _ hc1) lk_L_78 (by decide) shX_0 (T := TX5) (n' := 9) rfl ds_X5_film ⟨Nat.le_of_ble_eq_true rfl, Nat.le_of_ble_eq_true rfl⟩ rfl rfl (Nat.le_of_ble_eq_true rfl) dL_law_654 ⟨Nat.le_of_ble_eq_true rfl, Nat.le_of_ble_eq_true rfl⟩ (fun H locs hP1 hP2 hS => ?_)
  refine lv_aload_n hx hb dL_law_657 rfl (lv_at hl 2 rfl) ?_
  refine lv_aload_n hx hb dL_law_658 rfl (lv_at hl 0 rfl) ?_
  refine lv_iload_n hx hb dL_law_659 rfl (lv_at hl 3 rfl) ?_
  refine lv_iconst (v := nI 1) hx hb dL_law_660 (by decide) ?_
  refine lv_iadd hx hb dL_law_661 ?_
  refine va_sld hx hb hX hbl hbA hS (hin 1 (by decide)) dL_law_662 ?_
  refine lv_aload_n hx hb dL_law_663 rfl (lv_at hl 0 rfl) ?_
  refine lv_iload_n hx hb dL_law_664 rfl (lv_at hl 3 rfl) ?_
  refine lv_iconst (v := nI 2) hx hb dL_law_665 (by decide) ?_
  refine lv_iadd hx hb dL_law_666 ?_
  refine va_sld hx hb hX hbl hbA hS (hin 2 (by decide)) dL_law_667 ?_
  refine lv_aload_n hx hb dL_law_668 rfl (lv_at hl 0 rfl) ?_
  refine lv_iload_n hx hb dL_law_669 rfl (lv_at hl 3 rfl) ?_
  refine lv_iconst (v := nI 3) hx hb dL_law_670 (by decide) ?_
  refine lv_iadd hx hb dL_law_671 ?_
  refine va_sld hx hb hX hbl hbA hS (hin 3 (by decide)) dL_law_672 ?_
  refine zd_vi (As := [.int (xs (x3 + nI 1).toNatClampNeg), .int (xs (x3 + nI 2).toNatClampNeg), .int (xs (x3 + nI 3).toNatClampNeg)]) (rest := [.int r]) C2 he2 hP2 (G' := G1) (sh' := shX) (N' := 64) (M2 := MX') hP1 (fun i j hi hj => Ne.symm (hdis j i hj hi)) hS hl.1 0 (mtX6_film l G2 hJ2 (xs (x3 + nI 1).toNatClampNeg) (xs (x3 + nI 2).toNatClampNeg) (xs (x3 + nI 3).toNatClampNeg) MM _ hc2) lk_L_81 (by decide) shM_0 (T := TX6) (n' := 51) rfl ds_X6_film ⟨Nat.le_of_ble_eq_true rfl, Nat.le_of_ble_eq_true rfl⟩ rfl rfl (Nat.le_of_ble_eq_true rfl) dL_law_673 ⟨Nat.le_of_ble_eq_true rfl, Nat.le_of_ble_eq_true rfl⟩ (fun H locs hP2 hP1 hS => ?_)
  refine lv_icmp_eq (tgt := 1052) hx hb dL_law_676 (by decide) (fun _ => ?_) (fun c1 => absurd rfl c1)
  exact kk MX' MM' H locs hR' hP1 hP2 hS
set_option maxHeartbeats 4000000 in
set_option maxRecDepth 100000 in
theorem lawc_16 (Rel : zM → zM → Prop) {p : Program} {e : Env} {s : State} {m : MethodId} {below : List Frame} {meth : Method} {c : Code} (l : Launch) {b L : Nat} {xs : Nat → Int32} {Q : State → Prop} (G1 G2 : zGr) (hJ1 : zJ G1 64) (hJ2 : zJ G2 23) (he1 : zA G1 64 s.heap.size = fun q => s.heap.size ≤ q) (he2 : zA G2 23 s.heap.size = fun q => s.heap.size ≤ q) (hdis : ∀ i j, i < 64 → j < 23 → G1.2.2.1 i ≠ G2.2.2.1 j) (C1 : zCx p s m #[Value.ref b] meth c code 4 RL ret G1 64) (C2 : zCx p s m #[Value.ref b] meth c code 4 RL ret G2 23) (hX : va_X b L xs s s.heap) (hbl : b < s.heap.size) {MX MM : zM} (hR : Rel MX MM) (hstep : ∀ MX MM, Rel MX MM → ∀ a1 a2 : Int32, ∃ (r : Int32) (MX' MM' : zM), fX5_drawn a1 a2 MX = some (r, MX') ∧ fX6_drawn a1 a2 MM = some (r, MM') ∧ Rel MX' MM') (x3 : Int32) (hin : ∀ k : Nat, k < 6 → vp_in (x3 + nI k) L) (H : Heap) (locs : List Loc) (ls : Array Slot) (hl : lv_has ls 4 [(0, .ref b), (1, .ref (G1.2.2.1 0)), (2, .ref (G2.2.2.1 0)), (3, .int x3)]) (hP1 : va_P G1.1 zcl (zw G1 shX 64 MX) H) (hP2 : va_P G2.1 zcl (zw G2 shM 23 MM) H) (hS : va_S (fun q => s.heap.size ≤ q) s.heap H locs) (kk : ∀ (MX MM : zM) (H : Heap) (locs : List Loc), Rel MX MM → va_P G1.1 zcl (zw G1 shX 64 MX) H → va_P G2.1 zcl (zw G2 shM 23 MM) H → va_S (fun q => s.heap.size ≤ q) s.heap H locs → W p l e room_1 s m #[Value.ref b] below meth c H locs 87 79514 Q (F0 m 1052 ls [])) : W p l e room_1 s m #[Value.ref b] below meth c H locs 87 79514 Q (F0 m 681 ls []) := by
  have hx := C1.1
  have hb := C1.2.1
  have hbA : ¬ (fun q : Nat => s.heap.size ≤ q) b := Nat.not_le.mpr hbl
  obtain ⟨r, MX', MM', hc1, hc2, hR'⟩ := hstep MX MM hR (xs (x3 + nI 1).toNatClampNeg) (xs (x3 + nI 2).toNatClampNeg)
  refine lv_aload_n hx hb dL_law_681 rfl (lv_at hl 1 rfl) ?_
  refine lv_aload_n hx hb dL_law_682 rfl (lv_at hl 0 rfl) ?_
  refine lv_iload_n hx hb dL_law_683 rfl (lv_at hl 3 rfl) ?_
  refine lv_iconst (v := nI 1) hx hb dL_law_684 (by decide) ?_
  refine lv_iadd hx hb dL_law_685 ?_
  refine va_sld hx hb hX hbl hbA hS (hin 1 (by decide)) dL_law_686 ?_
  refine lv_aload_n hx hb dL_law_687 rfl (lv_at hl 0 rfl) ?_
  refine lv_iload_n hx hb dL_law_688 rfl (lv_at hl 3 rfl) ?_
  refine lv_iconst (v := nI 2) hx hb dL_law_689 (by decide) ?_
  refine lv_iadd hx hb dL_law_690 ?_
  refine va_sld hx hb hX hbl hbA hS (hin 2 (by decide)) dL_law_691 ?_
  refine zd_vi (As := [.int (xs (x3 + nI 1).toNatClampNeg), .int (xs (x3 + nI 2).toNatClampNeg)]) (rest := []) C1 he1 hP1 (G' := G2) (sh' := shM) (N' := 23) (M2 := MM) hP2 hdis hS hl.1 0 (mtX5_drawn l G1 hJ1 (xs (x3 + nI 1).toNatClampNeg) (xs (x3 + nI 2).toNatClampNeg) MX _ hc1) lk_L_82 (by decide) shX_0 (T := TX5) (n' := 9) rfl ds_X5_drawn ⟨Nat.le_of_ble_eq_true rfl, Nat.le_of_ble_eq_true rfl⟩ rfl rfl (Nat.le_of_ble_eq_true rfl) dL_law_692 ⟨Nat.le_of_ble_eq_true rfl, Nat.le_of_ble_eq_true rfl⟩ (fun H locs hP1 hP2 hS => ?_)
  refine lv_aload_n hx hb dL_law_695 rfl (lv_at hl 2 rfl) ?_
  refine lv_aload_n hx hb dL_law_696 rfl (lv_at hl 0 rfl) ?_
  refine lv_iload_n hx hb dL_law_697 rfl (lv_at hl 3 rfl) ?_
  refine lv_iconst (v := nI 1) hx hb dL_law_698 (by decide) ?_
  refine lv_iadd hx hb dL_law_699 ?_
  refine va_sld hx hb hX hbl hbA hS (hin 1 (by decide)) dL_law_700 ?_
  refine lv_aload_n hx hb dL_law_701 rfl (lv_at hl 0 rfl) ?_
  refine lv_iload_n hx hb dL_law_702 rfl (lv_at hl 3 rfl) ?_
  refine lv_iconst (v := nI 2) hx hb dL_law_703 (by decide) ?_
  refine lv_iadd hx hb dL_law_704 ?_
  refine va_sld hx hb hX hbl hbA hS (hin 2 (by decide)) dL_law_705 ?_
  refine zd_vi (As := [.int (xs (x3 + nI 1).toNatClampNeg), .int (xs (x3 + nI 2).toNatClampNeg)]) (rest := [.int r]) C2 he2 hP2 (G' := G1) (sh' := shX) (N' := 64) (M2 := MX') hP1 (fun i j hi hj => Ne.symm (hdis j i hj hi)) hS hl.1 0 (mtX6_drawn l G2 hJ2 (xs (x3 + nI 1).toNatClampNeg) (xs (x3 + nI 2).toNatClampNeg) MM _ hc2) lk_L_85 (by decide) shM_0 (T := TX6) (n' := 51) rfl ds_X6_drawn ⟨Nat.le_of_ble_eq_true rfl, Nat.le_of_ble_eq_true rfl⟩ rfl rfl (Nat.le_of_ble_eq_true rfl) dL_law_706 ⟨Nat.le_of_ble_eq_true rfl, Nat.le_of_ble_eq_true rfl⟩ (fun H locs hP2 hP1 hS => ?_)
  refine lv_icmp_eq (tgt := 1052) hx hb dL_law_709 (by decide) (fun _ => ?_) (fun c1 => absurd rfl c1)
  exact kk MX' MM' H locs hR' hP1 hP2 hS
set_option maxHeartbeats 4000000 in
set_option maxRecDepth 100000 in
theorem lawc_17 (Rel : zM → zM → Prop) {p : Program} {e : Env} {s : State} {m : MethodId} {below : List Frame} {meth : Method} {c : Code} (l : Launch) {b L : Nat} {xs : Nat → Int32} {Q : State → Prop} (G1 G2 : zGr) (hJ1 : zJ G1 64) (hJ2 : zJ G2 23) (he1 : zA G1 64 s.heap.size = fun q => s.heap.size ≤ q) (he2 : zA G2 23 s.heap.size = fun q => s.heap.size ≤ q) (hdis : ∀ i j, i < 64 → j < 23 → G1.2.2.1 i ≠ G2.2.2.1 j) (C1 : zCx p s m #[Value.ref b] meth c code 4 RL ret G1 64) (C2 : zCx p s m #[Value.ref b] meth c code 4 RL ret G2 23) (hX : va_X b L xs s s.heap) (hbl : b < s.heap.size) {MX MM : zM} (hR : Rel MX MM) (hstep : ∀ MX MM, Rel MX MM → ∀ a1 a2 a3 a4 : Int32, ∃ (r : Int64) (MX' MM' : zM), fX5_chance a1 a2 a3 a4 MX = some (r, MX') ∧ fX6_chance a1 a2 a3 a4 MM = some (r, MM') ∧ Rel MX' MM') (x3 : Int32) (hin : ∀ k : Nat, k < 6 → vp_in (x3 + nI k) L) (H : Heap) (locs : List Loc) (ls : Array Slot) (hl : lv_has ls 4 [(0, .ref b), (1, .ref (G1.2.2.1 0)), (2, .ref (G2.2.2.1 0)), (3, .int x3)]) (hP1 : va_P G1.1 zcl (zw G1 shX 64 MX) H) (hP2 : va_P G2.1 zcl (zw G2 shM 23 MM) H) (hS : va_S (fun q => s.heap.size ≤ q) s.heap H locs) (kk : ∀ (MX MM : zM) (H : Heap) (locs : List Loc), Rel MX MM → va_P G1.1 zcl (zw G1 shX 64 MX) H → va_P G2.1 zcl (zw G2 shM 23 MM) H → va_S (fun q => s.heap.size ≤ q) s.heap H locs → W p l e room_1 s m #[Value.ref b] below meth c H locs 87 79514 Q (F0 m 1052 ls [])) : W p l e room_1 s m #[Value.ref b] below meth c H locs 87 79514 Q (F0 m 714 ls []) := by
  have hx := C1.1
  have hb := C1.2.1
  have hbA : ¬ (fun q : Nat => s.heap.size ≤ q) b := Nat.not_le.mpr hbl
  obtain ⟨r, MX', MM', hc1, hc2, hR'⟩ := hstep MX MM hR (xs (x3 + nI 1).toNatClampNeg) (xs (x3 + nI 2).toNatClampNeg) (xs (x3 + nI 3).toNatClampNeg) (xs (x3 + nI 4).toNatClampNeg)
  refine lv_aload_n hx hb dL_law_714 rfl (lv_at hl 1 rfl) ?_
  refine lv_aload_n hx hb dL_law_715 rfl (lv_at hl 0 rfl) ?_
  refine lv_iload_n hx hb dL_law_716 rfl (lv_at hl 3 rfl) ?_
  refine lv_iconst (v := nI 1) hx hb dL_law_717 (by decide) ?_
  refine lv_iadd hx hb dL_law_718 ?_
  refine va_sld hx hb hX hbl hbA hS (hin 1 (by decide)) dL_law_719 ?_
  refine lv_aload_n hx hb dL_law_720 rfl (lv_at hl 0 rfl) ?_
  refine lv_iload_n hx hb dL_law_721 rfl (lv_at hl 3 rfl) ?_
  refine lv_iconst (v := nI 2) hx hb dL_law_722 (by decide) ?_
  refine lv_iadd hx hb dL_law_723 ?_
  refine va_sld hx hb hX hbl hbA hS (hin 2 (by decide)) dL_law_724 ?_
  refine lv_aload_n hx hb dL_law_725 rfl (lv_at hl 0 rfl) ?_
  refine lv_iload_n hx hb dL_law_726 rfl (lv_at hl 3 rfl) ?_
  refine lv_iconst (v := nI 3) hx hb dL_law_727 (by decide) ?_
  refine lv_iadd hx hb dL_law_728 ?_
  refine va_sld hx hb hX hbl hbA hS (hin 3 (by decide)) dL_law_729 ?_
  refine lv_aload_n hx hb dL_law_730 rfl (lv_at hl 0 rfl) ?_
  refine lv_iload_n hx hb dL_law_731 rfl (lv_at hl 3 rfl) ?_
  refine lv_iconst (v := nI 4) hx hb dL_law_732 (by decide) ?_
  refine lv_iadd hx hb dL_law_733 ?_
  refine va_sld hx hb hX hbl hbA hS (hin 4 (by decide)) dL_law_734 ?_
  refine zd_vl (As := [.int (xs (x3 + nI 1).toNatClampNeg), .int (xs (x3 + nI 2).toNatClampNeg), .int (xs (x3 + nI 3).toNatClampNeg), .int (xs (x3 + nI 4).toNatClampNeg)]) (rest := []) C1 he1 hP1 (G' := G2) (sh' := shM) (N' := 23) (M2 := MM) hP2 hdis hS hl.1 0 (mtX5_chance l G1 hJ1 (xs (x3 + nI 1).toNatClampNeg) (xs (x3 + nI 2).toNatClampNeg) (xs (x3 + nI 3).toNatClampNeg) (xs (x3 + nI 4).toNatClampNeg) MX _ hc1) lk_L_86 (by decide) shX_0 (T := TX5) (n' := 9) rfl ds_X5_chance ⟨Nat.le_of_ble_eq_true rfl, Nat.le_of_ble_eq_true rfl⟩ rfl rfl (Nat.le_of_ble_eq_true rfl) dL_law_735 ⟨Nat.le_of_ble_eq_true rfl, Nat.le_of_ble_eq_true rfl⟩ (fun H locs hP1 hP2 hS => ?_)
  refine lv_aload_n hx hb dL_law_738 rfl (lv_at hl 2 rfl) ?_
  refine lv_aload_n hx hb dL_law_739 rfl (lv_at hl 0 rfl) ?_
  refine lv_iload_n hx hb dL_law_740 rfl (lv_at hl 3 rfl) ?_
  refine lv_iconst (v := nI 1) hx hb dL_law_741 (by decide) ?_
  refine lv_iadd hx hb dL_law_742 ?_
  refine va_sld hx hb hX hbl hbA hS (hin 1 (by decide)) dL_law_743 ?_
  refine lv_aload_n hx hb dL_law_744 rfl (lv_at hl 0 rfl) ?_
  refine lv_iload_n hx hb dL_law_745 rfl (lv_at hl 3 rfl) ?_
  refine lv_iconst (v := nI 2) hx hb dL_law_746 (by decide) ?_
  refine lv_iadd hx hb dL_law_747 ?_
  refine va_sld hx hb hX hbl hbA hS (hin 2 (by decide)) dL_law_748 ?_
  refine lv_aload_n hx hb dL_law_749 rfl (lv_at hl 0 rfl) ?_
  refine lv_iload_n hx hb dL_law_750 rfl (lv_at hl 3 rfl) ?_
  refine lv_iconst (v := nI 3) hx hb dL_law_751 (by decide) ?_
  refine lv_iadd hx hb dL_law_752 ?_
  refine va_sld hx hb hX hbl hbA hS (hin 3 (by decide)) dL_law_753 ?_
  refine lv_aload_n hx hb dL_law_754 rfl (lv_at hl 0 rfl) ?_
  refine lv_iload_n hx hb dL_law_755 rfl (lv_at hl 3 rfl) ?_
  refine lv_iconst (v := nI 4) hx hb dL_law_756 (by decide) ?_
  refine lv_iadd hx hb dL_law_757 ?_
  refine va_sld hx hb hX hbl hbA hS (hin 4 (by decide)) dL_law_758 ?_
  refine zd_vl (As := [.int (xs (x3 + nI 1).toNatClampNeg), .int (xs (x3 + nI 2).toNatClampNeg), .int (xs (x3 + nI 3).toNatClampNeg), .int (xs (x3 + nI 4).toNatClampNeg)]) (rest := [.long r]) C2 he2 hP2 (G' := G1) (sh' := shX) (N' := 64) (M2 := MX') hP1 (fun i j hi hj => Ne.symm (hdis j i hj hi)) hS hl.1 0 (mtX6_chance l G2 hJ2 (xs (x3 + nI 1).toNatClampNeg) (xs (x3 + nI 2).toNatClampNeg) (xs (x3 + nI 3).toNatClampNeg) (xs (x3 + nI 4).toNatClampNeg) MM _ hc2) lk_L_90 (by decide) shM_0 (T := TX6) (n' := 51) rfl ds_X6_chance ⟨Nat.le_of_ble_eq_true rfl, Nat.le_of_ble_eq_true rfl⟩ rfl rfl (Nat.le_of_ble_eq_true rfl) dL_law_759 ⟨Nat.le_of_ble_eq_true rfl, Nat.le_of_ble_eq_true rfl⟩ (fun H locs hP2 hP1 hS => ?_)
  refine zo_lcmp hx hb dL_law_762 ?_
  refine lv_if_eq (tgt := 1052) hx hb dL_law_763 (by decide) (fun _ => ?_) (fun c1 => absurd (zcmp_s _) c1)
  exact kk MX' MM' H locs hR' hP1 hP2 hS
set_option maxHeartbeats 4000000 in
set_option maxRecDepth 100000 in
theorem lawc_18 (Rel : zM → zM → Prop) {p : Program} {e : Env} {s : State} {m : MethodId} {below : List Frame} {meth : Method} {c : Code} (l : Launch) {b L : Nat} {xs : Nat → Int32} {Q : State → Prop} (G1 G2 : zGr) (hJ1 : zJ G1 64) (hJ2 : zJ G2 23) (he1 : zA G1 64 s.heap.size = fun q => s.heap.size ≤ q) (he2 : zA G2 23 s.heap.size = fun q => s.heap.size ≤ q) (hdis : ∀ i j, i < 64 → j < 23 → G1.2.2.1 i ≠ G2.2.2.1 j) (C1 : zCx p s m #[Value.ref b] meth c code 4 RL ret G1 64) (C2 : zCx p s m #[Value.ref b] meth c code 4 RL ret G2 23) (hX : va_X b L xs s s.heap) (hbl : b < s.heap.size) {MX MM : zM} (hR : Rel MX MM) (hstep : ∀ MX MM, Rel MX MM → ∃ (r : Int32) (MX' MM' : zM), fX5_image MX = some (r, MX') ∧ fX6_image MM = some (r, MM') ∧ Rel MX' MM') (x3 : Int32) (hin : ∀ k : Nat, k < 6 → vp_in (x3 + nI k) L) (H : Heap) (locs : List Loc) (ls : Array Slot) (hl : lv_has ls 4 [(0, .ref b), (1, .ref (G1.2.2.1 0)), (2, .ref (G2.2.2.1 0)), (3, .int x3)]) (hP1 : va_P G1.1 zcl (zw G1 shX 64 MX) H) (hP2 : va_P G2.1 zcl (zw G2 shM 23 MM) H) (hS : va_S (fun q => s.heap.size ≤ q) s.heap H locs) (kk : ∀ (MX MM : zM) (H : Heap) (locs : List Loc), Rel MX MM → va_P G1.1 zcl (zw G1 shX 64 MX) H → va_P G2.1 zcl (zw G2 shM 23 MM) H → va_S (fun q => s.heap.size ≤ q) s.heap H locs → W p l e room_1 s m #[Value.ref b] below meth c H locs 87 79514 Q (F0 m 1052 ls [])) : W p l e room_1 s m #[Value.ref b] below meth c H locs 87 79514 Q (F0 m 768 ls []) := by
  have hx := C1.1
  have hb := C1.2.1
  have hbA : ¬ (fun q : Nat => s.heap.size ≤ q) b := Nat.not_le.mpr hbl
  obtain ⟨r, MX', MM', hc1, hc2, hR'⟩ := hstep MX MM hR
  refine lv_aload_n hx hb dL_law_768 rfl (lv_at hl 1 rfl) ?_
  refine zd_vi (As := []) (rest := []) C1 he1 hP1 (G' := G2) (sh' := shM) (N' := 23) (M2 := MM) hP2 hdis hS hl.1 0 (mtX5_image l G1 hJ1 MX _ hc1) lk_L_91 (by decide) shX_0 (T := TX5) (n' := 9) rfl ds_X5_image ⟨Nat.le_of_ble_eq_true rfl, Nat.le_of_ble_eq_true rfl⟩ rfl rfl (Nat.le_of_ble_eq_true rfl) dL_law_769 ⟨Nat.le_of_ble_eq_true rfl, Nat.le_of_ble_eq_true rfl⟩ (fun H locs hP1 hP2 hS => ?_)
  refine lv_aload_n hx hb dL_law_772 rfl (lv_at hl 2 rfl) ?_
  refine zd_vi (As := []) (rest := [.int r]) C2 he2 hP2 (G' := G1) (sh' := shX) (N' := 64) (M2 := MX') hP1 (fun i j hi hj => Ne.symm (hdis j i hj hi)) hS hl.1 0 (mtX6_image l G2 hJ2 MM _ hc2) lk_L_94 (by decide) shM_0 (T := TX6) (n' := 51) rfl ds_X6_image ⟨Nat.le_of_ble_eq_true rfl, Nat.le_of_ble_eq_true rfl⟩ rfl rfl (Nat.le_of_ble_eq_true rfl) dL_law_773 ⟨Nat.le_of_ble_eq_true rfl, Nat.le_of_ble_eq_true rfl⟩ (fun H locs hP2 hP1 hS => ?_)
  refine lv_icmp_eq (tgt := 1052) hx hb dL_law_776 (by decide) (fun _ => ?_) (fun c1 => absurd rfl c1)
  exact kk MX' MM' H locs hR' hP1 hP2 hS
set_option maxHeartbeats 4000000 in
set_option maxRecDepth 100000 in
theorem lawc_19 (Rel : zM → zM → Prop) {p : Program} {e : Env} {s : State} {m : MethodId} {below : List Frame} {meth : Method} {c : Code} (l : Launch) {b L : Nat} {xs : Nat → Int32} {Q : State → Prop} (G1 G2 : zGr) (hJ1 : zJ G1 64) (hJ2 : zJ G2 23) (he1 : zA G1 64 s.heap.size = fun q => s.heap.size ≤ q) (he2 : zA G2 23 s.heap.size = fun q => s.heap.size ≤ q) (hdis : ∀ i j, i < 64 → j < 23 → G1.2.2.1 i ≠ G2.2.2.1 j) (C1 : zCx p s m #[Value.ref b] meth c code 4 RL ret G1 64) (C2 : zCx p s m #[Value.ref b] meth c code 4 RL ret G2 23) (hX : va_X b L xs s s.heap) (hbl : b < s.heap.size) {MX MM : zM} (hR : Rel MX MM) (hstep : ∀ MX MM, Rel MX MM → ∃ (r : Int32) (MX' MM' : zM), fX5_back MX = some (r, MX') ∧ fX6_back MM = some (r, MM') ∧ Rel MX' MM') (x3 : Int32) (hin : ∀ k : Nat, k < 6 → vp_in (x3 + nI k) L) (H : Heap) (locs : List Loc) (ls : Array Slot) (hl : lv_has ls 4 [(0, .ref b), (1, .ref (G1.2.2.1 0)), (2, .ref (G2.2.2.1 0)), (3, .int x3)]) (hP1 : va_P G1.1 zcl (zw G1 shX 64 MX) H) (hP2 : va_P G2.1 zcl (zw G2 shM 23 MM) H) (hS : va_S (fun q => s.heap.size ≤ q) s.heap H locs) (kk : ∀ (MX MM : zM) (H : Heap) (locs : List Loc), Rel MX MM → va_P G1.1 zcl (zw G1 shX 64 MX) H → va_P G2.1 zcl (zw G2 shM 23 MM) H → va_S (fun q => s.heap.size ≤ q) s.heap H locs → W p l e room_1 s m #[Value.ref b] below meth c H locs 87 79514 Q (F0 m 1052 ls [])) : W p l e room_1 s m #[Value.ref b] below meth c H locs 87 79514 Q (F0 m 781 ls []) := by
  have hx := C1.1
  have hb := C1.2.1
  have hbA : ¬ (fun q : Nat => s.heap.size ≤ q) b := Nat.not_le.mpr hbl
  obtain ⟨r, MX', MM', hc1, hc2, hR'⟩ := hstep MX MM hR
  refine lv_aload_n hx hb dL_law_781 rfl (lv_at hl 1 rfl) ?_
  refine zd_vi (As := []) (rest := []) C1 he1 hP1 (G' := G2) (sh' := shM) (N' := 23) (M2 := MM) hP2 hdis hS hl.1 0 (mtX5_back l G1 hJ1 MX _ hc1) lk_L_95 (by decide) shX_0 (T := TX5) (n' := 9) rfl ds_X5_back ⟨Nat.le_of_ble_eq_true rfl, Nat.le_of_ble_eq_true rfl⟩ rfl rfl (Nat.le_of_ble_eq_true rfl) dL_law_782 ⟨Nat.le_of_ble_eq_true rfl, Nat.le_of_ble_eq_true rfl⟩ (fun H locs hP1 hP2 hS => ?_)
  refine lv_aload_n hx hb dL_law_785 rfl (lv_at hl 2 rfl) ?_
  refine zd_vi (As := []) (rest := [.int r]) C2 he2 hP2 (G' := G1) (sh' := shX) (N' := 64) (M2 := MX') hP1 (fun i j hi hj => Ne.symm (hdis j i hj hi)) hS hl.1 0 (mtX6_back l G2 hJ2 MM _ hc2) lk_L_98 (by decide) shM_0 (T := TX6) (n' := 51) rfl ds_X6_back ⟨Nat.le_of_ble_eq_true rfl, Nat.le_of_ble_eq_true rfl⟩ rfl rfl (Nat.le_of_ble_eq_true rfl) dL_law_786 ⟨Nat.le_of_ble_eq_true rfl, Nat.le_of_ble_eq_true rfl⟩ (fun H locs hP2 hP1 hS => ?_)
  refine lv_icmp_eq (tgt := 1052) hx hb dL_law_789 (by decide) (fun _ => ?_) (fun c1 => absurd rfl c1)
  exact kk MX' MM' H locs hR' hP1 hP2 hS
set_option maxHeartbeats 4000000 in
set_option maxRecDepth 100000 in
theorem lawc_20 (Rel : zM → zM → Prop) {p : Program} {e : Env} {s : State} {m : MethodId} {below : List Frame} {meth : Method} {c : Code} (l : Launch) {b L : Nat} {xs : Nat → Int32} {Q : State → Prop} (G1 G2 : zGr) (hJ1 : zJ G1 64) (hJ2 : zJ G2 23) (he1 : zA G1 64 s.heap.size = fun q => s.heap.size ≤ q) (he2 : zA G2 23 s.heap.size = fun q => s.heap.size ≤ q) (hdis : ∀ i j, i < 64 → j < 23 → G1.2.2.1 i ≠ G2.2.2.1 j) (C1 : zCx p s m #[Value.ref b] meth c code 4 RL ret G1 64) (C2 : zCx p s m #[Value.ref b] meth c code 4 RL ret G2 23) (hX : va_X b L xs s s.heap) (hbl : b < s.heap.size) {MX MM : zM} (hR : Rel MX MM) (hstep : ∀ MX MM, Rel MX MM → ∀ a1 : Int32, ∃ (r : Int32) (MX' MM' : zM), fX5_count a1 MX = some (r, MX') ∧ fX6_count a1 MM = some (r, MM') ∧ Rel MX' MM') (x3 : Int32) (hin : ∀ k : Nat, k < 6 → vp_in (x3 + nI k) L) (H : Heap) (locs : List Loc) (ls : Array Slot) (hl : lv_has ls 4 [(0, .ref b), (1, .ref (G1.2.2.1 0)), (2, .ref (G2.2.2.1 0)), (3, .int x3)]) (hP1 : va_P G1.1 zcl (zw G1 shX 64 MX) H) (hP2 : va_P G2.1 zcl (zw G2 shM 23 MM) H) (hS : va_S (fun q => s.heap.size ≤ q) s.heap H locs) (kk : ∀ (MX MM : zM) (H : Heap) (locs : List Loc), Rel MX MM → va_P G1.1 zcl (zw G1 shX 64 MX) H → va_P G2.1 zcl (zw G2 shM 23 MM) H → va_S (fun q => s.heap.size ≤ q) s.heap H locs → W p l e room_1 s m #[Value.ref b] below meth c H locs 87 79514 Q (F0 m 1052 ls [])) : W p l e room_1 s m #[Value.ref b] below meth c H locs 87 79514 Q (F0 m 794 ls []) := by
  have hx := C1.1
  have hb := C1.2.1
  have hbA : ¬ (fun q : Nat => s.heap.size ≤ q) b := Nat.not_le.mpr hbl
  obtain ⟨r, MX', MM', hc1, hc2, hR'⟩ := hstep MX MM hR (xs (x3 + nI 1).toNatClampNeg)
  refine lv_aload_n hx hb dL_law_794 rfl (lv_at hl 1 rfl) ?_
  refine lv_aload_n hx hb dL_law_795 rfl (lv_at hl 0 rfl) ?_
  refine lv_iload_n hx hb dL_law_796 rfl (lv_at hl 3 rfl) ?_
  refine lv_iconst (v := nI 1) hx hb dL_law_797 (by decide) ?_
  refine lv_iadd hx hb dL_law_798 ?_
  refine va_sld hx hb hX hbl hbA hS (hin 1 (by decide)) dL_law_799 ?_
  refine zd_vi (As := [.int (xs (x3 + nI 1).toNatClampNeg)]) (rest := []) C1 he1 hP1 (G' := G2) (sh' := shM) (N' := 23) (M2 := MM) hP2 hdis hS hl.1 0 (mtX5_count l G1 hJ1 (xs (x3 + nI 1).toNatClampNeg) MX _ hc1) lk_L_99 (by decide) shX_0 (T := TX5) (n' := 9) rfl ds_X5_count ⟨Nat.le_of_ble_eq_true rfl, Nat.le_of_ble_eq_true rfl⟩ rfl rfl (Nat.le_of_ble_eq_true rfl) dL_law_800 ⟨Nat.le_of_ble_eq_true rfl, Nat.le_of_ble_eq_true rfl⟩ (fun H locs hP1 hP2 hS => ?_)
  refine lv_aload_n hx hb dL_law_803 rfl (lv_at hl 2 rfl) ?_
  refine lv_aload_n hx hb dL_law_804 rfl (lv_at hl 0 rfl) ?_
  refine lv_iload_n hx hb dL_law_805 rfl (lv_at hl 3 rfl) ?_
  refine lv_iconst (v := nI 1) hx hb dL_law_806 (by decide) ?_
  refine lv_iadd hx hb dL_law_807 ?_
  refine va_sld hx hb hX hbl hbA hS (hin 1 (by decide)) dL_law_808 ?_
  refine zd_vi (As := [.int (xs (x3 + nI 1).toNatClampNeg)]) (rest := [.int r]) C2 he2 hP2 (G' := G1) (sh' := shX) (N' := 64) (M2 := MX') hP1 (fun i j hi hj => Ne.symm (hdis j i hj hi)) hS hl.1 0 (mtX6_count l G2 hJ2 (xs (x3 + nI 1).toNatClampNeg) MM _ hc2) lk_L_102 (by decide) shM_0 (T := TX6) (n' := 51) rfl ds_X6_count ⟨Nat.le_of_ble_eq_true rfl, Nat.le_of_ble_eq_true rfl⟩ rfl rfl (Nat.le_of_ble_eq_true rfl) dL_law_809 ⟨Nat.le_of_ble_eq_true rfl, Nat.le_of_ble_eq_true rfl⟩ (fun H locs hP2 hP1 hS => ?_)
  refine lv_icmp_eq (tgt := 1052) hx hb dL_law_812 (by decide) (fun _ => ?_) (fun c1 => absurd rfl c1)
  exact kk MX' MM' H locs hR' hP1 hP2 hS
set_option maxHeartbeats 4000000 in
set_option maxRecDepth 100000 in
theorem lawc_21 (Rel : zM → zM → Prop) {p : Program} {e : Env} {s : State} {m : MethodId} {below : List Frame} {meth : Method} {c : Code} (l : Launch) {b L : Nat} {xs : Nat → Int32} {Q : State → Prop} (G1 G2 : zGr) (hJ1 : zJ G1 64) (hJ2 : zJ G2 23) (he1 : zA G1 64 s.heap.size = fun q => s.heap.size ≤ q) (he2 : zA G2 23 s.heap.size = fun q => s.heap.size ≤ q) (hdis : ∀ i j, i < 64 → j < 23 → G1.2.2.1 i ≠ G2.2.2.1 j) (C1 : zCx p s m #[Value.ref b] meth c code 4 RL ret G1 64) (C2 : zCx p s m #[Value.ref b] meth c code 4 RL ret G2 23) (hX : va_X b L xs s s.heap) (hbl : b < s.heap.size) {MX MM : zM} (hR : Rel MX MM) (hstep : ∀ MX MM, Rel MX MM → ∀ a1 a2 a3 : Int32, ∃ (r : Int32) (MX' MM' : zM), fX5_sheet a1 a2 a3 MX = some (r, MX') ∧ fX6_sheet a1 a2 a3 MM = some (r, MM') ∧ Rel MX' MM') (x3 : Int32) (hin : ∀ k : Nat, k < 6 → vp_in (x3 + nI k) L) (H : Heap) (locs : List Loc) (ls : Array Slot) (hl : lv_has ls 4 [(0, .ref b), (1, .ref (G1.2.2.1 0)), (2, .ref (G2.2.2.1 0)), (3, .int x3)]) (hP1 : va_P G1.1 zcl (zw G1 shX 64 MX) H) (hP2 : va_P G2.1 zcl (zw G2 shM 23 MM) H) (hS : va_S (fun q => s.heap.size ≤ q) s.heap H locs) (kk : ∀ (MX MM : zM) (H : Heap) (locs : List Loc), Rel MX MM → va_P G1.1 zcl (zw G1 shX 64 MX) H → va_P G2.1 zcl (zw G2 shM 23 MM) H → va_S (fun q => s.heap.size ≤ q) s.heap H locs → W p l e room_1 s m #[Value.ref b] below meth c H locs 87 79514 Q (F0 m 1052 ls [])) : W p l e room_1 s m #[Value.ref b] below meth c H locs 87 79514 Q (F0 m 817 ls []) := by
  have hx := C1.1
  have hb := C1.2.1
  have hbA : ¬ (fun q : Nat => s.heap.size ≤ q) b := Nat.not_le.mpr hbl
  obtain ⟨r, MX', MM', hc1, hc2, hR'⟩ := hstep MX MM hR (xs (x3 + nI 1).toNatClampNeg) (xs (x3 + nI 2).toNatClampNeg) (xs (x3 + nI 3).toNatClampNeg)
  refine lv_aload_n hx hb dL_law_817 rfl (lv_at hl 1 rfl) ?_
  refine lv_aload_n hx hb dL_law_818 rfl (lv_at hl 0 rfl) ?_
  refine lv_iload_n hx hb dL_law_819 rfl (lv_at hl 3 rfl) ?_
  refine lv_iconst (v := nI 1) hx hb dL_law_820 (by decide) ?_
  refine lv_iadd hx hb dL_law_821 ?_
  refine va_sld hx hb hX hbl hbA hS (hin 1 (by decide)) dL_law_822 ?_
  refine lv_aload_n hx hb dL_law_823 rfl (lv_at hl 0 rfl) ?_
  refine lv_iload_n hx hb dL_law_824 rfl (lv_at hl 3 rfl) ?_
  refine lv_iconst (v := nI 2) hx hb dL_law_825 (by decide) ?_
  refine lv_iadd hx hb dL_law_826 ?_
  refine va_sld hx hb hX hbl hbA hS (hin 2 (by decide)) dL_law_827 ?_
  refine lv_aload_n hx hb dL_law_828 rfl (lv_at hl 0 rfl) ?_
  refine lv_iload_n hx hb dL_law_829 rfl (lv_at hl 3 rfl) ?_
  refine lv_iconst (v := nI 3) hx hb dL_law_830 (by decide) ?_
  refine lv_iadd hx hb dL_law_831 ?_
  refine va_sld hx hb hX hbl hbA hS (hin 3 (by decide)) dL_law_832 ?_
  refine zd_vi (As := [.int (xs (x3 + nI 1).toNatClampNeg), .int (xs (x3 + nI 2).toNatClampNeg), .int (xs (x3 + nI 3).toNatClampNeg)]) (rest := []) C1 he1 hP1 (G' := G2) (sh' := shM) (N' := 23) (M2 := MM) hP2 hdis hS hl.1 0 (mtX5_sheet l G1 hJ1 (xs (x3 + nI 1).toNatClampNeg) (xs (x3 + nI 2).toNatClampNeg) (xs (x3 + nI 3).toNatClampNeg) MX _ hc1) lk_L_103 (by decide) shX_0 (T := TX5) (n' := 9) rfl ds_X5_sheet ⟨Nat.le_of_ble_eq_true rfl, Nat.le_of_ble_eq_true rfl⟩ rfl rfl (Nat.le_of_ble_eq_true rfl) dL_law_833 ⟨Nat.le_of_ble_eq_true rfl, Nat.le_of_ble_eq_true rfl⟩ (fun H locs hP1 hP2 hS => ?_)
  refine lv_aload_n hx hb dL_law_836 rfl (lv_at hl 2 rfl) ?_
  refine lv_aload_n hx hb dL_law_837 rfl (lv_at hl 0 rfl) ?_
  refine lv_iload_n hx hb dL_law_838 rfl (lv_at hl 3 rfl) ?_
  refine lv_iconst (v := nI 1) hx hb dL_law_839 (by decide) ?_
  refine lv_iadd hx hb dL_law_840 ?_
  refine va_sld hx hb hX hbl hbA hS (hin 1 (by decide)) dL_law_841 ?_
  refine lv_aload_n hx hb dL_law_842 rfl (lv_at hl 0 rfl) ?_
  refine lv_iload_n hx hb dL_law_843 rfl (lv_at hl 3 rfl) ?_
  refine lv_iconst (v := nI 2) hx hb dL_law_844 (by decide) ?_
  refine lv_iadd hx hb dL_law_845 ?_
  refine va_sld hx hb hX hbl hbA hS (hin 2 (by decide)) dL_law_846 ?_
  refine lv_aload_n hx hb dL_law_847 rfl (lv_at hl 0 rfl) ?_
  refine lv_iload_n hx hb dL_law_848 rfl (lv_at hl 3 rfl) ?_
  refine lv_iconst (v := nI 3) hx hb dL_law_849 (by decide) ?_
  refine lv_iadd hx hb dL_law_850 ?_
  refine va_sld hx hb hX hbl hbA hS (hin 3 (by decide)) dL_law_851 ?_
  refine zd_vi (As := [.int (xs (x3 + nI 1).toNatClampNeg), .int (xs (x3 + nI 2).toNatClampNeg), .int (xs (x3 + nI 3).toNatClampNeg)]) (rest := [.int r]) C2 he2 hP2 (G' := G1) (sh' := shX) (N' := 64) (M2 := MX') hP1 (fun i j hi hj => Ne.symm (hdis j i hj hi)) hS hl.1 0 (mtX6_sheet l G2 hJ2 (xs (x3 + nI 1).toNatClampNeg) (xs (x3 + nI 2).toNatClampNeg) (xs (x3 + nI 3).toNatClampNeg) MM _ hc2) lk_L_106 (by decide) shM_0 (T := TX6) (n' := 51) rfl ds_X6_sheet ⟨Nat.le_of_ble_eq_true rfl, Nat.le_of_ble_eq_true rfl⟩ rfl rfl (Nat.le_of_ble_eq_true rfl) dL_law_852 ⟨Nat.le_of_ble_eq_true rfl, Nat.le_of_ble_eq_true rfl⟩ (fun H locs hP2 hP1 hS => ?_)
  refine lv_icmp_eq (tgt := 1052) hx hb dL_law_855 (by decide) (fun _ => ?_) (fun c1 => absurd rfl c1)
  exact kk MX' MM' H locs hR' hP1 hP2 hS
set_option maxHeartbeats 4000000 in
set_option maxRecDepth 100000 in
theorem lawc_22 (Rel : zM → zM → Prop) {p : Program} {e : Env} {s : State} {m : MethodId} {below : List Frame} {meth : Method} {c : Code} (l : Launch) {b L : Nat} {xs : Nat → Int32} {Q : State → Prop} (G1 G2 : zGr) (hJ1 : zJ G1 64) (hJ2 : zJ G2 23) (he1 : zA G1 64 s.heap.size = fun q => s.heap.size ≤ q) (he2 : zA G2 23 s.heap.size = fun q => s.heap.size ≤ q) (hdis : ∀ i j, i < 64 → j < 23 → G1.2.2.1 i ≠ G2.2.2.1 j) (C1 : zCx p s m #[Value.ref b] meth c code 4 RL ret G1 64) (C2 : zCx p s m #[Value.ref b] meth c code 4 RL ret G2 23) (hX : va_X b L xs s s.heap) (hbl : b < s.heap.size) {MX MM : zM} (hR : Rel MX MM) (hstep : ∀ MX MM, Rel MX MM → ∀ a1 a2 a3 : Int32, ∃ (r : Int32) (MX' MM' : zM), fX5_cell a1 a2 a3 MX = some (r, MX') ∧ fX6_cell a1 a2 a3 MM = some (r, MM') ∧ Rel MX' MM') (x3 : Int32) (hin : ∀ k : Nat, k < 6 → vp_in (x3 + nI k) L) (H : Heap) (locs : List Loc) (ls : Array Slot) (hl : lv_has ls 4 [(0, .ref b), (1, .ref (G1.2.2.1 0)), (2, .ref (G2.2.2.1 0)), (3, .int x3)]) (hP1 : va_P G1.1 zcl (zw G1 shX 64 MX) H) (hP2 : va_P G2.1 zcl (zw G2 shM 23 MM) H) (hS : va_S (fun q => s.heap.size ≤ q) s.heap H locs) (kk : ∀ (MX MM : zM) (H : Heap) (locs : List Loc), Rel MX MM → va_P G1.1 zcl (zw G1 shX 64 MX) H → va_P G2.1 zcl (zw G2 shM 23 MM) H → va_S (fun q => s.heap.size ≤ q) s.heap H locs → W p l e room_1 s m #[Value.ref b] below meth c H locs 87 79514 Q (F0 m 1052 ls [])) : W p l e room_1 s m #[Value.ref b] below meth c H locs 87 79514 Q (F0 m 860 ls []) := by
  have hx := C1.1
  have hb := C1.2.1
  have hbA : ¬ (fun q : Nat => s.heap.size ≤ q) b := Nat.not_le.mpr hbl
  obtain ⟨r, MX', MM', hc1, hc2, hR'⟩ := hstep MX MM hR (xs (x3 + nI 1).toNatClampNeg) (xs (x3 + nI 2).toNatClampNeg) (xs (x3 + nI 3).toNatClampNeg)
  refine lv_aload_n hx hb dL_law_860 rfl (lv_at hl 1 rfl) ?_
  refine lv_aload_n hx hb dL_law_861 rfl (lv_at hl 0 rfl) ?_
  refine lv_iload_n hx hb dL_law_862 rfl (lv_at hl 3 rfl) ?_
  refine lv_iconst (v := nI 1) hx hb dL_law_863 (by decide) ?_
  refine lv_iadd hx hb dL_law_864 ?_
  refine va_sld hx hb hX hbl hbA hS (hin 1 (by decide)) dL_law_865 ?_
  refine lv_aload_n hx hb dL_law_866 rfl (lv_at hl 0 rfl) ?_
  refine lv_iload_n hx hb dL_law_867 rfl (lv_at hl 3 rfl) ?_
  refine lv_iconst (v := nI 2) hx hb dL_law_868 (by decide) ?_
  refine lv_iadd hx hb dL_law_869 ?_
  refine va_sld hx hb hX hbl hbA hS (hin 2 (by decide)) dL_law_870 ?_
  refine lv_aload_n hx hb dL_law_871 rfl (lv_at hl 0 rfl) ?_
  refine lv_iload_n hx hb dL_law_872 rfl (lv_at hl 3 rfl) ?_
  refine lv_iconst (v := nI 3) hx hb dL_law_873 (by decide) ?_
  refine lv_iadd hx hb dL_law_874 ?_
  refine va_sld hx hb hX hbl hbA hS (hin 3 (by decide)) dL_law_875 ?_
  refine zd_vi (As := [.int (xs (x3 + nI 1).toNatClampNeg), .int (xs (x3 + nI 2).toNatClampNeg), .int (xs (x3 + nI 3).toNatClampNeg)]) (rest := []) C1 he1 hP1 (G' := G2) (sh' := shM) (N' := 23) (M2 := MM) hP2 hdis hS hl.1 0 (mtX5_cell l G1 hJ1 (xs (x3 + nI 1).toNatClampNeg) (xs (x3 + nI 2).toNatClampNeg) (xs (x3 + nI 3).toNatClampNeg) MX _ hc1) lk_L_107 (by decide) shX_0 (T := TX5) (n' := 9) rfl ds_X5_cell ⟨Nat.le_of_ble_eq_true rfl, Nat.le_of_ble_eq_true rfl⟩ rfl rfl (Nat.le_of_ble_eq_true rfl) dL_law_876 ⟨Nat.le_of_ble_eq_true rfl, Nat.le_of_ble_eq_true rfl⟩ (fun H locs hP1 hP2 hS => ?_)
  refine lv_aload_n hx hb dL_law_879 rfl (lv_at hl 2 rfl) ?_
  refine lv_aload_n hx hb dL_law_880 rfl (lv_at hl 0 rfl) ?_
  refine lv_iload_n hx hb dL_law_881 rfl (lv_at hl 3 rfl) ?_
  refine lv_iconst (v := nI 1) hx hb dL_law_882 (by decide) ?_
  refine lv_iadd hx hb dL_law_883 ?_
  refine va_sld hx hb hX hbl hbA hS (hin 1 (by decide)) dL_law_884 ?_
  refine lv_aload_n hx hb dL_law_885 rfl (lv_at hl 0 rfl) ?_
  refine lv_iload_n hx hb dL_law_886 rfl (lv_at hl 3 rfl) ?_
  refine lv_iconst (v := nI 2) hx hb dL_law_887 (by decide) ?_
  refine lv_iadd hx hb dL_law_888 ?_
  refine va_sld hx hb hX hbl hbA hS (hin 2 (by decide)) dL_law_889 ?_
  refine lv_aload_n hx hb dL_law_890 rfl (lv_at hl 0 rfl) ?_
  refine lv_iload_n hx hb dL_law_891 rfl (lv_at hl 3 rfl) ?_
  refine lv_iconst (v := nI 3) hx hb dL_law_892 (by decide) ?_
  refine lv_iadd hx hb dL_law_893 ?_
  refine va_sld hx hb hX hbl hbA hS (hin 3 (by decide)) dL_law_894 ?_
  refine zd_vi (As := [.int (xs (x3 + nI 1).toNatClampNeg), .int (xs (x3 + nI 2).toNatClampNeg), .int (xs (x3 + nI 3).toNatClampNeg)]) (rest := [.int r]) C2 he2 hP2 (G' := G1) (sh' := shX) (N' := 64) (M2 := MX') hP1 (fun i j hi hj => Ne.symm (hdis j i hj hi)) hS hl.1 0 (mtX6_cell l G2 hJ2 (xs (x3 + nI 1).toNatClampNeg) (xs (x3 + nI 2).toNatClampNeg) (xs (x3 + nI 3).toNatClampNeg) MM _ hc2) lk_L_110 (by decide) shM_0 (T := TX6) (n' := 51) rfl ds_X6_cell ⟨Nat.le_of_ble_eq_true rfl, Nat.le_of_ble_eq_true rfl⟩ rfl rfl (Nat.le_of_ble_eq_true rfl) dL_law_895 ⟨Nat.le_of_ble_eq_true rfl, Nat.le_of_ble_eq_true rfl⟩ (fun H locs hP2 hP1 hS => ?_)
  refine lv_icmp_eq (tgt := 1052) hx hb dL_law_898 (by decide) (fun _ => ?_) (fun c1 => absurd rfl c1)
  exact kk MX' MM' H locs hR' hP1 hP2 hS
set_option maxHeartbeats 4000000 in
set_option maxRecDepth 100000 in
theorem lawc_23 (Rel : zM → zM → Prop) {p : Program} {e : Env} {s : State} {m : MethodId} {below : List Frame} {meth : Method} {c : Code} (l : Launch) {b L : Nat} {xs : Nat → Int32} {Q : State → Prop} (G1 G2 : zGr) (hJ1 : zJ G1 64) (hJ2 : zJ G2 23) (he1 : zA G1 64 s.heap.size = fun q => s.heap.size ≤ q) (he2 : zA G2 23 s.heap.size = fun q => s.heap.size ≤ q) (hdis : ∀ i j, i < 64 → j < 23 → G1.2.2.1 i ≠ G2.2.2.1 j) (C1 : zCx p s m #[Value.ref b] meth c code 4 RL ret G1 64) (C2 : zCx p s m #[Value.ref b] meth c code 4 RL ret G2 23) (hX : va_X b L xs s s.heap) (hbl : b < s.heap.size) {MX MM : zM} (hR : Rel MX MM) (hstep : ∀ MX MM, Rel MX MM → ∀ a1 a2 a3 a4 a5 : Int32, ∃ (r : Int32) (MX' MM' : zM), fX5_copy a1 a2 a3 a4 a5 MX = some (r, MX') ∧ fX6_copy a1 a2 a3 a4 a5 MM = some (r, MM') ∧ Rel MX' MM') (x3 : Int32) (hin : ∀ k : Nat, k < 6 → vp_in (x3 + nI k) L) (H : Heap) (locs : List Loc) (ls : Array Slot) (hl : lv_has ls 4 [(0, .ref b), (1, .ref (G1.2.2.1 0)), (2, .ref (G2.2.2.1 0)), (3, .int x3)]) (hP1 : va_P G1.1 zcl (zw G1 shX 64 MX) H) (hP2 : va_P G2.1 zcl (zw G2 shM 23 MM) H) (hS : va_S (fun q => s.heap.size ≤ q) s.heap H locs) (kk : ∀ (MX MM : zM) (H : Heap) (locs : List Loc), Rel MX MM → va_P G1.1 zcl (zw G1 shX 64 MX) H → va_P G2.1 zcl (zw G2 shM 23 MM) H → va_S (fun q => s.heap.size ≤ q) s.heap H locs → W p l e room_1 s m #[Value.ref b] below meth c H locs 87 79514 Q (F0 m 1052 ls [])) : W p l e room_1 s m #[Value.ref b] below meth c H locs 87 79514 Q (F0 m 903 ls []) := by
  have hx := C1.1
  have hb := C1.2.1
  have hbA : ¬ (fun q : Nat => s.heap.size ≤ q) b := Nat.not_le.mpr hbl
  obtain ⟨r, MX', MM', hc1, hc2, hR'⟩ := hstep MX MM hR (xs (x3 + nI 1).toNatClampNeg) (xs (x3 + nI 2).toNatClampNeg) (xs (x3 + nI 3).toNatClampNeg) (xs (x3 + nI 4).toNatClampNeg) (xs (x3 + nI 5).toNatClampNeg)
  refine lv_aload_n hx hb dL_law_903 rfl (lv_at hl 1 rfl) ?_
  refine lv_aload_n hx hb dL_law_904 rfl (lv_at hl 0 rfl) ?_
  refine lv_iload_n hx hb dL_law_905 rfl (lv_at hl 3 rfl) ?_
  refine lv_iconst (v := nI 1) hx hb dL_law_906 (by decide) ?_
  refine lv_iadd hx hb dL_law_907 ?_
  refine va_sld hx hb hX hbl hbA hS (hin 1 (by decide)) dL_law_908 ?_
  refine lv_aload_n hx hb dL_law_909 rfl (lv_at hl 0 rfl) ?_
  refine lv_iload_n hx hb dL_law_910 rfl (lv_at hl 3 rfl) ?_
  refine lv_iconst (v := nI 2) hx hb dL_law_911 (by decide) ?_
  refine lv_iadd hx hb dL_law_912 ?_
  refine va_sld hx hb hX hbl hbA hS (hin 2 (by decide)) dL_law_913 ?_
  refine lv_aload_n hx hb dL_law_914 rfl (lv_at hl 0 rfl) ?_
  refine lv_iload_n hx hb dL_law_915 rfl (lv_at hl 3 rfl) ?_
  refine lv_iconst (v := nI 3) hx hb dL_law_916 (by decide) ?_
  refine lv_iadd hx hb dL_law_917 ?_
  refine va_sld hx hb hX hbl hbA hS (hin 3 (by decide)) dL_law_918 ?_
  refine lv_aload_n hx hb dL_law_919 rfl (lv_at hl 0 rfl) ?_
  refine lv_iload_n hx hb dL_law_920 rfl (lv_at hl 3 rfl) ?_
  refine lv_iconst (v := nI 4) hx hb dL_law_921 (by decide) ?_
  refine lv_iadd hx hb dL_law_922 ?_
  refine va_sld hx hb hX hbl hbA hS (hin 4 (by decide)) dL_law_923 ?_
  refine lv_aload_n hx hb dL_law_924 rfl (lv_at hl 0 rfl) ?_
  refine lv_iload_n hx hb dL_law_925 rfl (lv_at hl 3 rfl) ?_
  refine lv_iconst (v := nI 5) hx hb dL_law_926 (by decide) ?_
  refine lv_iadd hx hb dL_law_927 ?_
  refine va_sld hx hb hX hbl hbA hS (hin 5 (by decide)) dL_law_928 ?_
  refine zd_vi (As := [.int (xs (x3 + nI 1).toNatClampNeg), .int (xs (x3 + nI 2).toNatClampNeg), .int (xs (x3 + nI 3).toNatClampNeg), .int (xs (x3 + nI 4).toNatClampNeg), .int (xs (x3 + nI 5).toNatClampNeg)]) (rest := []) C1 he1 hP1 (G' := G2) (sh' := shM) (N' := 23) (M2 := MM) hP2 hdis hS hl.1 0 (mtX5_copy l G1 hJ1 (xs (x3 + nI 1).toNatClampNeg) (xs (x3 + nI 2).toNatClampNeg) (xs (x3 + nI 3).toNatClampNeg) (xs (x3 + nI 4).toNatClampNeg) (xs (x3 + nI 5).toNatClampNeg) MX _ hc1) lk_L_111 (by decide) shX_0 (T := TX5) (n' := 9) rfl ds_X5_copy ⟨Nat.le_of_ble_eq_true rfl, Nat.le_of_ble_eq_true rfl⟩ rfl rfl (Nat.le_of_ble_eq_true rfl) dL_law_929 ⟨Nat.le_of_ble_eq_true rfl, Nat.le_of_ble_eq_true rfl⟩ (fun H locs hP1 hP2 hS => ?_)
  refine lv_aload_n hx hb dL_law_932 rfl (lv_at hl 2 rfl) ?_
  refine lv_aload_n hx hb dL_law_933 rfl (lv_at hl 0 rfl) ?_
  refine lv_iload_n hx hb dL_law_934 rfl (lv_at hl 3 rfl) ?_
  refine lv_iconst (v := nI 1) hx hb dL_law_935 (by decide) ?_
  refine lv_iadd hx hb dL_law_936 ?_
  refine va_sld hx hb hX hbl hbA hS (hin 1 (by decide)) dL_law_937 ?_
  refine lv_aload_n hx hb dL_law_938 rfl (lv_at hl 0 rfl) ?_
  refine lv_iload_n hx hb dL_law_939 rfl (lv_at hl 3 rfl) ?_
  refine lv_iconst (v := nI 2) hx hb dL_law_940 (by decide) ?_
  refine lv_iadd hx hb dL_law_941 ?_
  refine va_sld hx hb hX hbl hbA hS (hin 2 (by decide)) dL_law_942 ?_
  refine lv_aload_n hx hb dL_law_943 rfl (lv_at hl 0 rfl) ?_
  refine lv_iload_n hx hb dL_law_944 rfl (lv_at hl 3 rfl) ?_
  refine lv_iconst (v := nI 3) hx hb dL_law_945 (by decide) ?_
  refine lv_iadd hx hb dL_law_946 ?_
  refine va_sld hx hb hX hbl hbA hS (hin 3 (by decide)) dL_law_947 ?_
  refine lv_aload_n hx hb dL_law_948 rfl (lv_at hl 0 rfl) ?_
  refine lv_iload_n hx hb dL_law_949 rfl (lv_at hl 3 rfl) ?_
  refine lv_iconst (v := nI 4) hx hb dL_law_950 (by decide) ?_
  refine lv_iadd hx hb dL_law_951 ?_
  refine va_sld hx hb hX hbl hbA hS (hin 4 (by decide)) dL_law_952 ?_
  refine lv_aload_n hx hb dL_law_953 rfl (lv_at hl 0 rfl) ?_
  refine lv_iload_n hx hb dL_law_954 rfl (lv_at hl 3 rfl) ?_
  refine lv_iconst (v := nI 5) hx hb dL_law_955 (by decide) ?_
  refine lv_iadd hx hb dL_law_956 ?_
  refine va_sld hx hb hX hbl hbA hS (hin 5 (by decide)) dL_law_957 ?_
  refine zd_vi (As := [.int (xs (x3 + nI 1).toNatClampNeg), .int (xs (x3 + nI 2).toNatClampNeg), .int (xs (x3 + nI 3).toNatClampNeg), .int (xs (x3 + nI 4).toNatClampNeg), .int (xs (x3 + nI 5).toNatClampNeg)]) (rest := [.int r]) C2 he2 hP2 (G' := G1) (sh' := shX) (N' := 64) (M2 := MX') hP1 (fun i j hi hj => Ne.symm (hdis j i hj hi)) hS hl.1 0 (mtX6_copy l G2 hJ2 (xs (x3 + nI 1).toNatClampNeg) (xs (x3 + nI 2).toNatClampNeg) (xs (x3 + nI 3).toNatClampNeg) (xs (x3 + nI 4).toNatClampNeg) (xs (x3 + nI 5).toNatClampNeg) MM _ hc2) lk_L_115 (by decide) shM_0 (T := TX6) (n' := 51) rfl ds_X6_copy ⟨Nat.le_of_ble_eq_true rfl, Nat.le_of_ble_eq_true rfl⟩ rfl rfl (Nat.le_of_ble_eq_true rfl) dL_law_958 ⟨Nat.le_of_ble_eq_true rfl, Nat.le_of_ble_eq_true rfl⟩ (fun H locs hP2 hP1 hS => ?_)
  refine lv_icmp_eq (tgt := 1052) hx hb dL_law_961 (by decide) (fun _ => ?_) (fun c1 => absurd rfl c1)
  exact kk MX' MM' H locs hR' hP1 hP2 hS
set_option maxHeartbeats 4000000 in
set_option maxRecDepth 100000 in
theorem lawc_24 (Rel : zM → zM → Prop) {p : Program} {e : Env} {s : State} {m : MethodId} {below : List Frame} {meth : Method} {c : Code} (l : Launch) {b L : Nat} {xs : Nat → Int32} {Q : State → Prop} (G1 G2 : zGr) (hJ1 : zJ G1 64) (hJ2 : zJ G2 23) (he1 : zA G1 64 s.heap.size = fun q => s.heap.size ≤ q) (he2 : zA G2 23 s.heap.size = fun q => s.heap.size ≤ q) (hdis : ∀ i j, i < 64 → j < 23 → G1.2.2.1 i ≠ G2.2.2.1 j) (C1 : zCx p s m #[Value.ref b] meth c code 4 RL ret G1 64) (C2 : zCx p s m #[Value.ref b] meth c code 4 RL ret G2 23) (hX : va_X b L xs s s.heap) (hbl : b < s.heap.size) {MX MM : zM} (hR : Rel MX MM) (hstep : ∀ MX MM, Rel MX MM → ∀ a1 a2 a3 a4 : Int32, ∃ (r : Int32) (MX' MM' : zM), fX5_people a1 a2 a3 a4 MX = some (r, MX') ∧ fX6_people a1 a2 a3 a4 MM = some (r, MM') ∧ Rel MX' MM') (x3 : Int32) (hin : ∀ k : Nat, k < 6 → vp_in (x3 + nI k) L) (H : Heap) (locs : List Loc) (ls : Array Slot) (hl : lv_has ls 4 [(0, .ref b), (1, .ref (G1.2.2.1 0)), (2, .ref (G2.2.2.1 0)), (3, .int x3)]) (hP1 : va_P G1.1 zcl (zw G1 shX 64 MX) H) (hP2 : va_P G2.1 zcl (zw G2 shM 23 MM) H) (hS : va_S (fun q => s.heap.size ≤ q) s.heap H locs) (kk : ∀ (MX MM : zM) (H : Heap) (locs : List Loc), Rel MX MM → va_P G1.1 zcl (zw G1 shX 64 MX) H → va_P G2.1 zcl (zw G2 shM 23 MM) H → va_S (fun q => s.heap.size ≤ q) s.heap H locs → W p l e room_1 s m #[Value.ref b] below meth c H locs 87 79514 Q (F0 m 1052 ls [])) : W p l e room_1 s m #[Value.ref b] below meth c H locs 87 79514 Q (F0 m 966 ls []) := by
  have hx := C1.1
  have hb := C1.2.1
  have hbA : ¬ (fun q : Nat => s.heap.size ≤ q) b := Nat.not_le.mpr hbl
  obtain ⟨r, MX', MM', hc1, hc2, hR'⟩ := hstep MX MM hR (xs (x3 + nI 1).toNatClampNeg) (xs (x3 + nI 2).toNatClampNeg) (xs (x3 + nI 3).toNatClampNeg) (xs (x3 + nI 4).toNatClampNeg)
  refine lv_aload_n hx hb dL_law_966 rfl (lv_at hl 1 rfl) ?_
  refine lv_aload_n hx hb dL_law_967 rfl (lv_at hl 0 rfl) ?_
  refine lv_iload_n hx hb dL_law_968 rfl (lv_at hl 3 rfl) ?_
  refine lv_iconst (v := nI 1) hx hb dL_law_969 (by decide) ?_
  refine lv_iadd hx hb dL_law_970 ?_
  refine va_sld hx hb hX hbl hbA hS (hin 1 (by decide)) dL_law_971 ?_
  refine lv_aload_n hx hb dL_law_972 rfl (lv_at hl 0 rfl) ?_
  refine lv_iload_n hx hb dL_law_973 rfl (lv_at hl 3 rfl) ?_
  refine lv_iconst (v := nI 2) hx hb dL_law_974 (by decide) ?_
  refine lv_iadd hx hb dL_law_975 ?_
  refine va_sld hx hb hX hbl hbA hS (hin 2 (by decide)) dL_law_976 ?_
  refine lv_aload_n hx hb dL_law_977 rfl (lv_at hl 0 rfl) ?_
  refine lv_iload_n hx hb dL_law_978 rfl (lv_at hl 3 rfl) ?_
  refine lv_iconst (v := nI 3) hx hb dL_law_979 (by decide) ?_
  refine lv_iadd hx hb dL_law_980 ?_
  refine va_sld hx hb hX hbl hbA hS (hin 3 (by decide)) dL_law_981 ?_
  refine lv_aload_n hx hb dL_law_982 rfl (lv_at hl 0 rfl) ?_
  refine lv_iload_n hx hb dL_law_983 rfl (lv_at hl 3 rfl) ?_
  refine lv_iconst (v := nI 4) hx hb dL_law_984 (by decide) ?_
  refine lv_iadd hx hb dL_law_985 ?_
  refine va_sld hx hb hX hbl hbA hS (hin 4 (by decide)) dL_law_986 ?_
  refine zd_vi (As := [.int (xs (x3 + nI 1).toNatClampNeg), .int (xs (x3 + nI 2).toNatClampNeg), .int (xs (x3 + nI 3).toNatClampNeg), .int (xs (x3 + nI 4).toNatClampNeg)]) (rest := []) C1 he1 hP1 (G' := G2) (sh' := shM) (N' := 23) (M2 := MM) hP2 hdis hS hl.1 0 (mtX5_people l G1 hJ1 (xs (x3 + nI 1).toNatClampNeg) (xs (x3 + nI 2).toNatClampNeg) (xs (x3 + nI 3).toNatClampNeg) (xs (x3 + nI 4).toNatClampNeg) MX _ hc1) lk_L_116 (by decide) shX_0 (T := TX5) (n' := 9) rfl ds_X5_people ⟨Nat.le_of_ble_eq_true rfl, Nat.le_of_ble_eq_true rfl⟩ rfl rfl (Nat.le_of_ble_eq_true rfl) dL_law_987 ⟨Nat.le_of_ble_eq_true rfl, Nat.le_of_ble_eq_true rfl⟩ (fun H locs hP1 hP2 hS => ?_)
  refine lv_aload_n hx hb dL_law_990 rfl (lv_at hl 2 rfl) ?_
  refine lv_aload_n hx hb dL_law_991 rfl (lv_at hl 0 rfl) ?_
  refine lv_iload_n hx hb dL_law_992 rfl (lv_at hl 3 rfl) ?_
  refine lv_iconst (v := nI 1) hx hb dL_law_993 (by decide) ?_
  refine lv_iadd hx hb dL_law_994 ?_
  refine va_sld hx hb hX hbl hbA hS (hin 1 (by decide)) dL_law_995 ?_
  refine lv_aload_n hx hb dL_law_996 rfl (lv_at hl 0 rfl) ?_
  refine lv_iload_n hx hb dL_law_997 rfl (lv_at hl 3 rfl) ?_
  refine lv_iconst (v := nI 2) hx hb dL_law_998 (by decide) ?_
  refine lv_iadd hx hb dL_law_999 ?_
  refine va_sld hx hb hX hbl hbA hS (hin 2 (by decide)) dL_law_1000 ?_
  refine lv_aload_n hx hb dL_law_1001 rfl (lv_at hl 0 rfl) ?_
  refine lv_iload_n hx hb dL_law_1002 rfl (lv_at hl 3 rfl) ?_
  refine lv_iconst (v := nI 3) hx hb dL_law_1003 (by decide) ?_
  refine lv_iadd hx hb dL_law_1004 ?_
  refine va_sld hx hb hX hbl hbA hS (hin 3 (by decide)) dL_law_1005 ?_
  refine lv_aload_n hx hb dL_law_1006 rfl (lv_at hl 0 rfl) ?_
  refine lv_iload_n hx hb dL_law_1007 rfl (lv_at hl 3 rfl) ?_
  refine lv_iconst (v := nI 4) hx hb dL_law_1008 (by decide) ?_
  refine lv_iadd hx hb dL_law_1009 ?_
  refine va_sld hx hb hX hbl hbA hS (hin 4 (by decide)) dL_law_1010 ?_
  refine zd_vi (As := [.int (xs (x3 + nI 1).toNatClampNeg), .int (xs (x3 + nI 2).toNatClampNeg), .int (xs (x3 + nI 3).toNatClampNeg), .int (xs (x3 + nI 4).toNatClampNeg)]) (rest := [.int r]) C2 he2 hP2 (G' := G1) (sh' := shX) (N' := 64) (M2 := MX') hP1 (fun i j hi hj => Ne.symm (hdis j i hj hi)) hS hl.1 0 (mtX6_people l G2 hJ2 (xs (x3 + nI 1).toNatClampNeg) (xs (x3 + nI 2).toNatClampNeg) (xs (x3 + nI 3).toNatClampNeg) (xs (x3 + nI 4).toNatClampNeg) MM _ hc2) lk_L_120 (by decide) shM_0 (T := TX6) (n' := 51) rfl ds_X6_people ⟨Nat.le_of_ble_eq_true rfl, Nat.le_of_ble_eq_true rfl⟩ rfl rfl (Nat.le_of_ble_eq_true rfl) dL_law_1011 ⟨Nat.le_of_ble_eq_true rfl, Nat.le_of_ble_eq_true rfl⟩ (fun H locs hP2 hP1 hS => ?_)
  refine lv_icmp_eq (tgt := 1052) hx hb dL_law_1014 (by decide) (fun _ => ?_) (fun c1 => absurd rfl c1)
  exact kk MX' MM' H locs hR' hP1 hP2 hS
set_option maxHeartbeats 4000000 in
set_option maxRecDepth 100000 in
theorem lawc_25 (Rel : zM → zM → Prop) {p : Program} {e : Env} {s : State} {m : MethodId} {below : List Frame} {meth : Method} {c : Code} (l : Launch) {b L : Nat} {xs : Nat → Int32} {Q : State → Prop} (G1 G2 : zGr) (hJ1 : zJ G1 64) (hJ2 : zJ G2 23) (he1 : zA G1 64 s.heap.size = fun q => s.heap.size ≤ q) (he2 : zA G2 23 s.heap.size = fun q => s.heap.size ≤ q) (hdis : ∀ i j, i < 64 → j < 23 → G1.2.2.1 i ≠ G2.2.2.1 j) (C1 : zCx p s m #[Value.ref b] meth c code 4 RL ret G1 64) (C2 : zCx p s m #[Value.ref b] meth c code 4 RL ret G2 23) (hX : va_X b L xs s s.heap) (hbl : b < s.heap.size) {MX MM : zM} (hR : Rel MX MM) (hstep : ∀ MX MM, Rel MX MM → ∀ a1 a2 : Int32, ∃ (r : Int32) (MX' MM' : zM), fX5_taken a1 a2 MX = some (r, MX') ∧ fX6_taken a1 a2 MM = some (r, MM') ∧ Rel MX' MM') (x3 : Int32) (hin : ∀ k : Nat, k < 6 → vp_in (x3 + nI k) L) (H : Heap) (locs : List Loc) (ls : Array Slot) (hl : lv_has ls 4 [(0, .ref b), (1, .ref (G1.2.2.1 0)), (2, .ref (G2.2.2.1 0)), (3, .int x3)]) (hP1 : va_P G1.1 zcl (zw G1 shX 64 MX) H) (hP2 : va_P G2.1 zcl (zw G2 shM 23 MM) H) (hS : va_S (fun q => s.heap.size ≤ q) s.heap H locs) (kk : ∀ (MX MM : zM) (H : Heap) (locs : List Loc), Rel MX MM → va_P G1.1 zcl (zw G1 shX 64 MX) H → va_P G2.1 zcl (zw G2 shM 23 MM) H → va_S (fun q => s.heap.size ≤ q) s.heap H locs → W p l e room_1 s m #[Value.ref b] below meth c H locs 87 79514 Q (F0 m 1052 ls [])) : W p l e room_1 s m #[Value.ref b] below meth c H locs 87 79514 Q (F0 m 1019 ls []) := by
  have hx := C1.1
  have hb := C1.2.1
  have hbA : ¬ (fun q : Nat => s.heap.size ≤ q) b := Nat.not_le.mpr hbl
  obtain ⟨r, MX', MM', hc1, hc2, hR'⟩ := hstep MX MM hR (xs (x3 + nI 1).toNatClampNeg) (xs (x3 + nI 2).toNatClampNeg)
  refine lv_aload_n hx hb dL_law_1019 rfl (lv_at hl 1 rfl) ?_
  refine lv_aload_n hx hb dL_law_1020 rfl (lv_at hl 0 rfl) ?_
  refine lv_iload_n hx hb dL_law_1021 rfl (lv_at hl 3 rfl) ?_
  refine lv_iconst (v := nI 1) hx hb dL_law_1022 (by decide) ?_
  refine lv_iadd hx hb dL_law_1023 ?_
  refine va_sld hx hb hX hbl hbA hS (hin 1 (by decide)) dL_law_1024 ?_
  refine lv_aload_n hx hb dL_law_1025 rfl (lv_at hl 0 rfl) ?_
  refine lv_iload_n hx hb dL_law_1026 rfl (lv_at hl 3 rfl) ?_
  refine lv_iconst (v := nI 2) hx hb dL_law_1027 (by decide) ?_
  refine lv_iadd hx hb dL_law_1028 ?_
  refine va_sld hx hb hX hbl hbA hS (hin 2 (by decide)) dL_law_1029 ?_
  refine zd_vi (As := [.int (xs (x3 + nI 1).toNatClampNeg), .int (xs (x3 + nI 2).toNatClampNeg)]) (rest := []) C1 he1 hP1 (G' := G2) (sh' := shM) (N' := 23) (M2 := MM) hP2 hdis hS hl.1 0 (mtX5_taken l G1 hJ1 (xs (x3 + nI 1).toNatClampNeg) (xs (x3 + nI 2).toNatClampNeg) MX _ hc1) lk_L_121 (by decide) shX_0 (T := TX5) (n' := 9) rfl ds_X5_taken ⟨Nat.le_of_ble_eq_true rfl, Nat.le_of_ble_eq_true rfl⟩ rfl rfl (Nat.le_of_ble_eq_true rfl) dL_law_1030 ⟨Nat.le_of_ble_eq_true rfl, Nat.le_of_ble_eq_true rfl⟩ (fun H locs hP1 hP2 hS => ?_)
  refine lv_aload_n hx hb dL_law_1033 rfl (lv_at hl 2 rfl) ?_
  refine lv_aload_n hx hb dL_law_1034 rfl (lv_at hl 0 rfl) ?_
  refine lv_iload_n hx hb dL_law_1035 rfl (lv_at hl 3 rfl) ?_
  refine lv_iconst (v := nI 1) hx hb dL_law_1036 (by decide) ?_
  refine lv_iadd hx hb dL_law_1037 ?_
  refine va_sld hx hb hX hbl hbA hS (hin 1 (by decide)) dL_law_1038 ?_
  refine lv_aload_n hx hb dL_law_1039 rfl (lv_at hl 0 rfl) ?_
  refine lv_iload_n hx hb dL_law_1040 rfl (lv_at hl 3 rfl) ?_
  refine lv_iconst (v := nI 2) hx hb dL_law_1041 (by decide) ?_
  refine lv_iadd hx hb dL_law_1042 ?_
  refine va_sld hx hb hX hbl hbA hS (hin 2 (by decide)) dL_law_1043 ?_
  refine zd_vi (As := [.int (xs (x3 + nI 1).toNatClampNeg), .int (xs (x3 + nI 2).toNatClampNeg)]) (rest := [.int r]) C2 he2 hP2 (G' := G1) (sh' := shX) (N' := 64) (M2 := MX') hP1 (fun i j hi hj => Ne.symm (hdis j i hj hi)) hS hl.1 0 (mtX6_taken l G2 hJ2 (xs (x3 + nI 1).toNatClampNeg) (xs (x3 + nI 2).toNatClampNeg) MM _ hc2) lk_L_124 (by decide) shM_0 (T := TX6) (n' := 51) rfl ds_X6_taken ⟨Nat.le_of_ble_eq_true rfl, Nat.le_of_ble_eq_true rfl⟩ rfl rfl (Nat.le_of_ble_eq_true rfl) dL_law_1044 ⟨Nat.le_of_ble_eq_true rfl, Nat.le_of_ble_eq_true rfl⟩ (fun H locs hP2 hP1 hS => ?_)
  refine lv_icmp_eq (tgt := 1052) hx hb dL_law_1047 (by decide) (fun _ => ?_) (fun c1 => absurd rfl c1)
  exact kk MX' MM' H locs hR' hP1 hP2 hS
/-- what the two sides owe each other: each call, from related numbers, ends on both sides, with the same answer and related numbers -/
def lawSteps (Rel : zM → zM → Prop) : Prop :=
  (∀ MX MM, Rel MX MM → ∀ a1 a2 a3 : Int32, ∃ (r : Int32) (MX' MM' : zM), fX5_set a1 a2 a3 MX = some (r, MX') ∧ fX6_set a1 a2 a3 MM = some (r, MM') ∧ Rel MX' MM') ∧
  (∀ MX MM, Rel MX MM → ∀ a1 a2 a3 : Int32, ∃ (r : Int32) (MX' MM' : zM), fX5_person a1 a2 a3 MX = some (r, MX') ∧ fX6_person a1 a2 a3 MM = some (r, MM') ∧ Rel MX' MM') ∧
  (∀ MX MM, Rel MX MM → ∀ a1 a2 : Int32, ∃ (r : Int32) (MX' MM' : zM), fX5_told a1 a2 MX = some (r, MX') ∧ fX6_told a1 a2 MM = some (r, MM') ∧ Rel MX' MM') ∧
  (∀ MX MM, Rel MX MM → ∀ a1 : Int32, ∃ (r : Int32) (MX' MM' : zM), fX5_feed a1 MX = some (r, MX') ∧ fX6_feed a1 MM = some (r, MM') ∧ Rel MX' MM') ∧
  (∀ MX MM, Rel MX MM → ∃ (r : Int32) (MX' MM' : zM), fX5_text MX = some (r, MX') ∧ fX6_text MM = some (r, MM') ∧ Rel MX' MM') ∧
  (∀ MX MM, Rel MX MM → ∀ a1 : Int32, ∃ (r : Int32) (MX' MM' : zM), fX5_force a1 MX = some (r, MX') ∧ fX6_force a1 MM = some (r, MM') ∧ Rel MX' MM') ∧
  (∀ MX MM, Rel MX MM → ∃ (r : Int32) (MX' MM' : zM), fX5_day MX = some (r, MX') ∧ fX6_day MM = some (r, MM') ∧ Rel MX' MM') ∧
  (∀ MX MM, Rel MX MM → ∀ a1 a2 a3 : Int32, ∃ (r : Int32) (MX' MM' : zM), fX5_draw a1 a2 a3 MX = some (r, MX') ∧ fX6_draw a1 a2 a3 MM = some (r, MM') ∧ Rel MX' MM') ∧
  (∀ MX MM, Rel MX MM → ∀ a1 a2 a3 : Int32, ∃ (r : Int32) (MX' MM' : zM), fX5_run a1 a2 a3 MX = some (r, MX') ∧ fX6_run a1 a2 a3 MM = some (r, MM') ∧ Rel MX' MM') ∧
  (∀ MX MM, Rel MX MM → ∀ a1 : Int32, ∃ (r : Int32) (MX' MM' : zM), fX5_all a1 MX = some (r, MX') ∧ fX6_all a1 MM = some (r, MM') ∧ Rel MX' MM') ∧
  (∀ MX MM, Rel MX MM → ∀ a1 : Int32, ∃ (r : Int64) (MX' MM' : zM), fX5_times a1 MX = some (r, MX') ∧ fX6_times a1 MM = some (r, MM') ∧ Rel MX' MM') ∧
  (∀ MX MM, Rel MX MM → ∀ a1 a2 a3 : Int32, ∃ (r : Int32) (MX' MM' : zM), fX5_fewest a1 a2 a3 MX = some (r, MX') ∧ fX6_fewest a1 a2 a3 MM = some (r, MM') ∧ Rel MX' MM') ∧
  (∀ MX MM, Rel MX MM → ∀ a1 a2 : Int32, ∃ (r : Int32) (MX' MM' : zM), fX5_best a1 a2 MX = some (r, MX') ∧ fX6_best a1 a2 MM = some (r, MM') ∧ Rel MX' MM') ∧
  (∀ MX MM, Rel MX MM → ∀ a1 a2 a3 : Int32, ∃ (r : Int32) (MX' MM' : zM), fX5_makes a1 a2 a3 MX = some (r, MX') ∧ fX6_makes a1 a2 a3 MM = some (r, MM') ∧ Rel MX' MM') ∧
  (∀ MX MM, Rel MX MM → ∀ a1 a2 a3 : Int32, ∃ (r : Int32) (MX' MM' : zM), fX5_tells a1 a2 a3 MX = some (r, MX') ∧ fX6_tells a1 a2 a3 MM = some (r, MM') ∧ Rel MX' MM') ∧
  (∀ MX MM, Rel MX MM → ∀ a1 a2 a3 : Int32, ∃ (r : Int32) (MX' MM' : zM), fX5_film a1 a2 a3 MX = some (r, MX') ∧ fX6_film a1 a2 a3 MM = some (r, MM') ∧ Rel MX' MM') ∧
  (∀ MX MM, Rel MX MM → ∀ a1 a2 : Int32, ∃ (r : Int32) (MX' MM' : zM), fX5_drawn a1 a2 MX = some (r, MX') ∧ fX6_drawn a1 a2 MM = some (r, MM') ∧ Rel MX' MM') ∧
  (∀ MX MM, Rel MX MM → ∀ a1 a2 a3 a4 : Int32, ∃ (r : Int64) (MX' MM' : zM), fX5_chance a1 a2 a3 a4 MX = some (r, MX') ∧ fX6_chance a1 a2 a3 a4 MM = some (r, MM') ∧ Rel MX' MM') ∧
  (∀ MX MM, Rel MX MM → ∃ (r : Int32) (MX' MM' : zM), fX5_image MX = some (r, MX') ∧ fX6_image MM = some (r, MM') ∧ Rel MX' MM') ∧
  (∀ MX MM, Rel MX MM → ∃ (r : Int32) (MX' MM' : zM), fX5_back MX = some (r, MX') ∧ fX6_back MM = some (r, MM') ∧ Rel MX' MM') ∧
  (∀ MX MM, Rel MX MM → ∀ a1 : Int32, ∃ (r : Int32) (MX' MM' : zM), fX5_count a1 MX = some (r, MX') ∧ fX6_count a1 MM = some (r, MM') ∧ Rel MX' MM') ∧
  (∀ MX MM, Rel MX MM → ∀ a1 a2 a3 : Int32, ∃ (r : Int32) (MX' MM' : zM), fX5_sheet a1 a2 a3 MX = some (r, MX') ∧ fX6_sheet a1 a2 a3 MM = some (r, MM') ∧ Rel MX' MM') ∧
  (∀ MX MM, Rel MX MM → ∀ a1 a2 a3 : Int32, ∃ (r : Int32) (MX' MM' : zM), fX5_cell a1 a2 a3 MX = some (r, MX') ∧ fX6_cell a1 a2 a3 MM = some (r, MM') ∧ Rel MX' MM') ∧
  (∀ MX MM, Rel MX MM → ∀ a1 a2 a3 a4 a5 : Int32, ∃ (r : Int32) (MX' MM' : zM), fX5_copy a1 a2 a3 a4 a5 MX = some (r, MX') ∧ fX6_copy a1 a2 a3 a4 a5 MM = some (r, MM') ∧ Rel MX' MM') ∧
  (∀ MX MM, Rel MX MM → ∀ a1 a2 a3 a4 : Int32, ∃ (r : Int32) (MX' MM' : zM), fX5_people a1 a2 a3 a4 MX = some (r, MX') ∧ fX6_people a1 a2 a3 a4 MM = some (r, MM') ∧ Rel MX' MM') ∧
  (∀ MX MM, Rel MX MM → ∀ a1 a2 : Int32, ∃ (r : Int32) (MX' MM' : zM), fX5_taken a1 a2 MX = some (r, MX') ∧ fX6_taken a1 a2 MM = some (r, MM') ∧ Rel MX' MM')
