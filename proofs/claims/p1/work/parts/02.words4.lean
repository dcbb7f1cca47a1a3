theorem k_733 : (Cond.lays rc_O rc_O "single" "I") ∈ wal := wal_in (tin_4 (List.mem_of_getElem? (i := 13) (by decide +kernel))) rfl
theorem k_734 : (Cond.soleField rc_O "single") ∈ wal := wal_in (tin_4 (List.mem_of_getElem? (i := 14) (by decide +kernel))) rfl
theorem k_735 : (Cond.lays rc_O rc_O "many" "I") ∈ wal := wal_in (tin_4 (List.mem_of_getElem? (i := 15) (by decide +kernel))) rfl
theorem k_736 : (Cond.soleField rc_O "many") ∈ wal := wal_in (tin_4 (List.mem_of_getElem? (i := 16) (by decide +kernel))) rfl
theorem k_737 : (Cond.laysFinal rc_O rc_O "covered" "[Z") ∈ wal := wal_in (tin_4 (List.mem_of_getElem? (i := 17) (by decide +kernel))) rfl
theorem k_738 : (Cond.soleField rc_O "covered") ∈ wal := wal_in (tin_4 (List.mem_of_getElem? (i := 18) (by decide +kernel))) rfl
theorem k_739 : (Cond.lays rc_O rc_O "end" "I") ∈ wal := wal_in (tin_4 (List.mem_of_getElem? (i := 19) (by decide +kernel))) rfl
theorem k_740 : (Cond.soleField rc_O "end") ∈ wal := wal_in (tin_4 (List.mem_of_getElem? (i := 20) (by decide +kernel))) rfl
theorem k_741 : (Cond.laysFinal rc_O rc_O "row" "[I") ∈ wal := wal_in (tin_4 (List.mem_of_getElem? (i := 21) (by decide +kernel))) rfl
theorem k_742 : (Cond.soleField rc_O "row") ∈ wal := wal_in (tin_4 (List.mem_of_getElem? (i := 22) (by decide +kernel))) rfl
theorem k_743 : (Cond.lays rc_O rc_O "made" "I") ∈ wal := wal_in (tin_4 (List.mem_of_getElem? (i := 23) (by decide +kernel))) rfl
theorem k_744 : (Cond.soleField rc_O "made") ∈ wal := wal_in (tin_4 (List.mem_of_getElem? (i := 24) (by decide +kernel))) rfl
theorem k_745 : (Cond.laysFinal rc_O rc_O "fresh" "[I") ∈ wal := wal_in (tin_4 (List.mem_of_getElem? (i := 25) (by decide +kernel))) rfl
theorem k_746 : (Cond.soleField rc_O "fresh") ∈ wal := wal_in (tin_4 (List.mem_of_getElem? (i := 26) (by decide +kernel))) rfl
theorem k_747 : (Cond.lays rc_O rc_O "nodes" "I") ∈ wal := wal_in (tin_4 (List.mem_of_getElem? (i := 27) (by decide +kernel))) rfl
theorem k_748 : (Cond.soleField rc_O "nodes") ∈ wal := wal_in (tin_4 (List.mem_of_getElem? (i := 28) (by decide +kernel))) rfl
theorem k_749 : (Cond.lays rc_O rc_O "lists" "I") ∈ wal := wal_in (tin_4 (List.mem_of_getElem? (i := 29) (by decide +kernel))) rfl
theorem k_750 : (Cond.soleField rc_O "lists") ∈ wal := wal_in (tin_4 (List.mem_of_getElem? (i := 30) (by decide +kernel))) rfl
theorem k_751 : (Cond.lays rc_O rc_O "deepest" "I") ∈ wal := wal_in (tin_4 (List.mem_of_getElem? (i := 31) (by decide +kernel))) rfl
theorem k_752 : (Cond.soleField rc_O "deepest") ∈ wal := wal_in (tin_4 (List.mem_of_getElem? (i := 32) (by decide +kernel))) rfl
theorem k_753 : (Cond.lays rc_O rc_O "great" "Z") ∈ wal := wal_in (tin_4 (List.mem_of_getElem? (i := 33) (by decide +kernel))) rfl
theorem k_754 : (Cond.soleField rc_O "great") ∈ wal := wal_in (tin_4 (List.mem_of_getElem? (i := 34) (by decide +kernel))) rfl
theorem k_755 : (Cond.laysFinal rc_O rc_O "where" "[I") ∈ wal := wal_in (tin_4 (List.mem_of_getElem? (i := 35) (by decide +kernel))) rfl
theorem k_756 : (Cond.soleField rc_O "where") ∈ wal := wal_in (tin_4 (List.mem_of_getElem? (i := 36) (by decide +kernel))) rfl
theorem k_757 : (Cond.laysFinal rc_O rc_O "times" "[I") ∈ wal := wal_in (tin_4 (List.mem_of_getElem? (i := 37) (by decide +kernel))) rfl
theorem k_758 : (Cond.soleField rc_O "times") ∈ wal := wal_in (tin_4 (List.mem_of_getElem? (i := 38) (by decide +kernel))) rfl
theorem k_759 : (Cond.laysFinal rc_O rc_O "places" "[I") ∈ wal := wal_in (tin_4 (List.mem_of_getElem? (i := 39) (by decide +kernel))) rfl
theorem k_760 : (Cond.soleField rc_O "places") ∈ wal := wal_in (tin_4 (List.mem_of_getElem? (i := 40) (by decide +kernel))) rfl
theorem k_761 : (Cond.lays rc_O rc_O "open" "I") ∈ wal := wal_in (tin_4 (List.mem_of_getElem? (i := 41) (by decide +kernel))) rfl
theorem k_762 : (Cond.soleField rc_O "open") ∈ wal := wal_in (tin_4 (List.mem_of_getElem? (i := 42) (by decide +kernel))) rfl
theorem k_763 : (Cond.laysFinal rc_O rc_O "binds" "[Z") ∈ wal := wal_in (tin_4 (List.mem_of_getElem? (i := 43) (by decide +kernel))) rfl
theorem k_764 : (Cond.soleField rc_O "binds") ∈ wal := wal_in (tin_4 (List.mem_of_getElem? (i := 44) (by decide +kernel))) rfl
theorem k_765 : (Cond.lays rc_O rc_O "bound" "I") ∈ wal := wal_in (tin_4 (List.mem_of_getElem? (i := 45) (by decide +kernel))) rfl
theorem k_766 : (Cond.soleField rc_O "bound") ∈ wal := wal_in (tin_4 (List.mem_of_getElem? (i := 46) (by decide +kernel))) rfl
theorem k_767 : (Cond.laysFinal rc_O rc_O "names" "[I") ∈ wal := wal_in (tin_4 (List.mem_of_getElem? (i := 47) (by decide +kernel))) rfl
theorem k_768 : (Cond.soleField rc_O "names") ∈ wal := wal_in (tin_4 (List.mem_of_getElem? (i := 48) (by decide +kernel))) rfl
theorem k_769 : (Cond.lays rc_O rc_O "pos" "I") ∈ wal := wal_in (tin_4 (List.mem_of_getElem? (i := 49) (by decide +kernel))) rfl
theorem k_770 : (Cond.soleField rc_O "pos") ∈ wal := wal_in (tin_4 (List.mem_of_getElem? (i := 50) (by decide +kernel))) rfl
theorem k_771 : (Cond.lays rc_O rc_O "replaced" "I") ∈ wal := wal_in (tin_4 (List.mem_of_getElem? (i := 51) (by decide +kernel))) rfl
theorem k_772 : (Cond.soleField rc_O "replaced") ∈ wal := wal_in (tin_4 (List.mem_of_getElem? (i := 52) (by decide +kernel))) rfl
theorem k_773 : (Cond.lays rc_O rc_O "marks" "I") ∈ wal := wal_in (tin_4 (List.mem_of_getElem? (i := 53) (by decide +kernel))) rfl
theorem k_774 : (Cond.soleField rc_O "marks") ∈ wal := wal_in (tin_4 (List.mem_of_getElem? (i := 54) (by decide +kernel))) rfl
theorem k_775 : (Cond.laysFinal rc_O rc_O "mark" "[I") ∈ wal := wal_in (tin_4 (List.mem_of_getElem? (i := 55) (by decide +kernel))) rfl
theorem k_776 : (Cond.soleField rc_O "mark") ∈ wal := wal_in (tin_4 (List.mem_of_getElem? (i := 56) (by decide +kernel))) rfl
theorem k_777 : (Cond.lays rc_O rc_O "fault" "I") ∈ wal := wal_in (tin_4 (List.mem_of_getElem? (i := 57) (by decide +kernel))) rfl
theorem k_778 : (Cond.soleField rc_O "fault") ∈ wal := wal_in (tin_4 (List.mem_of_getElem? (i := 58) (by decide +kernel))) rfl
theorem k_779 : (Cond.lays rc_O rc_O "reached" "I") ∈ wal := wal_in (tin_4 (List.mem_of_getElem? (i := 59) (by decide +kernel))) rfl
theorem k_780 : (Cond.soleField rc_O "reached") ∈ wal := wal_in (tin_4 (List.mem_of_getElem? (i := 60) (by decide +kernel))) rfl
theorem k_781 : (Cond.superclass rc_O "java/lang/Object") ∈ wal := wal_in (tin_4 (List.mem_of_getElem? (i := 61) (by decide +kernel))) rfl
theorem k_782 : (Cond.methodLink rc_L 38 y_O_thrown) ∈ wal := wal_in (tin_4 (List.mem_of_getElem? (i := 62) (by decide +kernel))) rfl
theorem k_783 : (Cond.instanceMethod y_O_thrown) ∈ wal := wal_in (tin_4 (List.mem_of_getElem? (i := 63) (by decide +kernel))) rfl
theorem k_784 : (Cond.selects rc_O y_O_thrown y_O_thrown) ∈ wal := wal_in (tin_4 (List.mem_of_getElem? (i := 64) (by decide +kernel))) rfl
theorem k_785 : (Cond.code y_O_thrown prog_10_method_2_code 1 (some FieldType.int)) ∈ wal := wal_in (tin_4 (List.mem_of_getElem? (i := 65) rfl)) rfl
theorem k_786 : (Cond.methodLink rc_L 31 y_O_type) ∈ wal := wal_in (tin_4 (List.mem_of_getElem? (i := 66) (by decide +kernel))) rfl
theorem k_787 : (Cond.instanceMethod y_O_type) ∈ wal := wal_in (tin_4 (List.mem_of_getElem? (i := 67) (by decide +kernel))) rfl
theorem k_788 : (Cond.selects rc_O y_O_type y_O_type) ∈ wal := wal_in (tin_4 (List.mem_of_getElem? (i := 68) (by decide +kernel))) rfl
theorem k_789 : (Cond.code y_O_type prog_10_method_4_code 2 (some FieldType.boolean)) ∈ wal := wal_in (tin_4 (List.mem_of_getElem? (i := 69) rfl)) rfl
theorem k_790 : (Cond.methodLink rc_L 37 y_O_rule) ∈ wal := wal_in (tin_4 (List.mem_of_getElem? (i := 70) (by decide +kernel))) rfl
theorem k_791 : (Cond.instanceMethod y_O_rule) ∈ wal := wal_in (tin_4 (List.mem_of_getElem? (i := 71) (by decide +kernel))) rfl
theorem k_792 : (Cond.selects rc_O y_O_rule y_O_rule) ∈ wal := wal_in (tin_4 (List.mem_of_getElem? (i := 72) (by decide +kernel))) rfl
theorem k_793 : (Cond.code y_O_rule prog_10_method_25_code 4 (some FieldType.int)) ∈ wal := wal_in (tin_4 (List.mem_of_getElem? (i := 73) rfl)) rfl
theorem k_794 : (Cond.methodLink rc_O 153 y_O_takeDraft) ∈ wal := wal_in (tin_4 (List.mem_of_getElem? (i := 74) (by decide +kernel))) rfl
theorem k_795 : (Cond.privateMethod y_O_takeDraft) ∈ lw_tbl := tin_4 (List.mem_of_getElem? (i := 75) (by decide +kernel))
theorem k_796 : (Cond.instanceMethod y_O_takeDraft) ∈ wal := wal_in (tin_4 (List.mem_of_getElem? (i := 76) (by decide +kernel))) rfl
theorem k_797 : (Cond.code y_O_takeDraft prog_10_method_10_code 4 (some FieldType.boolean)) ∈ wal := wal_in (tin_4 (List.mem_of_getElem? (i := 77) rfl)) rfl
theorem k_798 : (Cond.methodLink rc_O 82 y_O_tokenOf) ∈ wal := wal_in (tin_4 (List.mem_of_getElem? (i := 78) (by decide +kernel))) rfl
theorem k_799 : (Cond.static y_O_tokenOf) ∈ wal := wal_in (tin_4 (List.mem_of_getElem? (i := 79) (by decide +kernel))) rfl
theorem k_800 : (Cond.code y_O_tokenOf prog_10_method_5_code 1 (some FieldType.int)) ∈ wal := wal_in (tin_4 (List.mem_of_getElem? (i := 80) rfl)) rfl
theorem k_801 : (Cond.methodLink rc_O 156 y_O_patternEnd) ∈ wal := wal_in (tin_4 (List.mem_of_getElem? (i := 81) (by decide +kernel))) rfl
theorem k_802 : (Cond.privateMethod y_O_patternEnd) ∈ lw_tbl := tin_4 (List.mem_of_getElem? (i := 82) (by decide +kernel))
theorem k_803 : (Cond.instanceMethod y_O_patternEnd) ∈ wal := wal_in (tin_4 (List.mem_of_getElem? (i := 83) (by decide +kernel))) rfl
theorem k_804 : (Cond.code y_O_patternEnd prog_10_method_20_code 2 (some FieldType.int)) ∈ wal := wal_in (tin_4 (List.mem_of_getElem? (i := 84) rfl)) rfl
theorem k_805 : (Cond.methodLink rc_O 137 y_O_beginLists) ∈ wal := wal_in (tin_4 (List.mem_of_getElem? (i := 85) (by decide +kernel))) rfl
theorem k_806 : (Cond.privateMethod y_O_beginLists) ∈ lw_tbl := tin_4 (List.mem_of_getElem? (i := 86) (by decide +kernel))
theorem k_807 : (Cond.instanceMethod y_O_beginLists) ∈ wal := wal_in (tin_4 (List.mem_of_getElem? (i := 87) (by decide +kernel))) rfl
theorem k_808 : (Cond.code y_O_beginLists prog_10_method_12_code 1 none) ∈ wal := wal_in (tin_4 (List.mem_of_getElem? (i := 88) rfl)) rfl
theorem k_809 : (Cond.methodLink rc_O 86 y_O_isName) ∈ wal := wal_in (tin_4 (List.mem_of_getElem? (i := 89) (by decide +kernel))) rfl
theorem k_810 : (Cond.static y_O_isName) ∈ wal := wal_in (tin_4 (List.mem_of_getElem? (i := 90) (by decide +kernel))) rfl
theorem k_811 : (Cond.code y_O_isName prog_10_method_6_code 1 (some FieldType.boolean)) ∈ wal := wal_in (tin_4 (List.mem_of_getElem? (i := 91) rfl)) rfl
theorem k_812 : (Cond.methodLink rc_O 120 y_O_openList) ∈ wal := wal_in (tin_4 (List.mem_of_getElem? (i := 92) (by decide +kernel))) rfl
theorem k_813 : (Cond.privateMethod y_O_openList) ∈ lw_tbl := tin_4 (List.mem_of_getElem? (i := 93) (by decide +kernel))
theorem k_814 : (Cond.instanceMethod y_O_openList) ∈ wal := wal_in (tin_4 (List.mem_of_getElem? (i := 94) (by decide +kernel))) rfl
theorem k_815 : (Cond.code y_O_openList prog_10_method_13_code 2 (some FieldType.boolean)) ∈ wal := wal_in (tin_4 (List.mem_of_getElem? (i := 95) rfl)) rfl
theorem k_816 : (Cond.methodLink rc_O 140 y_O_patternToken) ∈ wal := wal_in (tin_4 (List.mem_of_getElem? (i := 96) (by decide +kernel))) rfl
theorem k_817 : (Cond.privateMethod y_O_patternToken) ∈ lw_tbl := tin_4 (List.mem_of_getElem? (i := 97) (by decide +kernel))
theorem k_818 : (Cond.instanceMethod y_O_patternToken) ∈ wal := wal_in (tin_4 (List.mem_of_getElem? (i := 98) (by decide +kernel))) rfl
theorem k_819 : (Cond.code y_O_patternToken prog_10_method_19_code 3 (some FieldType.boolean)) ∈ wal := wal_in (tin_4 (List.mem_of_getElem? (i := 99) rfl)) rfl
theorem k_820 : (Cond.methodLink rc_O 123 y_O_closeList) ∈ wal := wal_in (tin_4 (List.mem_of_getElem? (i := 100) (by decide +kernel))) rfl
theorem k_821 : (Cond.privateMethod y_O_closeList) ∈ lw_tbl := tin_4 (List.mem_of_getElem? (i := 101) (by decide +kernel))
theorem k_822 : (Cond.instanceMethod y_O_closeList) ∈ wal := wal_in (tin_4 (List.mem_of_getElem? (i := 102) (by decide +kernel))) rfl
theorem k_823 : (Cond.code y_O_closeList prog_10_method_14_code 1 none) ∈ wal := wal_in (tin_4 (List.mem_of_getElem? (i := 103) rfl)) rfl
theorem k_824 : (Cond.methodLink rc_O 126 y_O_addVariable) ∈ wal := wal_in (tin_4 (List.mem_of_getElem? (i := 104) (by decide +kernel))) rfl
theorem k_825 : (Cond.privateMethod y_O_addVariable) ∈ lw_tbl := tin_4 (List.mem_of_getElem? (i := 105) (by decide +kernel))
theorem k_826 : (Cond.instanceMethod y_O_addVariable) ∈ wal := wal_in (tin_4 (List.mem_of_getElem? (i := 106) (by decide +kernel))) rfl
theorem k_827 : (Cond.code y_O_addVariable prog_10_method_17_code 3 (some FieldType.boolean)) ∈ wal := wal_in (tin_4 (List.mem_of_getElem? (i := 107) rfl)) rfl
theorem k_828 : (Cond.methodLink rc_O 106 y_O_letterOf) ∈ wal := wal_in (tin_4 (List.mem_of_getElem? (i := 108) (by decide +kernel))) rfl
theorem k_829 : (Cond.static y_O_letterOf) ∈ wal := wal_in (tin_4 (List.mem_of_getElem? (i := 109) (by decide +kernel))) rfl
theorem k_830 : (Cond.code y_O_letterOf prog_10_method_7_code 1 (some FieldType.int)) ∈ wal := wal_in (tin_4 (List.mem_of_getElem? (i := 110) rfl)) rfl
theorem k_831 : (Cond.methodLink rc_O 113 y_O_setItem) ∈ wal := wal_in (tin_4 (List.mem_of_getElem? (i := 111) (by decide +kernel))) rfl
theorem k_832 : (Cond.privateMethod y_O_setItem) ∈ lw_tbl := tin_4 (List.mem_of_getElem? (i := 112) (by decide +kernel))
theorem k_833 : (Cond.instanceMethod y_O_setItem) ∈ wal := wal_in (tin_4 (List.mem_of_getElem? (i := 113) (by decide +kernel))) rfl
theorem k_834 : (Cond.code y_O_setItem prog_10_method_15_code 2 none) ∈ wal := wal_in (tin_4 (List.mem_of_getElem? (i := 114) rfl)) rfl
theorem k_835 : (Cond.methodLink rc_O 129 y_O_tilde) ∈ wal := wal_in (tin_4 (List.mem_of_getElem? (i := 115) (by decide +kernel))) rfl
theorem k_836 : (Cond.privateMethod y_O_tilde) ∈ lw_tbl := tin_4 (List.mem_of_getElem? (i := 116) (by decide +kernel))
theorem k_837 : (Cond.instanceMethod y_O_tilde) ∈ wal := wal_in (tin_4 (List.mem_of_getElem? (i := 117) (by decide +kernel))) rfl
theorem k_838 : (Cond.code y_O_tilde prog_10_method_16_code 1 (some FieldType.boolean)) ∈ wal := wal_in (tin_4 (List.mem_of_getElem? (i := 118) rfl)) rfl
theorem k_839 : (Cond.methodLink rc_O 133 y_O_makeMany) ∈ wal := wal_in (tin_4 (List.mem_of_getElem? (i := 119) (by decide +kernel))) rfl
theorem k_840 : (Cond.privateMethod y_O_makeMany) ∈ lw_tbl := tin_4 (List.mem_of_getElem? (i := 120) (by decide +kernel))
theorem k_841 : (Cond.instanceMethod y_O_makeMany) ∈ wal := wal_in (tin_4 (List.mem_of_getElem? (i := 121) (by decide +kernel))) rfl
theorem k_842 : (Cond.code y_O_makeMany prog_10_method_18_code 4 none) ∈ wal := wal_in (tin_4 (List.mem_of_getElem? (i := 122) rfl)) rfl
theorem k_843 : (Cond.methodLink rc_O 93 y_O_isNumeral) ∈ wal := wal_in (tin_4 (List.mem_of_getElem? (i := 123) (by decide +kernel))) rfl
theorem k_844 : (Cond.static y_O_isNumeral) ∈ wal := wal_in (tin_4 (List.mem_of_getElem? (i := 124) (by decide +kernel))) rfl
theorem k_845 : (Cond.code y_O_isNumeral prog_10_method_9_code 1 (some FieldType.boolean)) ∈ wal := wal_in (tin_4 (List.mem_of_getElem? (i := 125) rfl)) rfl
theorem k_846 : (Cond.methodLink rc_O 90 y_O_isKeyword) ∈ wal := wal_in (tin_4 (List.mem_of_getElem? (i := 126) (by decide +kernel))) rfl
theorem k_847 : (Cond.static y_O_isKeyword) ∈ wal := wal_in (tin_4 (List.mem_of_getElem? (i := 127) (by decide +kernel))) rfl
theorem k_848 : (Cond.code y_O_isKeyword prog_10_method_8_code 1 (some FieldType.boolean)) ∈ wal := wal_in (tin_4 (List.mem_of_getElem? (i := 128) rfl)) rfl
theorem k_849 : (Cond.methodLink rc_O 160 y_O_fail) ∈ wal := wal_in (tin_4 (List.mem_of_getElem? (i := 129) (by decide +kernel))) rfl
theorem k_850 : (Cond.privateMethod y_O_fail) ∈ lw_tbl := tin_4 (List.mem_of_getElem? (i := 130) (by decide +kernel))
theorem k_851 : (Cond.instanceMethod y_O_fail) ∈ wal := wal_in (tin_4 (List.mem_of_getElem? (i := 131) (by decide +kernel))) rfl
theorem k_852 : (Cond.code y_O_fail prog_10_method_3_code 2 (some FieldType.int)) ∈ wal := wal_in (tin_4 (List.mem_of_getElem? (i := 132) rfl)) rfl
theorem k_853 : (Cond.methodLink rc_O 163 y_O_isTemplate) ∈ wal := wal_in (tin_4 (List.mem_of_getElem? (i := 133) (by decide +kernel))) rfl
theorem k_854 : (Cond.privateMethod y_O_isTemplate) ∈ lw_tbl := tin_4 (List.mem_of_getElem? (i := 134) (by decide +kernel))
theorem k_855 : (Cond.instanceMethod y_O_isTemplate) ∈ wal := wal_in (tin_4 (List.mem_of_getElem? (i := 135) (by decide +kernel))) rfl
theorem k_856 : (Cond.code y_O_isTemplate prog_10_method_23_code 6 (some FieldType.boolean)) ∈ wal := wal_in (tin_4 (List.mem_of_getElem? (i := 136) rfl)) rfl
theorem k_857 : (Cond.methodLink rc_O 147 y_O_templateToken) ∈ wal := wal_in (tin_4 (List.mem_of_getElem? (i := 137) (by decide +kernel))) rfl
theorem k_858 : (Cond.privateMethod y_O_templateToken) ∈ lw_tbl := tin_4 (List.mem_of_getElem? (i := 138) (by decide +kernel))
theorem k_859 : (Cond.instanceMethod y_O_templateToken) ∈ wal := wal_in (tin_4 (List.mem_of_getElem? (i := 139) (by decide +kernel))) rfl
theorem k_860 : (Cond.code y_O_templateToken prog_10_method_22_code 4 (some FieldType.boolean)) ∈ wal := wal_in (tin_4 (List.mem_of_getElem? (i := 140) rfl)) rfl
theorem k_861 : (Cond.methodLink rc_O 143 y_O_hasMany) ∈ wal := wal_in (tin_4 (List.mem_of_getElem? (i := 141) (by decide +kernel))) rfl
theorem k_862 : (Cond.privateMethod y_O_hasMany) ∈ lw_tbl := tin_4 (List.mem_of_getElem? (i := 142) (by decide +kernel))
theorem k_863 : (Cond.instanceMethod y_O_hasMany) ∈ wal := wal_in (tin_4 (List.mem_of_getElem? (i := 143) (by decide +kernel))) rfl
theorem k_864 : (Cond.code y_O_hasMany prog_10_method_21_code 5 (some FieldType.boolean)) ∈ wal := wal_in (tin_4 (List.mem_of_getElem? (i := 144) rfl)) rfl
theorem k_865 : (Cond.methodLink rc_O 166 y_O_countOf) ∈ wal := wal_in (tin_4 (List.mem_of_getElem? (i := 145) (by decide +kernel))) rfl
theorem k_866 : (Cond.privateMethod y_O_countOf) ∈ lw_tbl := tin_4 (List.mem_of_getElem? (i := 146) (by decide +kernel))
theorem k_867 : (Cond.instanceMethod y_O_countOf) ∈ wal := wal_in (tin_4 (List.mem_of_getElem? (i := 147) (by decide +kernel))) rfl
theorem k_868 : (Cond.code y_O_countOf prog_10_method_24_code 4 (some FieldType.int)) ∈ wal := wal_in (tin_4 (List.mem_of_getElem? (i := 148) rfl)) rfl
theorem k_869 : (Cond.methodLink rc_L 45 y_O_forget) ∈ wal := wal_in (tin_4 (List.mem_of_getElem? (i := 149) (by decide +kernel))) rfl
theorem k_870 : (Cond.instanceMethod y_O_forget) ∈ wal := wal_in (tin_4 (List.mem_of_getElem? (i := 150) (by decide +kernel))) rfl
theorem k_871 : (Cond.selects rc_O y_O_forget y_O_forget) ∈ wal := wal_in (tin_4 (List.mem_of_getElem? (i := 151) (by decide +kernel))) rfl
theorem k_872 : (Cond.code y_O_forget prog_10_method_27_code 4 (some FieldType.int)) ∈ wal := wal_in (tin_4 (List.mem_of_getElem? (i := 152) rfl)) rfl
theorem k_873 : (Cond.methodLink rc_O 169 y_O_moveRule) ∈ wal := wal_in (tin_4 (List.mem_of_getElem? (i := 153) (by decide +kernel))) rfl
theorem k_874 : (Cond.privateMethod y_O_moveRule) ∈ lw_tbl := tin_4 (List.mem_of_getElem? (i := 154) (by decide +kernel))
theorem k_875 : (Cond.instanceMethod y_O_moveRule) ∈ wal := wal_in (tin_4 (List.mem_of_getElem? (i := 155) (by decide +kernel))) rfl
theorem k_876 : (Cond.code y_O_moveRule prog_10_method_26_code 4 none) ∈ wal := wal_in (tin_4 (List.mem_of_getElem? (i := 156) rfl)) rfl
theorem k_877 : (Cond.methodLink rc_L 49 y_O_rules) ∈ wal := wal_in (tin_4 (List.mem_of_getElem? (i := 157) (by decide +kernel))) rfl
theorem k_878 : (Cond.instanceMethod y_O_rules) ∈ wal := wal_in (tin_4 (List.mem_of_getElem? (i := 158) (by decide +kernel))) rfl
theorem k_879 : (Cond.selects rc_O y_O_rules y_O_rules) ∈ wal := wal_in (tin_4 (List.mem_of_getElem? (i := 159) (by decide +kernel))) rfl
theorem k_880 : (Cond.code y_O_rules prog_10_method_28_code 1 (some FieldType.int)) ∈ wal := wal_in (tin_4 (List.mem_of_getElem? (i := 160) rfl)) rfl
theorem k_881 : (Cond.methodLink rc_L 53 y_O_expand) ∈ wal := wal_in (tin_4 (List.mem_of_getElem? (i := 161) (by decide +kernel))) rfl
theorem k_882 : (Cond.instanceMethod y_O_expand) ∈ wal := wal_in (tin_4 (List.mem_of_getElem? (i := 162) (by decide +kernel))) rfl
theorem k_883 : (Cond.selects rc_O y_O_expand y_O_expand) ∈ wal := wal_in (tin_4 (List.mem_of_getElem? (i := 163) (by decide +kernel))) rfl
theorem k_884 : (Cond.code y_O_expand prog_10_method_48_code 4 (some FieldType.int)) ∈ wal := wal_in (tin_4 (List.mem_of_getElem? (i := 164) rfl)) rfl
theorem k_885 : (Cond.methodLink rc_O 270 y_O_termEnd) ∈ wal := wal_in (tin_4 (List.mem_of_getElem? (i := 165) (by decide +kernel))) rfl
theorem k_886 : (Cond.privateMethod y_O_termEnd) ∈ lw_tbl := tin_4 (List.mem_of_getElem? (i := 166) (by decide +kernel))
theorem k_887 : (Cond.instanceMethod y_O_termEnd) ∈ wal := wal_in (tin_4 (List.mem_of_getElem? (i := 167) (by decide +kernel))) rfl
theorem k_888 : (Cond.code y_O_termEnd prog_10_method_11_code 6 (some FieldType.int)) ∈ wal := wal_in (tin_4 (List.mem_of_getElem? (i := 168) rfl)) rfl
theorem k_889 : (Cond.methodLink rc_O 273 y_O_expandAll) ∈ wal := wal_in (tin_4 (List.mem_of_getElem? (i := 169) (by decide +kernel))) rfl
theorem k_890 : (Cond.privateMethod y_O_expandAll) ∈ lw_tbl := tin_4 (List.mem_of_getElem? (i := 170) (by decide +kernel))
theorem k_891 : (Cond.instanceMethod y_O_expandAll) ∈ wal := wal_in (tin_4 (List.mem_of_getElem? (i := 171) (by decide +kernel))) rfl
theorem k_892 : (Cond.code y_O_expandAll prog_10_method_47_code 3 none) ∈ wal := wal_in (tin_4 (List.mem_of_getElem? (i := 172) rfl)) rfl
theorem k_893 : (Cond.methodLink rc_O 261 y_O_closeRow) ∈ wal := wal_in (tin_4 (List.mem_of_getElem? (i := 173) (by decide +kernel))) rfl
theorem k_894 : (Cond.privateMethod y_O_closeRow) ∈ lw_tbl := tin_4 (List.mem_of_getElem? (i := 174) (by decide +kernel))
theorem k_895 : (Cond.instanceMethod y_O_closeRow) ∈ wal := wal_in (tin_4 (List.mem_of_getElem? (i := 175) (by decide +kernel))) rfl
theorem k_896 : (Cond.code y_O_closeRow prog_10_method_46_code 1 none) ∈ wal := wal_in (tin_4 (List.mem_of_getElem? (i := 176) rfl)) rfl
theorem k_897 : (Cond.methodLink rc_O 245 y_O_put) ∈ wal := wal_in (tin_4 (List.mem_of_getElem? (i := 177) (by decide +kernel))) rfl
theorem k_898 : (Cond.privateMethod y_O_put) ∈ lw_tbl := tin_4 (List.mem_of_getElem? (i := 178) (by decide +kernel))
theorem k_899 : (Cond.instanceMethod y_O_put) ∈ wal := wal_in (tin_4 (List.mem_of_getElem? (i := 179) (by decide +kernel))) rfl
theorem k_900 : (Cond.code y_O_put prog_10_method_40_code 2 none) ∈ wal := wal_in (tin_4 (List.mem_of_getElem? (i := 180) rfl)) rfl
theorem k_901 : (Cond.methodLink rc_O 264 y_O_expandList) ∈ wal := wal_in (tin_4 (List.mem_of_getElem? (i := 181) (by decide +kernel))) rfl
theorem k_902 : (Cond.privateMethod y_O_expandList) ∈ lw_tbl := tin_4 (List.mem_of_getElem? (i := 182) (by decide +kernel))
theorem k_903 : (Cond.instanceMethod y_O_expandList) ∈ wal := wal_in (tin_4 (List.mem_of_getElem? (i := 183) (by decide +kernel))) rfl
theorem k_904 : (Cond.code y_O_expandList prog_10_method_45_code 3 none) ∈ wal := wal_in (tin_4 (List.mem_of_getElem? (i := 184) rfl)) rfl
theorem k_905 : (Cond.methodLink rc_O 255 y_O_expandForm) ∈ wal := wal_in (tin_4 (List.mem_of_getElem? (i := 185) (by decide +kernel))) rfl
theorem k_906 : (Cond.privateMethod y_O_expandForm) ∈ lw_tbl := tin_4 (List.mem_of_getElem? (i := 186) (by decide +kernel))
theorem k_907 : (Cond.instanceMethod y_O_expandForm) ∈ wal := wal_in (tin_4 (List.mem_of_getElem? (i := 187) (by decide +kernel))) rfl
theorem k_908 : (Cond.code y_O_expandForm prog_10_method_44_code 7 none) ∈ wal := wal_in (tin_4 (List.mem_of_getElem? (i := 188) rfl)) rfl
theorem k_909 : (Cond.methodLink rc_O 175 y_O_skip) ∈ wal := wal_in (tin_4 (List.mem_of_getElem? (i := 189) (by decide +kernel))) rfl
theorem k_910 : (Cond.privateMethod y_O_skip) ∈ lw_tbl := tin_4 (List.mem_of_getElem? (i := 190) (by decide +kernel))
theorem k_911 : (Cond.instanceMethod y_O_skip) ∈ wal := wal_in (tin_4 (List.mem_of_getElem? (i := 191) (by decide +kernel))) rfl
theorem k_912 : (Cond.code y_O_skip prog_10_method_29_code 4 (some FieldType.int)) ∈ wal := wal_in (tin_4 (List.mem_of_getElem? (i := 192) rfl)) rfl
theorem k_913 : (Cond.methodLink rc_O 251 y_O_openRow) ∈ wal := wal_in (tin_4 (List.mem_of_getElem? (i := 193) (by decide +kernel))) rfl
theorem k_914 : (Cond.privateMethod y_O_openRow) ∈ lw_tbl := tin_4 (List.mem_of_getElem? (i := 194) (by decide +kernel))
theorem k_915 : (Cond.instanceMethod y_O_openRow) ∈ wal := wal_in (tin_4 (List.mem_of_getElem? (i := 195) (by decide +kernel))) rfl
theorem k_916 : (Cond.code y_O_openRow prog_10_method_43_code 2 none) ∈ wal := wal_in (tin_4 (List.mem_of_getElem? (i := 196) rfl)) rfl
theorem k_917 : (Cond.methodLink rc_O 242 y_O_levelOf) ∈ wal := wal_in (tin_4 (List.mem_of_getElem? (i := 197) (by decide +kernel))) rfl
theorem k_918 : (Cond.privateMethod y_O_levelOf) ∈ lw_tbl := tin_4 (List.mem_of_getElem? (i := 198) (by decide +kernel))
theorem k_919 : (Cond.instanceMethod y_O_levelOf) ∈ wal := wal_in (tin_4 (List.mem_of_getElem? (i := 199) (by decide +kernel))) rfl
theorem k_920 : (Cond.code y_O_levelOf prog_10_method_41_code 3 (some FieldType.int)) ∈ wal := wal_in (tin_4 (List.mem_of_getElem? (i := 200) rfl)) rfl
theorem k_921 : (Cond.methodLink rc_O 258 y_O_replace) ∈ wal := wal_in (tin_4 (List.mem_of_getElem? (i := 201) (by decide +kernel))) rfl
theorem k_922 : (Cond.privateMethod y_O_replace) ∈ lw_tbl := tin_4 (List.mem_of_getElem? (i := 202) (by decide +kernel))
theorem k_923 : (Cond.instanceMethod y_O_replace) ∈ wal := wal_in (tin_4 (List.mem_of_getElem? (i := 203) (by decide +kernel))) rfl
theorem k_924 : (Cond.code y_O_replace prog_10_method_39_code 7 none) ∈ wal := wal_in (tin_4 (List.mem_of_getElem? (i := 204) rfl)) rfl
theorem k_925 : (Cond.methodLink rc_O 226 y_O_matches) ∈ wal := wal_in (tin_4 (List.mem_of_getElem? (i := 205) (by decide +kernel))) rfl
theorem k_926 : (Cond.privateMethod y_O_matches) ∈ lw_tbl := tin_4 (List.mem_of_getElem? (i := 206) (by decide +kernel))
theorem k_927 : (Cond.instanceMethod y_O_matches) ∈ wal := wal_in (tin_4 (List.mem_of_getElem? (i := 207) (by decide +kernel))) rfl
theorem k_928 : (Cond.code y_O_matches prog_10_method_33_code 8 (some FieldType.boolean)) ∈ wal := wal_in (tin_4 (List.mem_of_getElem? (i := 208) rfl)) rfl
theorem k_929 : (Cond.methodLink rc_O 185 y_O_itemEnd) ∈ wal := wal_in (tin_4 (List.mem_of_getElem? (i := 209) (by decide +kernel))) rfl
theorem k_930 : (Cond.privateMethod y_O_itemEnd) ∈ lw_tbl := tin_4 (List.mem_of_getElem? (i := 210) (by decide +kernel))
theorem k_931 : (Cond.instanceMethod y_O_itemEnd) ∈ wal := wal_in (tin_4 (List.mem_of_getElem? (i := 211) (by decide +kernel))) rfl
theorem k_932 : (Cond.code y_O_itemEnd prog_10_method_30_code 7 (some FieldType.int)) ∈ wal := wal_in (tin_4 (List.mem_of_getElem? (i := 212) rfl)) rfl
theorem k_933 : (Cond.methodLink rc_O 189 y_O_matchMany) ∈ wal := wal_in (tin_4 (List.mem_of_getElem? (i := 213) (by decide +kernel))) rfl
theorem k_934 : (Cond.privateMethod y_O_matchMany) ∈ lw_tbl := tin_4 (List.mem_of_getElem? (i := 214) (by decide +kernel))
theorem k_935 : (Cond.instanceMethod y_O_matchMany) ∈ wal := wal_in (tin_4 (List.mem_of_getElem? (i := 215) (by decide +kernel))) rfl
theorem k_936 : (Cond.code y_O_matchMany prog_10_method_32_code 7 (some FieldType.int)) ∈ wal := wal_in (tin_4 (List.mem_of_getElem? (i := 216) rfl)) rfl
theorem k_937 : (Cond.methodLink rc_O 178 y_O_matchPlain) ∈ wal := wal_in (tin_4 (List.mem_of_getElem? (i := 217) (by decide +kernel))) rfl
theorem k_938 : (Cond.privateMethod y_O_matchPlain) ∈ lw_tbl := tin_4 (List.mem_of_getElem? (i := 218) (by decide +kernel))
theorem k_939 : (Cond.instanceMethod y_O_matchPlain) ∈ wal := wal_in (tin_4 (List.mem_of_getElem? (i := 219) (by decide +kernel))) rfl
theorem k_940 : (Cond.code y_O_matchPlain prog_10_method_31_code 10 none) ∈ wal := wal_in (tin_4 (List.mem_of_getElem? (i := 220) rfl)) rfl
theorem k_941 : (Cond.methodLink rc_O 229 y_O_goThrough) ∈ wal := wal_in (tin_4 (List.mem_of_getElem? (i := 221) (by decide +kernel))) rfl
theorem k_942 : (Cond.privateMethod y_O_goThrough) ∈ lw_tbl := tin_4 (List.mem_of_getElem? (i := 222) (by decide +kernel))
theorem k_943 : (Cond.instanceMethod y_O_goThrough) ∈ wal := wal_in (tin_4 (List.mem_of_getElem? (i := 223) (by decide +kernel))) rfl
theorem k_944 : (Cond.code y_O_goThrough prog_10_method_38_code 9 (some FieldType.boolean)) ∈ wal := wal_in (tin_4 (List.mem_of_getElem? (i := 224) rfl)) rfl
theorem k_945 : (Cond.methodLink rc_O 217 y_O_emitPlain) ∈ wal := wal_in (tin_4 (List.mem_of_getElem? (i := 225) (by decide +kernel))) rfl
theorem k_946 : (Cond.privateMethod y_O_emitPlain) ∈ lw_tbl := tin_4 (List.mem_of_getElem? (i := 226) (by decide +kernel))
theorem k_947 : (Cond.instanceMethod y_O_emitPlain) ∈ wal := wal_in (tin_4 (List.mem_of_getElem? (i := 227) (by decide +kernel))) rfl
theorem k_948 : (Cond.code y_O_emitPlain prog_10_method_36_code 8 none) ∈ wal := wal_in (tin_4 (List.mem_of_getElem? (i := 228) rfl)) rfl
theorem k_949 : (Cond.methodLink rc_O 208 y_O_emit) ∈ wal := wal_in (tin_4 (List.mem_of_getElem? (i := 229) (by decide +kernel))) rfl
theorem k_950 : (Cond.privateMethod y_O_emit) ∈ lw_tbl := tin_4 (List.mem_of_getElem? (i := 230) (by decide +kernel))
theorem k_951 : (Cond.instanceMethod y_O_emit) ∈ wal := wal_in (tin_4 (List.mem_of_getElem? (i := 231) (by decide +kernel))) rfl
theorem k_952 : (Cond.code y_O_emit prog_10_method_34_code 2 none) ∈ wal := wal_in (tin_4 (List.mem_of_getElem? (i := 232) rfl)) rfl
theorem k_953 : (Cond.methodLink rc_O 211 y_O_emitTerm) ∈ wal := wal_in (tin_4 (List.mem_of_getElem? (i := 233) (by decide +kernel))) rfl
theorem k_954 : (Cond.privateMethod y_O_emitTerm) ∈ lw_tbl := tin_4 (List.mem_of_getElem? (i := 234) (by decide +kernel))
theorem k_955 : (Cond.instanceMethod y_O_emitTerm) ∈ wal := wal_in (tin_4 (List.mem_of_getElem? (i := 235) (by decide +kernel))) rfl
theorem k_956 : (Cond.code y_O_emitTerm prog_10_method_35_code 4 none) ∈ wal := wal_in (tin_4 (List.mem_of_getElem? (i := 236) rfl)) rfl
theorem k_957 : (Cond.methodLink rc_O 220 y_O_copies) ∈ wal := wal_in (tin_4 (List.mem_of_getElem? (i := 237) (by decide +kernel))) rfl
theorem k_958 : (Cond.privateMethod y_O_copies) ∈ lw_tbl := tin_4 (List.mem_of_getElem? (i := 238) (by decide +kernel))
theorem k_959 : (Cond.instanceMethod y_O_copies) ∈ wal := wal_in (tin_4 (List.mem_of_getElem? (i := 239) (by decide +kernel))) rfl
theorem k_960 : (Cond.code y_O_copies prog_10_method_37_code 8 (some FieldType.int)) ∈ wal := wal_in (tin_5 (List.mem_of_getElem? (i := 0) rfl)) rfl
theorem k_961 : (Cond.methodLink rc_O 267 y_O_expandName) ∈ wal := wal_in (tin_5 (List.mem_of_getElem? (i := 1) (by decide +kernel))) rfl
theorem k_962 : (Cond.privateMethod y_O_expandName) ∈ lw_tbl := tin_5 (List.mem_of_getElem? (i := 2) (by decide +kernel))
theorem k_963 : (Cond.instanceMethod y_O_expandName) ∈ wal := wal_in (tin_5 (List.mem_of_getElem? (i := 3) (by decide +kernel))) rfl
theorem k_964 : (Cond.code y_O_expandName prog_10_method_42_code 3 none) ∈ wal := wal_in (tin_5 (List.mem_of_getElem? (i := 4) rfl)) rfl
theorem k_965 : (Cond.methodLink rc_L 57 y_O_replaced) ∈ wal := wal_in (tin_5 (List.mem_of_getElem? (i := 5) (by decide +kernel))) rfl
theorem k_966 : (Cond.instanceMethod y_O_replaced) ∈ wal := wal_in (tin_5 (List.mem_of_getElem? (i := 6) (by decide +kernel))) rfl
theorem k_967 : (Cond.selects rc_O y_O_replaced y_O_replaced) ∈ wal := wal_in (tin_5 (List.mem_of_getElem? (i := 7) (by decide +kernel))) rfl
theorem k_968 : (Cond.code y_O_replaced prog_10_method_49_code 1 (some FieldType.int)) ∈ wal := wal_in (tin_5 (List.mem_of_getElem? (i := 8) rfl)) rfl
theorem k_969 : (Cond.methodLink rc_L 61 y_O_mark) ∈ wal := wal_in (tin_5 (List.mem_of_getElem? (i := 9) (by decide +kernel))) rfl
theorem k_970 : (Cond.instanceMethod y_O_mark) ∈ wal := wal_in (tin_5 (List.mem_of_getElem? (i := 10) (by decide +kernel))) rfl
theorem k_971 : (Cond.selects rc_O y_O_mark y_O_mark) ∈ wal := wal_in (tin_5 (List.mem_of_getElem? (i := 11) (by decide +kernel))) rfl
theorem k_972 : (Cond.code y_O_mark prog_10_method_50_code 2 (some FieldType.int)) ∈ wal := wal_in (tin_5 (List.mem_of_getElem? (i := 12) rfl)) rfl
theorem k_973 : (Cond.methodLink rc_L 65 y_O_depth) ∈ wal := wal_in (tin_5 (List.mem_of_getElem? (i := 13) (by decide +kernel))) rfl
theorem k_974 : (Cond.instanceMethod y_O_depth) ∈ wal := wal_in (tin_5 (List.mem_of_getElem? (i := 14) (by decide +kernel))) rfl
theorem k_975 : (Cond.selects rc_O y_O_depth y_O_depth) ∈ wal := wal_in (tin_5 (List.mem_of_getElem? (i := 15) (by decide +kernel))) rfl
theorem k_976 : (Cond.code y_O_depth prog_10_method_51_code 4 (some FieldType.int)) ∈ wal := wal_in (tin_5 (List.mem_of_getElem? (i := 16) rfl)) rfl
theorem k_977 : (Cond.arrayClass FieldType.long) ∈ wal := wal_in (tin_5 (List.mem_of_getElem? (i := 17) (by decide +kernel))) rfl
theorem k_978 : (Cond.sameMethod "java/lang/Throwable" "java/lang/Throwable" "fillInStackTrace" "(I)Ljava/lang/Throwable;") ∈ lw_tbl := tin_5 (List.mem_of_getElem? (i := 18) (by decide +kernel))
