theorem kH_95 : Cond.methodLink RL 95 yL_constant ∈ TB ∧ Cond.static yL_constant ∈ TB ∧ Cond.initialized yL_constant.cls ∈ TB ∧ Cond.codeWith yL_constant cL_constant 6 (some .int) [(0, 12, 15, 13), (0, 12, 19, 15)] ∈ TB ∧ (yL_constant.cls ≠ "java/lang/invoke/MethodHandle" ∧ yL_constant.cls ≠ "java/lang/invoke/VarHandle" ∧ (parseMethodDescriptor yL_constant.desc).map (fun d => d.parameters.length) = some 5) := ⟨tb 577 (by decide +kernel) (by decide +kernel), tb 578 (by decide +kernel) (by decide +kernel), tb 81 (by decide +kernel) (by decide +kernel), tb 579 (by decide +kernel) (by decide +kernel), by decide +kernel⟩
theorem kM_100 : cfV RL 100 yX5_constant cX5_constant 5 (some .int) 3 := ⟨⟨tb 880 (by decide +kernel) (by decide +kernel), tb 87 (by decide +kernel) (by decide +kernel), tb 883 (by decide +kernel) (by decide +kernel), by decide +kernel⟩, tb 881 (by decide +kernel) (by decide +kernel), tb 882 (by decide +kernel) (by decide +kernel)⟩
theorem kM_101 : cfV RL 101 yX5_thrown cX5_thrown 1 (some .int) 0 := ⟨⟨tb 876 (by decide +kernel) (by decide +kernel), tb 87 (by decide +kernel) (by decide +kernel), tb 879 (by decide +kernel) (by decide +kernel), by decide +kernel⟩, tb 877 (by decide +kernel) (by decide +kernel), tb 878 (by decide +kernel) (by decide +kernel)⟩
theorem kH_104 : Cond.methodLink RL 104 yL_variable ∈ TB ∧ Cond.static yL_variable ∈ TB ∧ Cond.initialized yL_variable.cls ∈ TB ∧ Cond.codeWith yL_variable cL_variable 6 (some .int) [(0, 12, 15, 13), (0, 12, 19, 15)] ∈ TB ∧ (yL_variable.cls ≠ "java/lang/invoke/MethodHandle" ∧ yL_variable.cls ≠ "java/lang/invoke/VarHandle" ∧ (parseMethodDescriptor yL_variable.desc).map (fun d => d.parameters.length) = some 5) := ⟨tb 611 (by decide +kernel) (by decide +kernel), tb 612 (by decide +kernel) (by decide +kernel), tb 81 (by decide +kernel) (by decide +kernel), tb 613 (by decide +kernel) (by decide +kernel), by decide +kernel⟩
theorem kM_106 : cfV RL 106 yX5_variable cX5_variable 5 (some .int) 3 := ⟨⟨tb 901 (by decide +kernel) (by decide +kernel), tb 87 (by decide +kernel) (by decide +kernel), tb 904 (by decide +kernel) (by decide +kernel), by decide +kernel⟩, tb 902 (by decide +kernel) (by decide +kernel), tb 903 (by decide +kernel) (by decide +kernel)⟩
theorem kH_107 : Cond.methodLink RL 107 yL_multiply ∈ TB ∧ Cond.static yL_multiply ∈ TB ∧ Cond.initialized yL_multiply.cls ∈ TB ∧ Cond.codeWith yL_multiply cL_multiply 5 (some .int) [(0, 10, 13, 13), (0, 10, 17, 24)] ∈ TB ∧ (yL_multiply.cls ≠ "java/lang/invoke/MethodHandle" ∧ yL_multiply.cls ≠ "java/lang/invoke/VarHandle" ∧ (parseMethodDescriptor yL_multiply.desc).map (fun d => d.parameters.length) = some 4) := ⟨tb 618 (by decide +kernel) (by decide +kernel), tb 619 (by decide +kernel) (by decide +kernel), tb 81 (by decide +kernel) (by decide +kernel), tb 620 (by decide +kernel) (by decide +kernel), by decide +kernel⟩
theorem kM_110 : cfV RL 110 yX5_multiply cX5_multiply 4 (some .int) 2 := ⟨⟨tb 912 (by decide +kernel) (by decide +kernel), tb 87 (by decide +kernel) (by decide +kernel), tb 915 (by decide +kernel) (by decide +kernel), by decide +kernel⟩, tb 913 (by decide +kernel) (by decide +kernel), tb 914 (by decide +kernel) (by decide +kernel)⟩
theorem kH_111 : Cond.methodLink RL 111 yL_rewrite ∈ TB ∧ Cond.static yL_rewrite ∈ TB ∧ Cond.initialized yL_rewrite.cls ∈ TB ∧ Cond.codeWith yL_rewrite cL_rewrite 4 (some .int) [(0, 9, 12, 15), (0, 9, 15, 24)] ∈ TB ∧ (yL_rewrite.cls ≠ "java/lang/invoke/MethodHandle" ∧ yL_rewrite.cls ≠ "java/lang/invoke/VarHandle" ∧ (parseMethodDescriptor yL_rewrite.desc).map (fun d => d.parameters.length) = some 3) := ⟨tb 650 (by decide +kernel) (by decide +kernel), tb 651 (by decide +kernel) (by decide +kernel), tb 81 (by decide +kernel) (by decide +kernel), tb 652 (by decide +kernel) (by decide +kernel), by decide +kernel⟩
theorem kM_114 : cfV RL 114 yX5_rewrite cX5_rewrite 3 (some .int) 1 := ⟨⟨tb 927 (by decide +kernel) (by decide +kernel), tb 87 (by decide +kernel) (by decide +kernel), tb 930 (by decide +kernel) (by decide +kernel), by decide +kernel⟩, tb 928 (by decide +kernel) (by decide +kernel), tb 929 (by decide +kernel) (by decide +kernel)⟩
theorem kH_115 : Cond.methodLink RL 115 yL_cancel ∈ TB ∧ Cond.static yL_cancel ∈ TB ∧ Cond.initialized yL_cancel.cls ∈ TB ∧ Cond.codeWith yL_cancel cL_cancel 5 (some .int) [(0, 10, 13, 13)] ∈ TB ∧ (yL_cancel.cls ≠ "java/lang/invoke/MethodHandle" ∧ yL_cancel.cls ≠ "java/lang/invoke/VarHandle" ∧ (parseMethodDescriptor yL_cancel.desc).map (fun d => d.parameters.length) = some 4) := ⟨tb 663 (by decide +kernel) (by decide +kernel), tb 664 (by decide +kernel) (by decide +kernel), tb 81 (by decide +kernel) (by decide +kernel), tb 665 (by decide +kernel) (by decide +kernel), by decide +kernel⟩
theorem kM_117 : cfV RL 117 yX5_cancel cX5_cancel 6 (some .int) 2 := ⟨⟨tb 986 (by decide +kernel) (by decide +kernel), tb 87 (by decide +kernel) (by decide +kernel), tb 989 (by decide +kernel) (by decide +kernel), by decide +kernel⟩, tb 987 (by decide +kernel) (by decide +kernel), tb 988 (by decide +kernel) (by decide +kernel)⟩
theorem kH_118 : Cond.methodLink RL 118 yL_set ∈ TB ∧ Cond.static yL_set ∈ TB ∧ Cond.initialized yL_set.cls ∈ TB ∧ Cond.codeWith yL_set cL_set 5 (some .int) [(0, 10, 13, 13), (0, 10, 17, 15)] ∈ TB ∧ (yL_set.cls ≠ "java/lang/invoke/MethodHandle" ∧ yL_set.cls ≠ "java/lang/invoke/VarHandle" ∧ (parseMethodDescriptor yL_set.desc).map (fun d => d.parameters.length) = some 4) := ⟨tb 670 (by decide +kernel) (by decide +kernel), tb 671 (by decide +kernel) (by decide +kernel), tb 81 (by decide +kernel) (by decide +kernel), tb 672 (by decide +kernel) (by decide +kernel), by decide +kernel⟩
theorem kM_120 : cfV RL 120 yX5_set cX5_set 4 (some .int) 2 := ⟨⟨tb 990 (by decide +kernel) (by decide +kernel), tb 87 (by decide +kernel) (by decide +kernel), tb 993 (by decide +kernel) (by decide +kernel), by decide +kernel⟩, tb 991 (by decide +kernel) (by decide +kernel), tb 992 (by decide +kernel) (by decide +kernel)⟩
theorem kH_121 : Cond.methodLink RL 121 yL_append ∈ TB ∧ Cond.static yL_append ∈ TB ∧ Cond.initialized yL_append.cls ∈ TB ∧ Cond.codeWith yL_append cL_append 4 (some .int) [(0, 9, 12, 15), (0, 9, 15, 24)] ∈ TB ∧ (yL_append.cls ≠ "java/lang/invoke/MethodHandle" ∧ yL_append.cls ≠ "java/lang/invoke/VarHandle" ∧ (parseMethodDescriptor yL_append.desc).map (fun d => d.parameters.length) = some 3) := ⟨tb 677 (by decide +kernel) (by decide +kernel), tb 678 (by decide +kernel) (by decide +kernel), tb 81 (by decide +kernel) (by decide +kernel), tb 679 (by decide +kernel) (by decide +kernel), by decide +kernel⟩
theorem kM_123 : cfV RL 123 yX5_append cX5_append 2 (some .int) 1 := ⟨⟨tb 994 (by decide +kernel) (by decide +kernel), tb 87 (by decide +kernel) (by decide +kernel), tb 997 (by decide +kernel) (by decide +kernel), by decide +kernel⟩, tb 995 (by decide +kernel) (by decide +kernel), tb 996 (by decide +kernel) (by decide +kernel)⟩
theorem kM_124 : cfV RL 124 yX4_clearBuffer cX4_clearBuffer 2 (some .int) 0 := ⟨⟨tb 234 (by decide +kernel) (by decide +kernel), tb 82 (by decide +kernel) (by decide +kernel), tb 237 (by decide +kernel) (by decide +kernel), by decide +kernel⟩, tb 235 (by decide +kernel) (by decide +kernel), tb 236 (by decide +kernel) (by decide +kernel)⟩
theorem kM_127 : cfV RL 127 yX5_clearBuffer cX5_clearBuffer 2 (some .int) 0 := ⟨⟨tb 998 (by decide +kernel) (by decide +kernel), tb 87 (by decide +kernel) (by decide +kernel), tb 1001 (by decide +kernel) (by decide +kernel), by decide +kernel⟩, tb 999 (by decide +kernel) (by decide +kernel), tb 1000 (by decide +kernel) (by decide +kernel)⟩
theorem kM_128 : cfV RL 128 yX4_firstError cX4_firstError 1 (some .int) 0 := ⟨⟨tb 246 (by decide +kernel) (by decide +kernel), tb 82 (by decide +kernel) (by decide +kernel), tb 249 (by decide +kernel) (by decide +kernel), by decide +kernel⟩, tb 247 (by decide +kernel) (by decide +kernel), tb 248 (by decide +kernel) (by decide +kernel)⟩
theorem kM_131 : cfV RL 131 yX5_firstError cX5_firstError 1 (some .int) 0 := ⟨⟨tb 1002 (by decide +kernel) (by decide +kernel), tb 87 (by decide +kernel) (by decide +kernel), tb 1005 (by decide +kernel) (by decide +kernel), by decide +kernel⟩, tb 1003 (by decide +kernel) (by decide +kernel), tb 1004 (by decide +kernel) (by decide +kernel)⟩
theorem kH_132 : Cond.methodLink RL 132 yL_read ∈ TB ∧ Cond.static yL_read ∈ TB ∧ Cond.initialized yL_read.cls ∈ TB ∧ Cond.codeWith yL_read cL_read 4 (some .int) [(0, 9, 12, 13), (0, 9, 15, 15), (0, 9, 18, 24)] ∈ TB ∧ (yL_read.cls ≠ "java/lang/invoke/MethodHandle" ∧ yL_read.cls ≠ "java/lang/invoke/VarHandle" ∧ (parseMethodDescriptor yL_read.desc).map (fun d => d.parameters.length) = some 3) := ⟨tb 693 (by decide +kernel) (by decide +kernel), tb 694 (by decide +kernel) (by decide +kernel), tb 81 (by decide +kernel) (by decide +kernel), tb 695 (by decide +kernel) (by decide +kernel), by decide +kernel⟩
theorem kM_134 : cfV RL 134 yX5_read cX5_read 4 (some .int) 1 := ⟨⟨tb 1017 (by decide +kernel) (by decide +kernel), tb 87 (by decide +kernel) (by decide +kernel), tb 1020 (by decide +kernel) (by decide +kernel), by decide +kernel⟩, tb 1018 (by decide +kernel) (by decide +kernel), tb 1019 (by decide +kernel) (by decide +kernel)⟩
theorem kH_135 : Cond.methodLink RL 135 yL_take ∈ TB ∧ Cond.static yL_take ∈ TB ∧ Cond.initialized yL_take.cls ∈ TB ∧ Cond.codeWith yL_take cL_take 4 (some .int) [(0, 9, 12, 13)] ∈ TB ∧ (yL_take.cls ≠ "java/lang/invoke/MethodHandle" ∧ yL_take.cls ≠ "java/lang/invoke/VarHandle" ∧ (parseMethodDescriptor yL_take.desc).map (fun d => d.parameters.length) = some 3) := ⟨tb 710 (by decide +kernel) (by decide +kernel), tb 711 (by decide +kernel) (by decide +kernel), tb 81 (by decide +kernel) (by decide +kernel), tb 712 (by decide +kernel) (by decide +kernel), by decide +kernel⟩
theorem kM_137 : cfV RL 137 yX5_take cX5_take 3 (some .int) 1 := ⟨⟨tb 1025 (by decide +kernel) (by decide +kernel), tb 87 (by decide +kernel) (by decide +kernel), tb 1028 (by decide +kernel) (by decide +kernel), by decide +kernel⟩, tb 1026 (by decide +kernel) (by decide +kernel), tb 1027 (by decide +kernel) (by decide +kernel)⟩
theorem kH_138 : Cond.methodLink RL 138 yL_restore ∈ TB ∧ Cond.static yL_restore ∈ TB ∧ Cond.initialized yL_restore.cls ∈ TB ∧ Cond.codeWith yL_restore cL_restore 4 (some .int) [(0, 9, 12, 13), (0, 9, 15, 24)] ∈ TB ∧ (yL_restore.cls ≠ "java/lang/invoke/MethodHandle" ∧ yL_restore.cls ≠ "java/lang/invoke/VarHandle" ∧ (parseMethodDescriptor yL_restore.desc).map (fun d => d.parameters.length) = some 3) := ⟨tb 722 (by decide +kernel) (by decide +kernel), tb 723 (by decide +kernel) (by decide +kernel), tb 81 (by decide +kernel) (by decide +kernel), tb 724 (by decide +kernel) (by decide +kernel), by decide +kernel⟩
theorem kM_140 : cfV RL 140 yX5_restore cX5_restore 3 (some .int) 1 := ⟨⟨tb 1036 (by decide +kernel) (by decide +kernel), tb 87 (by decide +kernel) (by decide +kernel), tb 1039 (by decide +kernel) (by decide +kernel), by decide +kernel⟩, tb 1037 (by decide +kernel) (by decide +kernel), tb 1038 (by decide +kernel) (by decide +kernel)⟩
theorem kH_141 : Cond.methodLink RL 141 yL_undo ∈ TB ∧ Cond.static yL_undo ∈ TB ∧ Cond.initialized yL_undo.cls ∈ TB ∧ Cond.codeWith yL_undo cL_undo 3 (some .int) [(0, 8, 11, 24)] ∈ TB ∧ (yL_undo.cls ≠ "java/lang/invoke/MethodHandle" ∧ yL_undo.cls ≠ "java/lang/invoke/VarHandle" ∧ (parseMethodDescriptor yL_undo.desc).map (fun d => d.parameters.length) = some 2) := ⟨tb 730 (by decide +kernel) (by decide +kernel), tb 731 (by decide +kernel) (by decide +kernel), tb 81 (by decide +kernel) (by decide +kernel), tb 732 (by decide +kernel) (by decide +kernel), by decide +kernel⟩
theorem kM_144 : cfV RL 144 yX5_undo cX5_undo 2 (some .int) 0 := ⟨⟨tb 1040 (by decide +kernel) (by decide +kernel), tb 87 (by decide +kernel) (by decide +kernel), tb 1043 (by decide +kernel) (by decide +kernel), by decide +kernel⟩, tb 1041 (by decide +kernel) (by decide +kernel), tb 1042 (by decide +kernel) (by decide +kernel)⟩
theorem kH_145 : Cond.methodLink RL 145 yL_times ∈ TB ∧ Cond.static yL_times ∈ TB ∧ Cond.initialized yL_times.cls ∈ TB ∧ Cond.codeWith yL_times cL_times 5 (some .int) [(0, 10, 13, 13)] ∈ TB ∧ (yL_times.cls ≠ "java/lang/invoke/MethodHandle" ∧ yL_times.cls ≠ "java/lang/invoke/VarHandle" ∧ (parseMethodDescriptor yL_times.desc).map (fun d => d.parameters.length) = some 4) := ⟨tb 742 (by decide +kernel) (by decide +kernel), tb 743 (by decide +kernel) (by decide +kernel), tb 81 (by decide +kernel) (by decide +kernel), tb 744 (by decide +kernel) (by decide +kernel), by decide +kernel⟩
theorem kM_147 : cfV RL 147 yX5_times cX5_times 3 (some .int) 2 := ⟨⟨tb 1044 (by decide +kernel) (by decide +kernel), tb 87 (by decide +kernel) (by decide +kernel), tb 1047 (by decide +kernel) (by decide +kernel), by decide +kernel⟩, tb 1045 (by decide +kernel) (by decide +kernel), tb 1046 (by decide +kernel) (by decide +kernel)⟩
theorem kH_148 : Cond.methodLink RL 148 yL_rest ∈ TB ∧ Cond.static yL_rest ∈ TB ∧ Cond.initialized yL_rest.cls ∈ TB ∧ Cond.codeWith yL_rest cL_rest 4 (some .int) [(0, 9, 12, 13)] ∈ TB ∧ (yL_rest.cls ≠ "java/lang/invoke/MethodHandle" ∧ yL_rest.cls ≠ "java/lang/invoke/VarHandle" ∧ (parseMethodDescriptor yL_rest.desc).map (fun d => d.parameters.length) = some 3) := ⟨tb 749 (by decide +kernel) (by decide +kernel), tb 750 (by decide +kernel) (by decide +kernel), tb 81 (by decide +kernel) (by decide +kernel), tb 751 (by decide +kernel) (by decide +kernel), by decide +kernel⟩
theorem kM_150 : cfV RL 150 yX5_rest cX5_rest 2 (some .int) 1 := ⟨⟨tb 1048 (by decide +kernel) (by decide +kernel), tb 87 (by decide +kernel) (by decide +kernel), tb 1051 (by decide +kernel) (by decide +kernel), by decide +kernel⟩, tb 1049 (by decide +kernel) (by decide +kernel), tb 1050 (by decide +kernel) (by decide +kernel)⟩
theorem kH_151 : Cond.methodLink RL 151 yL_solutions ∈ TB ∧ Cond.static yL_solutions ∈ TB ∧ Cond.initialized yL_solutions.cls ∈ TB ∧ Cond.codeWith yL_solutions cL_solutions 4 (some .int) [(0, 9, 12, 13)] ∈ TB ∧ (yL_solutions.cls ≠ "java/lang/invoke/MethodHandle" ∧ yL_solutions.cls ≠ "java/lang/invoke/VarHandle" ∧ (parseMethodDescriptor yL_solutions.desc).map (fun d => d.parameters.length) = some 3) := ⟨tb 756 (by decide +kernel) (by decide +kernel), tb 757 (by decide +kernel) (by decide +kernel), tb 81 (by decide +kernel) (by decide +kernel), tb 758 (by decide +kernel) (by decide +kernel), by decide +kernel⟩
theorem kM_153 : cfV RL 153 yX5_solutions cX5_solutions 2 (some .int) 1 := ⟨⟨tb 1052 (by decide +kernel) (by decide +kernel), tb 87 (by decide +kernel) (by decide +kernel), tb 1055 (by decide +kernel) (by decide +kernel), by decide +kernel⟩, tb 1053 (by decide +kernel) (by decide +kernel), tb 1054 (by decide +kernel) (by decide +kernel)⟩
theorem kH_154 : Cond.methodLink RL 154 yL_matchers ∈ TB ∧ Cond.static yL_matchers ∈ TB ∧ Cond.initialized yL_matchers.cls ∈ TB ∧ Cond.codeWith yL_matchers cL_matchers 4 (some .int) [(0, 8, 11, 15)] ∈ TB ∧ (yL_matchers.cls ≠ "java/lang/invoke/MethodHandle" ∧ yL_matchers.cls ≠ "java/lang/invoke/VarHandle" ∧ (parseMethodDescriptor yL_matchers.desc).map (fun d => d.parameters.length) = some 3) := ⟨tb 760 (by decide +kernel) (by decide +kernel), tb 761 (by decide +kernel) (by decide +kernel), tb 81 (by decide +kernel) (by decide +kernel), tb 762 (by decide +kernel) (by decide +kernel), by decide +kernel⟩
theorem kM_156 : cfV RL 156 yX5_matchers cX5_matchers 2 (some .long) 1 := ⟨⟨tb 1060 (by decide +kernel) (by decide +kernel), tb 87 (by decide +kernel) (by decide +kernel), tb 1063 (by decide +kernel) (by decide +kernel), by decide +kernel⟩, tb 1061 (by decide +kernel) (by decide +kernel), tb 1062 (by decide +kernel) (by decide +kernel)⟩
theorem kH_157 : Cond.methodLink RL 157 yL_value ∈ TB ∧ Cond.static yL_value ∈ TB ∧ Cond.initialized yL_value.cls ∈ TB ∧ Cond.codeWith yL_value cL_value 6 (some .int) [(0, 12, 15, 13), (0, 12, 19, 15)] ∈ TB ∧ (yL_value.cls ≠ "java/lang/invoke/MethodHandle" ∧ yL_value.cls ≠ "java/lang/invoke/VarHandle" ∧ (parseMethodDescriptor yL_value.desc).map (fun d => d.parameters.length) = some 5) := ⟨tb 764 (by decide +kernel) (by decide +kernel), tb 765 (by decide +kernel) (by decide +kernel), tb 81 (by decide +kernel) (by decide +kernel), tb 766 (by decide +kernel) (by decide +kernel), by decide +kernel⟩
theorem kM_159 : cfV RL 159 yX5_value cX5_value 4 (some .int) 3 := ⟨⟨tb 1079 (by decide +kernel) (by decide +kernel), tb 87 (by decide +kernel) (by decide +kernel), tb 1082 (by decide +kernel) (by decide +kernel), by decide +kernel⟩, tb 1080 (by decide +kernel) (by decide +kernel), tb 1081 (by decide +kernel) (by decide +kernel)⟩
theorem kH_160 : Cond.methodLink RL 160 yL_least ∈ TB ∧ Cond.static yL_least ∈ TB ∧ Cond.initialized yL_least.cls ∈ TB ∧ Cond.codeWith yL_least cL_least 5 (some .int) [(0, 10, 13, 13), (0, 10, 17, 15)] ∈ TB ∧ (yL_least.cls ≠ "java/lang/invoke/MethodHandle" ∧ yL_least.cls ≠ "java/lang/invoke/VarHandle" ∧ (parseMethodDescriptor yL_least.desc).map (fun d => d.parameters.length) = some 4) := ⟨tb 771 (by decide +kernel) (by decide +kernel), tb 772 (by decide +kernel) (by decide +kernel), tb 81 (by decide +kernel) (by decide +kernel), tb 773 (by decide +kernel) (by decide +kernel), by decide +kernel⟩
theorem kM_162 : cfV RL 162 yX5_least cX5_least 3 (some .int) 2 := ⟨⟨tb 1087 (by decide +kernel) (by decide +kernel), tb 87 (by decide +kernel) (by decide +kernel), tb 1090 (by decide +kernel) (by decide +kernel), by decide +kernel⟩, tb 1088 (by decide +kernel) (by decide +kernel), tb 1089 (by decide +kernel) (by decide +kernel)⟩
theorem kH_163 : Cond.methodLink RL 163 yL_sums ∈ TB ∧ Cond.static yL_sums ∈ TB ∧ Cond.initialized yL_sums.cls ∈ TB ∧ Cond.codeWith yL_sums cL_sums 7 (some .int) [(0, 14, 17, 15)] ∈ TB ∧ (yL_sums.cls ≠ "java/lang/invoke/MethodHandle" ∧ yL_sums.cls ≠ "java/lang/invoke/VarHandle" ∧ (parseMethodDescriptor yL_sums.desc).map (fun d => d.parameters.length) = some 6) := ⟨tb 779 (by decide +kernel) (by decide +kernel), tb 780 (by decide +kernel) (by decide +kernel), tb 81 (by decide +kernel) (by decide +kernel), tb 781 (by decide +kernel) (by decide +kernel), by decide +kernel⟩
theorem kM_166 : cfV RL 166 yX5_sums cX5_sums 5 (some .int) 4 := ⟨⟨tb 1118 (by decide +kernel) (by decide +kernel), tb 87 (by decide +kernel) (by decide +kernel), tb 1121 (by decide +kernel) (by decide +kernel), by decide +kernel⟩, tb 1119 (by decide +kernel) (by decide +kernel), tb 1120 (by decide +kernel) (by decide +kernel)⟩
theorem kH_167 : Cond.methodLink RL 167 yL_count ∈ TB ∧ Cond.static yL_count ∈ TB ∧ Cond.initialized yL_count.cls ∈ TB ∧ Cond.codeWith yL_count cL_count 4 (some .int) [(0, 9, 12, 15)] ∈ TB ∧ (yL_count.cls ≠ "java/lang/invoke/MethodHandle" ∧ yL_count.cls ≠ "java/lang/invoke/VarHandle" ∧ (parseMethodDescriptor yL_count.desc).map (fun d => d.parameters.length) = some 3) := ⟨tb 786 (by decide +kernel) (by decide +kernel), tb 787 (by decide +kernel) (by decide +kernel), tb 81 (by decide +kernel) (by decide +kernel), tb 788 (by decide +kernel) (by decide +kernel), by decide +kernel⟩
theorem kM_169 : cfV RL 169 yX5_count cX5_count 2 (some .int) 1 := ⟨⟨tb 1129 (by decide +kernel) (by decide +kernel), tb 87 (by decide +kernel) (by decide +kernel), tb 1132 (by decide +kernel) (by decide +kernel), by decide +kernel⟩, tb 1130 (by decide +kernel) (by decide +kernel), tb 1131 (by decide +kernel) (by decide +kernel)⟩
theorem kH_170 : Cond.methodLink RL 170 yL_setting ∈ TB ∧ Cond.static yL_setting ∈ TB ∧ Cond.initialized yL_setting.cls ∈ TB ∧ Cond.codeWith yL_setting cL_setting 4 (some .int) [(0, 9, 12, 13)] ∈ TB ∧ (yL_setting.cls ≠ "java/lang/invoke/MethodHandle" ∧ yL_setting.cls ≠ "java/lang/invoke/VarHandle" ∧ (parseMethodDescriptor yL_setting.desc).map (fun d => d.parameters.length) = some 3) := ⟨tb 790 (by decide +kernel) (by decide +kernel), tb 791 (by decide +kernel) (by decide +kernel), tb 81 (by decide +kernel) (by decide +kernel), tb 792 (by decide +kernel) (by decide +kernel), by decide +kernel⟩
theorem kM_172 : cfV RL 172 yX5_setting cX5_setting 2 (some .int) 1 := ⟨⟨tb 1157 (by decide +kernel) (by decide +kernel), tb 87 (by decide +kernel) (by decide +kernel), tb 1160 (by decide +kernel) (by decide +kernel), by decide +kernel⟩, tb 1158 (by decide +kernel) (by decide +kernel), tb 1159 (by decide +kernel) (by decide +kernel)⟩
theorem kH_173 : Cond.methodLink RL 173 yL_ifMore ∈ TB ∧ Cond.static yL_ifMore ∈ TB ∧ Cond.initialized yL_ifMore.cls ∈ TB ∧ Cond.codeWith yL_ifMore cL_ifMore 5 (some .int) [(0, 9, 12, 13), (0, 9, 16, 15)] ∈ TB ∧ (yL_ifMore.cls ≠ "java/lang/invoke/MethodHandle" ∧ yL_ifMore.cls ≠ "java/lang/invoke/VarHandle" ∧ (parseMethodDescriptor yL_ifMore.desc).map (fun d => d.parameters.length) = some 4) := ⟨tb 797 (by decide +kernel) (by decide +kernel), tb 798 (by decide +kernel) (by decide +kernel), tb 81 (by decide +kernel) (by decide +kernel), tb 799 (by decide +kernel) (by decide +kernel), by decide +kernel⟩
theorem kM_175 : cfV RL 175 yX5_ifMore cX5_ifMore 3 (some .long) 2 := ⟨⟨tb 1161 (by decide +kernel) (by decide +kernel), tb 87 (by decide +kernel) (by decide +kernel), tb 1164 (by decide +kernel) (by decide +kernel), by decide +kernel⟩, tb 1162 (by decide +kernel) (by decide +kernel), tb 1163 (by decide +kernel) (by decide +kernel)⟩
theorem kH_176 : Cond.methodLink RL 176 yL_ifRewritten ∈ TB ∧ Cond.static yL_ifRewritten ∈ TB ∧ Cond.initialized yL_ifRewritten.cls ∈ TB ∧ Cond.codeWith yL_ifRewritten cL_ifRewritten 5 (some .int) [(0, 10, 13, 13), (0, 10, 17, 15)] ∈ TB ∧ (yL_ifRewritten.cls ≠ "java/lang/invoke/MethodHandle" ∧ yL_ifRewritten.cls ≠ "java/lang/invoke/VarHandle" ∧ (parseMethodDescriptor yL_ifRewritten.desc).map (fun d => d.parameters.length) = some 4) := ⟨tb 801 (by decide +kernel) (by decide +kernel), tb 802 (by decide +kernel) (by decide +kernel), tb 81 (by decide +kernel) (by decide +kernel), tb 803 (by decide +kernel) (by decide +kernel), by decide +kernel⟩
theorem kM_178 : cfV RL 178 yX5_ifRewritten cX5_ifRewritten 3 (some .int) 2 := ⟨⟨tb 1169 (by decide +kernel) (by decide +kernel), tb 87 (by decide +kernel) (by decide +kernel), tb 1172 (by decide +kernel) (by decide +kernel), by decide +kernel⟩, tb 1170 (by decide +kernel) (by decide +kernel), tb 1171 (by decide +kernel) (by decide +kernel)⟩
theorem kH_179 : Cond.methodLink RL 179 yL_shortest ∈ TB ∧ Cond.static yL_shortest ∈ TB ∧ Cond.initialized yL_shortest.cls ∈ TB ∧ Cond.codeWith yL_shortest cL_shortest 4 (some .int) [(0, 9, 12, 13)] ∈ TB ∧ (yL_shortest.cls ≠ "java/lang/invoke/MethodHandle" ∧ yL_shortest.cls ≠ "java/lang/invoke/VarHandle" ∧ (parseMethodDescriptor yL_shortest.desc).map (fun d => d.parameters.length) = some 3) := ⟨tb 808 (by decide +kernel) (by decide +kernel), tb 809 (by decide +kernel) (by decide +kernel), tb 81 (by decide +kernel) (by decide +kernel), tb 810 (by decide +kernel) (by decide +kernel), by decide +kernel⟩
theorem kM_181 : cfV RL 181 yX5_shortest cX5_shortest 2 (some .int) 1 := ⟨⟨tb 1177 (by decide +kernel) (by decide +kernel), tb 87 (by decide +kernel) (by decide +kernel), tb 1180 (by decide +kernel) (by decide +kernel), by decide +kernel⟩, tb 1178 (by decide +kernel) (by decide +kernel), tb 1179 (by decide +kernel) (by decide +kernel)⟩
theorem kM_182 : cfV RL 182 yX4_openShare cX4_openShare 4 (some .double) 0 := ⟨⟨tb 267 (by decide +kernel) (by decide +kernel), tb 82 (by decide +kernel) (by decide +kernel), tb 270 (by decide +kernel) (by decide +kernel), by decide +kernel⟩, tb 268 (by decide +kernel) (by decide +kernel), tb 269 (by decide +kernel) (by decide +kernel)⟩
theorem kM_186 : cfV RL 186 yX5_openShare cX5_openShare 1 (some .double) 0 := ⟨⟨tb 1189 (by decide +kernel) (by decide +kernel), tb 87 (by decide +kernel) (by decide +kernel), tb 1192 (by decide +kernel) (by decide +kernel), by decide +kernel⟩, tb 1190 (by decide +kernel) (by decide +kernel), tb 1191 (by decide +kernel) (by decide +kernel)⟩
theorem kM_187 : cfV RL 187 yX4_digest cX4_digest 4 (some .long) 0 := ⟨⟨tb 283 (by decide +kernel) (by decide +kernel), tb 82 (by decide +kernel) (by decide +kernel), tb 286 (by decide +kernel) (by decide +kernel), by decide +kernel⟩, tb 284 (by decide +kernel) (by decide +kernel), tb 285 (by decide +kernel) (by decide +kernel)⟩
theorem kM_191 : cfV RL 191 yX5_digest cX5_digest 4 (some .long) 0 := ⟨⟨tb 1197 (by decide +kernel) (by decide +kernel), tb 87 (by decide +kernel) (by decide +kernel), tb 1200 (by decide +kernel) (by decide +kernel), by decide +kernel⟩, tb 1198 (by decide +kernel) (by decide +kernel), tb 1199 (by decide +kernel) (by decide +kernel)⟩
def St0 (Rel : CS → MS → Prop) : Prop := ∀ (st : CS) (ms : MS), Rel st ms → ∀ x0 x1 x2 : Int32, okI (fun z => f4_constant z x0 x1 x2) (fun z => f5_constant z x0 x1 x2) [0, 1] Rel st ms
def St1 (Rel : CS → MS → Prop) : Prop := ∀ (st : CS) (ms : MS), Rel st ms → ∀ x0 x1 x2 : Int32, okI (fun z => f4_variable z x0 x1 x2) (fun z => f5_variable z x0 x1 x2) [0, 1] Rel st ms
def St2 (Rel : CS → MS → Prop) : Prop := ∀ (st : CS) (ms : MS), Rel st ms → ∀ x0 x1 : Int32, okI (fun z => f4_multiply z x0 x1) (fun z => f5_multiply z x0 x1) [0, 2] Rel st ms
def St3 (Rel : CS → MS → Prop) : Prop := ∀ (st : CS) (ms : MS), Rel st ms → ∀ x0 : Int32, okI (fun z => f4_rewrite z x0) (fun z => f5_rewrite z x0) [1, 2] Rel st ms
def St4 (Rel : CS → MS → Prop) : Prop := ∀ (st : CS) (ms : MS), Rel st ms → ∀ x0 x1 : Int32, okI (fun z => f4_cancel z x0 x1) (fun z => f5_cancel z x0 x1) [0] Rel st ms
def St5 (Rel : CS → MS → Prop) : Prop := ∀ (st : CS) (ms : MS), Rel st ms → ∀ x0 x1 : Int32, okI (fun z => f4_set z x0 x1) (fun z => f5_set z x0 x1) [0, 1] Rel st ms
def St6 (Rel : CS → MS → Prop) : Prop := ∀ (st : CS) (ms : MS), Rel st ms → ∀ x0 : Int32, okI (fun z => f4_append z x0) (fun z => f5_append z x0) [1, 2] Rel st ms
def St7 (Rel : CS → MS → Prop) : Prop := ∀ (st : CS) (ms : MS), Rel st ms → (f4_clearBuffer st).2 = (f5_clearBuffer ms).2 ∧ Rel (f4_clearBuffer st).1 (f5_clearBuffer ms).1
def St8 (Rel : CS → MS → Prop) : Prop := ∀ (st : CS) (ms : MS), Rel st ms → ∃ (r2 : Int32) (ms' : MS) (b2 : Int32), f4_firstError st = some r2 ∧ f5_firstError ms = some (ms', b2) ∧ r2 = b2 ∧ Rel st ms'
def St9 (Rel : CS → MS → Prop) : Prop := ∀ (st : CS) (ms : MS), Rel st ms → ∀ x0 : Int32, okI (fun z => f4_read z x0) (fun z => f5_read z x0) [0, 1, 2] Rel st ms
def St10 (Rel : CS → MS → Prop) : Prop := ∀ (st : CS) (ms : MS), Rel st ms → ∀ x0 : Int32, okI (fun z => f4_take z x0) (fun z => f5_take z x0) [0] Rel st ms
def St11 (Rel : CS → MS → Prop) : Prop := ∀ (st : CS) (ms : MS), Rel st ms → ∀ x0 : Int32, okI (fun z => f4_restore z x0) (fun z => f5_restore z x0) [0, 2] Rel st ms
def St12 (Rel : CS → MS → Prop) : Prop := ∀ (st : CS) (ms : MS), Rel st ms → okI (fun z => f4_undo z) (fun z => f5_undo z) [2] Rel st ms
def St13 (Rel : CS → MS → Prop) : Prop := ∀ (st : CS) (ms : MS), Rel st ms → ∀ x0 x1 : Int32, okI (fun z => f4_times z x0 x1) (fun z => f5_times z x0 x1) [0] Rel st ms
def St14 (Rel : CS → MS → Prop) : Prop := ∀ (st : CS) (ms : MS), Rel st ms → ∀ x0 : Int32, okI (fun z => f4_rest z x0) (fun z => f5_rest z x0) [0] Rel st ms
def St15 (Rel : CS → MS → Prop) : Prop := ∀ (st : CS) (ms : MS), Rel st ms → ∀ x0 : Int32, okI (fun z => f4_solutions z x0) (fun z => f5_solutions z x0) [0] Rel st ms
def St16 (Rel : CS → MS → Prop) : Prop := ∀ (st : CS) (ms : MS), Rel st ms → ∀ x0 : Int32, okJ (fun z => f4_matchers z x0) (fun z => f5_matchers z x0) [1] Rel st ms
def St17 (Rel : CS → MS → Prop) : Prop := ∀ (st : CS) (ms : MS), Rel st ms → ∀ x0 x1 x2 : Int32, okI (fun z => f4_value z x0 x1 x2) (fun z => f5_value z x0 x1 x2) [0, 1] Rel st ms
def St18 (Rel : CS → MS → Prop) : Prop := ∀ (st : CS) (ms : MS), Rel st ms → ∀ x0 x1 : Int32, okI (fun z => f4_least z x0 x1) (fun z => f5_least z x0 x1) [0, 1] Rel st ms
def St19 (Rel : CS → MS → Prop) : Prop := ∀ (st : CS) (ms : MS), Rel st ms → ∀ x0 x1 x2 x3 : Int32, okI (fun z => f4_sums z x0 x1 x2 x3) (fun z => f5_sums z x0 x1 x2 x3) [1] Rel st ms
def St20 (Rel : CS → MS → Prop) : Prop := ∀ (st : CS) (ms : MS), Rel st ms → ∀ x0 : Int32, okI (fun z => f4_count z x0) (fun z => f5_count z x0) [1] Rel st ms
def St21 (Rel : CS → MS → Prop) : Prop := ∀ (st : CS) (ms : MS), Rel st ms → ∀ x0 : Int32, okI (fun z => f4_setting z x0) (fun z => f5_setting z x0) [0] Rel st ms
def St22 (Rel : CS → MS → Prop) : Prop := ∀ (st : CS) (ms : MS), Rel st ms → ∀ x0 x1 : Int32, okJ (fun z => f4_ifMore z x0 x1) (fun z => f5_ifMore z x0 x1) [0, 1] Rel st ms
def St23 (Rel : CS → MS → Prop) : Prop := ∀ (st : CS) (ms : MS), Rel st ms → ∀ x0 x1 : Int32, okI (fun z => f4_ifRewritten z x0 x1) (fun z => f5_ifRewritten z x0 x1) [0, 1] Rel st ms
def St24 (Rel : CS → MS → Prop) : Prop := ∀ (st : CS) (ms : MS), Rel st ms → ∀ x0 : Int32, okI (fun z => f4_shortest z x0) (fun z => f5_shortest z x0) [0] Rel st ms
def St25 (Rel : CS → MS → Prop) : Prop := ∀ (st : CS) (ms : MS), Rel st ms → ∃ (r2 : UInt64) (ms' : MS) (b2 : UInt64), f4_openShare st = some r2 ∧ f5_openShare ms = some (ms', b2) ∧ Op.cmpValue (FP.dcmp r2 b2) CmpOp.l = 0 ∧ Rel st ms'
def St26 (Rel : CS → MS → Prop) : Prop := ∀ (st : CS) (ms : MS), Rel st ms → ∃ (st' : CS) (r2 : Int64) (ms' : MS) (b2 : Int64), f4_digest st = some (st', r2) ∧ f5_digest ms = some (ms', b2) ∧ r2 = b2 ∧ Rel st' ms'
set_option maxHeartbeats 4000000 in
set_option maxRecDepth 100000 in
theorem law_0 {p : Program} {l : Launch} {e : Env} {s : State} {m : MethodId} {below : List Frame} {meth : Method} {c : Code} {H : Heap} {locs : List Loc} {cells slots : Nat} {Q : State → Prop} {ls : Array Slot} {D : va_G} {g : Nat → ClassId} {A : Nat → Prop} {b L : Nat} {xs : Nat → Int32} {a bb : Nat → Nat} {ob : Nat} {st : CS} {ms : MS} {w : Nat → Int64} {i : Nat} {Rel : CS → MS → Prop} (C : LC p l s m c b L xs D g A) (hi : i + 5 ≤ L) (ok : okI (fun z => f4_constant z (xs (i + 1)) (xs (i + 2)) (xs (i + 3))) (fun z => f5_constant z (xs (i + 1)) (xs (i + 2)) (xs (i + 3))) [0, 1] Rel st ms) (I : wk D (lW g a bb ob st ms w) A s.heap H locs) (hl : lv_has ls 9 [(4, .int (nI i)), (3, .ref ob), (2, .ref (bb 0)), (1, .ref (a 0)), (0, .ref b)]) (hcs : cells + 1 ≤ room_1.cells ∧ slots + 6 ≤ room_1.slots) (kk : ∀ (st' : CS) (ms' : MS) (w' : Nat → Int64) (H : Heap) (locs : List Loc) (ls : Array Slot), Rel st' ms' → wk D (lW g a bb ob st' ms' w') A s.heap H locs → lv_has ls 9 [(4, .int (nI i)), (3, .ref ob), (2, .ref (bb 0)), (1, .ref (a 0)), (0, .ref b)] → W p l e room_1 s m #[Value.ref b] below meth c H locs (cells + 1) (slots + 6) Q (F0 m 1707 ls [])) : W p l e room_1 s m #[Value.ref b] below meth c H locs cells slots Q (F0 m 160 ls []) := by
  obtain ⟨E, xw, nc, hX, hbl, hbA, hL, hl0⟩ := id C
  have hx := E.1.1
  have hb := E.1.2.1
  obtain ⟨st', res, ms', b2, v, hf, hm, hv, hth, hbb, hR⟩ := ok
  have hc9 : cells + 1 ≤ room_1.cells ∧ slots + 6 ≤ room_1.slots := hcs
  refine lv_aload_n hx hb dL_law_160 rfl (lv_at hl 3 rfl) ?_
  refine lv_aload_n hx hb dL_law_161 rfl (lv_at hl 4 rfl) ?_
  refine lv_iload hx hb dL_law_162 (lv_at hl 0 rfl) ?_
  refine lv_iconst (v := (1 : Int32)) hx hb dL_law_164 (by decide) ?_
  refine lv_iadd hx hb dL_law_165 ?_
  refine l_sld (i := i) (k := 1) C I (by omega) (nI_k i 1 rfl) dL_law_166 ?_
  refine lv_aload_n hx hb dL_law_167 rfl (lv_at hl 4 rfl) ?_
  refine lv_iload hx hb dL_law_168 (lv_at hl 0 rfl) ?_
  refine lv_iconst (v := (2 : Int32)) hx hb dL_law_170 (by decide) ?_
  refine lv_iadd hx hb dL_law_171 ?_
  refine l_sld (i := i) (k := 2) C I (by omega) (nI_k i 2 rfl) dL_law_172 ?_
  refine lv_aload_n hx hb dL_law_173 rfl (lv_at hl 4 rfl) ?_
  refine lv_iload hx hb dL_law_174 (lv_at hl 0 rfl) ?_
  refine lv_iconst (v := (3 : Int32)) hx hb dL_law_176 (by decide) ?_
  refine lv_iadd hx hb dL_law_177 ?_
  refine l_sld (i := i) (k := 3) C I (by omega) (nI_k i 3 rfl) dL_law_178 ?_
  refine lv_aload_n hx hb dL_law_179 rfl (lv_at hl 1 rfl) ?_
  refine r_callH (ws' := cW g a st' ++ oW g ob (houtI w res)) (As := [.ref (a 0), .int (xs (i + 1)), .int (xs (i + 2)), .int (xs (i + 3)), .ref ob]) (rest := []) xw nc rfl E I hl.1 kH_95 (h_constant hl0 hf hv) (by rw [List.map_append, List.map_append]; rfl) rfl rfl (Nat.le_of_ble_eq_true rfl) ⟨(Nat.le_of_ble_eq_true rfl), (Nat.le_of_ble_eq_true rfl)⟩ hcs dL_law_180 (fun H locs I => ?_)
  refine lv_istore (lv' := [(5, .int v), (4, .int (nI i)), (3, .ref ob), (2, .ref (bb 0)), (1, .ref (a 0)), (0, .ref b)]) hx hb dL_law_183 hl (by decide) rfl (fun ls hl => ?_)
  refine lv_aload_n hx hb dL_law_185 rfl (lv_at hl 3 rfl) ?_
  refine lv_aload_n hx hb dL_law_186 rfl (lv_at hl 5 rfl) ?_
  refine lv_iload hx hb dL_law_187 (lv_at hl 1 rfl) ?_
  refine lv_iconst (v := (1 : Int32)) hx hb dL_law_189 (by decide) ?_
  refine lv_iadd hx hb dL_law_190 ?_
  refine l_sld (i := i) (k := 1) C I (by omega) (nI_k i 1 rfl) dL_law_191 ?_
  refine lv_aload_n hx hb dL_law_192 rfl (lv_at hl 5 rfl) ?_
  refine lv_iload hx hb dL_law_193 (lv_at hl 1 rfl) ?_
  refine lv_iconst (v := (2 : Int32)) hx hb dL_law_195 (by decide) ?_
  refine lv_iadd hx hb dL_law_196 ?_
  refine l_sld (i := i) (k := 2) C I (by omega) (nI_k i 2 rfl) dL_law_197 ?_
  refine lv_aload_n hx hb dL_law_198 rfl (lv_at hl 5 rfl) ?_
  refine lv_iload hx hb dL_law_199 (lv_at hl 1 rfl) ?_
  refine lv_iconst (v := (3 : Int32)) hx hb dL_law_201 (by decide) ?_
  refine lv_iadd hx hb dL_law_202 ?_
  refine l_sld (i := i) (k := 3) C I (by omega) (nI_k i 3 rfl) dL_law_203 ?_
  have I := wk_comm I
  refine r_callF1 (ws' := mW g bb ms') (As := [.int (xs (i + 1)), .int (xs (i + 2)), .int (xs (i + 3))]) (v := .int b2) (rest := []) E I hl.1 kM_100 (c5_constant hm) mW_k (q0 := 0) rfl rfl rfl rfl (Nat.le_of_ble_eq_true rfl) ⟨(Nat.le_of_ble_eq_true rfl), (Nat.le_of_ble_eq_true rfl)⟩ ⟨hc9.1, hc9.2⟩ dL_law_204 (fun H locs I => ?_)
  have I := wk_comm I
  refine lv_istore (lv' := [(6, .int b2), (5, .int v), (4, .int (nI i)), (3, .ref ob), (2, .ref (bb 0)), (1, .ref (a 0)), (0, .ref b)]) hx hb dL_law_207 hl (by decide) rfl (fun ls hl => ?_)
  refine lv_aload_n hx hb dL_law_209 rfl (lv_at hl 4 rfl) ?_
  have I := wk_comm I
  refine r_callF1 (ws' := mW g bb ms') (As := []) (v := .int (f5_thrown ms')) (rest := []) E I hl.1 kM_101 (c5_thrown rfl) mW_k (q0 := 0) rfl rfl rfl rfl (Nat.le_of_ble_eq_true rfl) ⟨(Nat.le_of_ble_eq_true rfl), (Nat.le_of_ble_eq_true rfl)⟩ ⟨hc9.1, hc9.2⟩ dL_law_210 (fun H locs I => ?_)
  have I := wk_comm I
  refine lv_iload hx hb dL_law_213 (lv_at hl 1 rfl) ?_
  refine lv_icmp_eq (tgt := 220) hx hb dL_law_215 (by decide) (fun _ => ?_) (fun hc => absurd hth hc)
  refine lv_iload hx hb dL_law_220 (lv_at hl 1 rfl) ?_
  refine lv_if_ne (tgt := 237) hx hb dL_law_222 (by decide) (fun hv0 => ?_) (fun hv0 => ?_)
  · refine lv_goto (tgt := 1707) hx hb dL_law_237 (by decide) ?_
    exact kk _ _ _ _ _ _ hR I (lv_sub hl [2, 3, 4, 5, 6] rfl)
  obtain ⟨r9, hr9⟩ := hco_0 (by decide) hv hv0
  have hb9 := hbb r9 hr9
  refine lv_aload_n hx hb dL_law_225 rfl (lv_at hl 3 rfl) ?_
  refine lv_iconst (v := (0 : Int32)) hx hb dL_law_226 (by decide) ?_
  refine r_lald E I 50 (f := houtI w res) rfl (by decide) dL_law_227 ?_
  refine lv_iload hx hb dL_law_228 (lv_at hl 0 rfl) ?_
  refine lv_i2l (v := b2.toInt64) hx hb dL_law_230 rfl ?_
  refine W.lcmp hx hb dL_law_231 ?_
  refine lv_if_eq (tgt := 237) hx hb dL_law_232 (by decide) (fun _ => ?_) (fun hc => absurd (lg_cmp_self (by rw [hr9, houtI_at, hb9])) hc)
  refine lv_goto (tgt := 1707) hx hb dL_law_237 (by decide) ?_
  exact kk _ _ _ _ _ _ hR I (lv_sub hl [2, 3, 4, 5, 6] rfl)
set_option maxHeartbeats 4000000 in
set_option maxRecDepth 100000 in
theorem law_1 {p : Program} {l : Launch} {e : Env} {s : State} {m : MethodId} {below : List Frame} {meth : Method} {c : Code} {H : Heap} {locs : List Loc} {cells slots : Nat} {Q : State → Prop} {ls : Array Slot} {D : va_G} {g : Nat → ClassId} {A : Nat → Prop} {b L : Nat} {xs : Nat → Int32} {a bb : Nat → Nat} {ob : Nat} {st : CS} {ms : MS} {w : Nat → Int64} {i : Nat} {Rel : CS → MS → Prop} (C : LC p l s m c b L xs D g A) (hi : i + 5 ≤ L) (ok : okI (fun z => f4_variable z (xs (i + 1)) (xs (i + 2)) (xs (i + 3))) (fun z => f5_variable z (xs (i + 1)) (xs (i + 2)) (xs (i + 3))) [0, 1] Rel st ms) (I : wk D (lW g a bb ob st ms w) A s.heap H locs) (hl : lv_has ls 9 [(4, .int (nI i)), (3, .ref ob), (2, .ref (bb 0)), (1, .ref (a 0)), (0, .ref b)]) (hcs : cells + 1 ≤ room_1.cells ∧ slots + 6 ≤ room_1.slots) (kk : ∀ (st' : CS) (ms' : MS) (w' : Nat → Int64) (H : Heap) (locs : List Loc) (ls : Array Slot), Rel st' ms' → wk D (lW g a bb ob st' ms' w') A s.heap H locs → lv_has ls 9 [(4, .int (nI i)), (3, .ref ob), (2, .ref (bb 0)), (1, .ref (a 0)), (0, .ref b)] → W p l e room_1 s m #[Value.ref b] below meth c H locs (cells + 1) (slots + 6) Q (F0 m 1707 ls [])) : W p l e room_1 s m #[Value.ref b] below meth c H locs cells slots Q (F0 m 240 ls []) := by
  obtain ⟨E, xw, nc, hX, hbl, hbA, hL, hl0⟩ := id C
  have hx := E.1.1
  have hb := E.1.2.1
  obtain ⟨st', res, ms', b2, v, hf, hm, hv, hth, hbb, hR⟩ := ok
  have hc9 : cells + 1 ≤ room_1.cells ∧ slots + 6 ≤ room_1.slots := hcs
  refine lv_aload_n hx hb dL_law_240 rfl (lv_at hl 3 rfl) ?_
  refine lv_aload_n hx hb dL_law_241 rfl (lv_at hl 4 rfl) ?_
  refine lv_iload hx hb dL_law_242 (lv_at hl 0 rfl) ?_
  refine lv_iconst (v := (1 : Int32)) hx hb dL_law_244 (by decide) ?_
  refine lv_iadd hx hb dL_law_245 ?_
  refine l_sld (i := i) (k := 1) C I (by omega) (nI_k i 1 rfl) dL_law_246 ?_
  refine lv_aload_n hx hb dL_law_247 rfl (lv_at hl 4 rfl) ?_
  refine lv_iload hx hb dL_law_248 (lv_at hl 0 rfl) ?_
  refine lv_iconst (v := (2 : Int32)) hx hb dL_law_250 (by decide) ?_
  refine lv_iadd hx hb dL_law_251 ?_
  refine l_sld (i := i) (k := 2) C I (by omega) (nI_k i 2 rfl) dL_law_252 ?_
  refine lv_aload_n hx hb dL_law_253 rfl (lv_at hl 4 rfl) ?_
  refine lv_iload hx hb dL_law_254 (lv_at hl 0 rfl) ?_
  refine lv_iconst (v := (3 : Int32)) hx hb dL_law_256 (by decide) ?_
  refine lv_iadd hx hb dL_law_257 ?_
  refine l_sld (i := i) (k := 3) C I (by omega) (nI_k i 3 rfl) dL_law_258 ?_
  refine lv_aload_n hx hb dL_law_259 rfl (lv_at hl 1 rfl) ?_
  refine r_callH (ws' := cW g a st' ++ oW g ob (houtI w res)) (As := [.ref (a 0), .int (xs (i + 1)), .int (xs (i + 2)), .int (xs (i + 3)), .ref ob]) (rest := []) xw nc rfl E I hl.1 kH_104 (h_variable hl0 hf hv) (by rw [List.map_append, List.map_append]; rfl) rfl rfl (Nat.le_of_ble_eq_true rfl) ⟨(Nat.le_of_ble_eq_true rfl), (Nat.le_of_ble_eq_true rfl)⟩ hcs dL_law_260 (fun H locs I => ?_)
  refine lv_istore (lv' := [(5, .int v), (4, .int (nI i)), (3, .ref ob), (2, .ref (bb 0)), (1, .ref (a 0)), (0, .ref b)]) hx hb dL_law_263 hl (by decide) rfl (fun ls hl => ?_)
  refine lv_aload_n hx hb dL_law_265 rfl (lv_at hl 3 rfl) ?_
  refine lv_aload_n hx hb dL_law_266 rfl (lv_at hl 5 rfl) ?_
  refine lv_iload hx hb dL_law_267 (lv_at hl 1 rfl) ?_
  refine lv_iconst (v := (1 : Int32)) hx hb dL_law_269 (by decide) ?_
  refine lv_iadd hx hb dL_law_270 ?_
  refine l_sld (i := i) (k := 1) C I (by omega) (nI_k i 1 rfl) dL_law_271 ?_
  refine lv_aload_n hx hb dL_law_272 rfl (lv_at hl 5 rfl) ?_
  refine lv_iload hx hb dL_law_273 (lv_at hl 1 rfl) ?_
  refine lv_iconst (v := (2 : Int32)) hx hb dL_law_275 (by decide) ?_
  refine lv_iadd hx hb dL_law_276 ?_
  refine l_sld (i := i) (k := 2) C I (by omega) (nI_k i 2 rfl) dL_law_277 ?_
  refine lv_aload_n hx hb dL_law_278 rfl (lv_at hl 5 rfl) ?_
  refine lv_iload hx hb dL_law_279 (lv_at hl 1 rfl) ?_
  refine lv_iconst (v := (3 : Int32)) hx hb dL_law_281 (by decide) ?_
  refine lv_iadd hx hb dL_law_282 ?_
  refine l_sld (i := i) (k := 3) C I (by omega) (nI_k i 3 rfl) dL_law_283 ?_
  have I := wk_comm I
  refine r_callF1 (ws' := mW g bb ms') (As := [.int (xs (i + 1)), .int (xs (i + 2)), .int (xs (i + 3))]) (v := .int b2) (rest := []) E I hl.1 kM_106 (c5_variable hm) mW_k (q0 := 0) rfl rfl rfl rfl (Nat.le_of_ble_eq_true rfl) ⟨(Nat.le_of_ble_eq_true rfl), (Nat.le_of_ble_eq_true rfl)⟩ ⟨hc9.1, hc9.2⟩ dL_law_284 (fun H locs I => ?_)
  have I := wk_comm I
  refine lv_istore (lv' := [(6, .int b2), (5, .int v), (4, .int (nI i)), (3, .ref ob), (2, .ref (bb 0)), (1, .ref (a 0)), (0, .ref b)]) hx hb dL_law_287 hl (by decide) rfl (fun ls hl => ?_)
  refine lv_aload_n hx hb dL_law_289 rfl (lv_at hl 4 rfl) ?_
  have I := wk_comm I
  refine r_callF1 (ws' := mW g bb ms') (As := []) (v := .int (f5_thrown ms')) (rest := []) E I hl.1 kM_101 (c5_thrown rfl) mW_k (q0 := 0) rfl rfl rfl rfl (Nat.le_of_ble_eq_true rfl) ⟨(Nat.le_of_ble_eq_true rfl), (Nat.le_of_ble_eq_true rfl)⟩ ⟨hc9.1, hc9.2⟩ dL_law_290 (fun H locs I => ?_)
  have I := wk_comm I
  refine lv_iload hx hb dL_law_293 (lv_at hl 1 rfl) ?_
  refine lv_icmp_eq (tgt := 300) hx hb dL_law_295 (by decide) (fun _ => ?_) (fun hc => absurd hth hc)
  refine lv_iload hx hb dL_law_300 (lv_at hl 1 rfl) ?_
  refine lv_if_ne (tgt := 317) hx hb dL_law_302 (by decide) (fun hv0 => ?_) (fun hv0 => ?_)
  · refine lv_goto (tgt := 1707) hx hb dL_law_317 (by decide) ?_
    exact kk _ _ _ _ _ _ hR I (lv_sub hl [2, 3, 4, 5, 6] rfl)
  obtain ⟨r9, hr9⟩ := hco_0 (by decide) hv hv0
  have hb9 := hbb r9 hr9
  refine lv_aload_n hx hb dL_law_305 rfl (lv_at hl 3 rfl) ?_
  refine lv_iconst (v := (0 : Int32)) hx hb dL_law_306 (by decide) ?_
  refine r_lald E I 50 (f := houtI w res) rfl (by decide) dL_law_307 ?_
  refine lv_iload hx hb dL_law_308 (lv_at hl 0 rfl) ?_
  refine lv_i2l (v := b2.toInt64) hx hb dL_law_310 rfl ?_
  refine W.lcmp hx hb dL_law_311 ?_
  refine lv_if_eq (tgt := 317) hx hb dL_law_312 (by decide) (fun _ => ?_) (fun hc => absurd (lg_cmp_self (by rw [hr9, houtI_at, hb9])) hc)
  refine lv_goto (tgt := 1707) hx hb dL_law_317 (by decide) ?_
  exact kk _ _ _ _ _ _ hR I (lv_sub hl [2, 3, 4, 5, 6] rfl)
set_option maxHeartbeats 4000000 in
set_option maxRecDepth 100000 in
theorem law_2 {p : Program} {l : Launch} {e : Env} {s : State} {m : MethodId} {below : List Frame} {meth : Method} {c : Code} {H : Heap} {locs : List Loc} {cells slots : Nat} {Q : State → Prop} {ls : Array Slot} {D : va_G} {g : Nat → ClassId} {A : Nat → Prop} {b L : Nat} {xs : Nat → Int32} {a bb : Nat → Nat} {ob : Nat} {st : CS} {ms : MS} {w : Nat → Int64} {i : Nat} {Rel : CS → MS → Prop} (C : LC p l s m c b L xs D g A) (hi : i + 5 ≤ L) (ok : okI (fun z => f4_multiply z (xs (i + 1)) (xs (i + 2))) (fun z => f5_multiply z (xs (i + 1)) (xs (i + 2))) [0, 2] Rel st ms) (I : wk D (lW g a bb ob st ms w) A s.heap H locs) (hl : lv_has ls 9 [(4, .int (nI i)), (3, .ref ob), (2, .ref (bb 0)), (1, .ref (a 0)), (0, .ref b)]) (hcs : cells + 1 ≤ room_1.cells ∧ slots + 6 ≤ room_1.slots) (kk : ∀ (st' : CS) (ms' : MS) (w' : Nat → Int64) (H : Heap) (locs : List Loc) (ls : Array Slot), Rel st' ms' → wk D (lW g a bb ob st' ms' w') A s.heap H locs → lv_has ls 9 [(4, .int (nI i)), (3, .ref ob), (2, .ref (bb 0)), (1, .ref (a 0)), (0, .ref b)] → W p l e room_1 s m #[Value.ref b] below meth c H locs (cells + 1) (slots + 6) Q (F0 m 1707 ls [])) : W p l e room_1 s m #[Value.ref b] below meth c H locs cells slots Q (F0 m 320 ls []) := by
  obtain ⟨E, xw, nc, hX, hbl, hbA, hL, hl0⟩ := id C
  have hx := E.1.1
  have hb := E.1.2.1
  obtain ⟨st', res, ms', b2, v, hf, hm, hv, hth, hbb, hR⟩ := ok
  have hc9 : cells + 1 ≤ room_1.cells ∧ slots + 6 ≤ room_1.slots := hcs
  refine lv_aload_n hx hb dL_law_320 rfl (lv_at hl 3 rfl) ?_
  refine lv_aload_n hx hb dL_law_321 rfl (lv_at hl 4 rfl) ?_
  refine lv_iload hx hb dL_law_322 (lv_at hl 0 rfl) ?_
  refine lv_iconst (v := (1 : Int32)) hx hb dL_law_324 (by decide) ?_
  refine lv_iadd hx hb dL_law_325 ?_
  refine l_sld (i := i) (k := 1) C I (by omega) (nI_k i 1 rfl) dL_law_326 ?_
  refine lv_aload_n hx hb dL_law_327 rfl (lv_at hl 4 rfl) ?_
  refine lv_iload hx hb dL_law_328 (lv_at hl 0 rfl) ?_
  refine lv_iconst (v := (2 : Int32)) hx hb dL_law_330 (by decide) ?_
  refine lv_iadd hx hb dL_law_331 ?_
  refine l_sld (i := i) (k := 2) C I (by omega) (nI_k i 2 rfl) dL_law_332 ?_
  refine lv_aload_n hx hb dL_law_333 rfl (lv_at hl 1 rfl) ?_
  refine r_callH (ws' := cW g a st' ++ oW g ob (houtI w res)) (As := [.ref (a 0), .int (xs (i + 1)), .int (xs (i + 2)), .ref ob]) (rest := []) xw nc rfl E I hl.1 kH_107 (h_multiply hl0 hf hv) (by rw [List.map_append, List.map_append]; rfl) rfl rfl (Nat.le_of_ble_eq_true rfl) ⟨(Nat.le_of_ble_eq_true rfl), (Nat.le_of_ble_eq_true rfl)⟩ hcs dL_law_334 (fun H locs I => ?_)
  refine lv_istore (lv' := [(5, .int v), (4, .int (nI i)), (3, .ref ob), (2, .ref (bb 0)), (1, .ref (a 0)), (0, .ref b)]) hx hb dL_law_337 hl (by decide) rfl (fun ls hl => ?_)
  refine lv_aload_n hx hb dL_law_339 rfl (lv_at hl 3 rfl) ?_
  refine lv_aload_n hx hb dL_law_340 rfl (lv_at hl 5 rfl) ?_
  refine lv_iload hx hb dL_law_341 (lv_at hl 1 rfl) ?_
  refine lv_iconst (v := (1 : Int32)) hx hb dL_law_343 (by decide) ?_
  refine lv_iadd hx hb dL_law_344 ?_
  refine l_sld (i := i) (k := 1) C I (by omega) (nI_k i 1 rfl) dL_law_345 ?_
  refine lv_aload_n hx hb dL_law_346 rfl (lv_at hl 5 rfl) ?_
  refine lv_iload hx hb dL_law_347 (lv_at hl 1 rfl) ?_
  refine lv_iconst (v := (2 : Int32)) hx hb dL_law_349 (by decide) ?_
  refine lv_iadd hx hb dL_law_350 ?_
  refine l_sld (i := i) (k := 2) C I (by omega) (nI_k i 2 rfl) dL_law_351 ?_
  have I := wk_comm I
  refine r_callF1 (ws' := mW g bb ms') (As := [.int (xs (i + 1)), .int (xs (i + 2))]) (v := .int b2) (rest := []) E I hl.1 kM_110 (c5_multiply hm) mW_k (q0 := 0) rfl rfl rfl rfl (Nat.le_of_ble_eq_true rfl) ⟨(Nat.le_of_ble_eq_true rfl), (Nat.le_of_ble_eq_true rfl)⟩ ⟨hc9.1, hc9.2⟩ dL_law_352 (fun H locs I => ?_)
  have I := wk_comm I
  refine lv_istore (lv' := [(6, .int b2), (5, .int v), (4, .int (nI i)), (3, .ref ob), (2, .ref (bb 0)), (1, .ref (a 0)), (0, .ref b)]) hx hb dL_law_355 hl (by decide) rfl (fun ls hl => ?_)
  refine lv_aload_n hx hb dL_law_357 rfl (lv_at hl 4 rfl) ?_
  have I := wk_comm I
  refine r_callF1 (ws' := mW g bb ms') (As := []) (v := .int (f5_thrown ms')) (rest := []) E I hl.1 kM_101 (c5_thrown rfl) mW_k (q0 := 0) rfl rfl rfl rfl (Nat.le_of_ble_eq_true rfl) ⟨(Nat.le_of_ble_eq_true rfl), (Nat.le_of_ble_eq_true rfl)⟩ ⟨hc9.1, hc9.2⟩ dL_law_358 (fun H locs I => ?_)
  have I := wk_comm I
  refine lv_iload hx hb dL_law_361 (lv_at hl 1 rfl) ?_
  refine lv_icmp_eq (tgt := 368) hx hb dL_law_363 (by decide) (fun _ => ?_) (fun hc => absurd hth hc)
  refine lv_iload hx hb dL_law_368 (lv_at hl 1 rfl) ?_
  refine lv_if_ne (tgt := 385) hx hb dL_law_370 (by decide) (fun hv0 => ?_) (fun hv0 => ?_)
  · refine lv_goto (tgt := 1707) hx hb dL_law_385 (by decide) ?_
    exact kk _ _ _ _ _ _ hR I (lv_sub hl [2, 3, 4, 5, 6] rfl)
  obtain ⟨r9, hr9⟩ := hco_0 (by decide) hv hv0
  have hb9 := hbb r9 hr9
  refine lv_aload_n hx hb dL_law_373 rfl (lv_at hl 3 rfl) ?_
  refine lv_iconst (v := (0 : Int32)) hx hb dL_law_374 (by decide) ?_
  refine r_lald E I 50 (f := houtI w res) rfl (by decide) dL_law_375 ?_
  refine lv_iload hx hb dL_law_376 (lv_at hl 0 rfl) ?_
  refine lv_i2l (v := b2.toInt64) hx hb dL_law_378 rfl ?_
  refine W.lcmp hx hb dL_law_379 ?_
  refine lv_if_eq (tgt := 385) hx hb dL_law_380 (by decide) (fun _ => ?_) (fun hc => absurd (lg_cmp_self (by rw [hr9, houtI_at, hb9])) hc)
  refine lv_goto (tgt := 1707) hx hb dL_law_385 (by decide) ?_
  exact kk _ _ _ _ _ _ hR I (lv_sub hl [2, 3, 4, 5, 6] rfl)
set_option maxHeartbeats 4000000 in
set_option maxRecDepth 100000 in
theorem law_3 {p : Program} {l : Launch} {e : Env} {s : State} {m : MethodId} {below : List Frame} {meth : Method} {c : Code} {H : Heap} {locs : List Loc} {cells slots : Nat} {Q : State → Prop} {ls : Array Slot} {D : va_G} {g : Nat → ClassId} {A : Nat → Prop} {b L : Nat} {xs : Nat → Int32} {a bb : Nat → Nat} {ob : Nat} {st : CS} {ms : MS} {w : Nat → Int64} {i : Nat} {Rel : CS → MS → Prop} (C : LC p l s m c b L xs D g A) (hi : i + 5 ≤ L) (ok : okI (fun z => f4_rewrite z (xs (i + 1))) (fun z => f5_rewrite z (xs (i + 1))) [1, 2] Rel st ms) (I : wk D (lW g a bb ob st ms w) A s.heap H locs) (hl : lv_has ls 9 [(4, .int (nI i)), (3, .ref ob), (2, .ref (bb 0)), (1, .ref (a 0)), (0, .ref b)]) (hcs : cells + 1 ≤ room_1.cells ∧ slots + 6 ≤ room_1.slots) (kk : ∀ (st' : CS) (ms' : MS) (w' : Nat → Int64) (H : Heap) (locs : List Loc) (ls : Array Slot), Rel st' ms' → wk D (lW g a bb ob st' ms' w') A s.heap H locs → lv_has ls 9 [(4, .int (nI i)), (3, .ref ob), (2, .ref (bb 0)), (1, .ref (a 0)), (0, .ref b)] → W p l e room_1 s m #[Value.ref b] below meth c H locs (cells + 1) (slots + 6) Q (F0 m 1707 ls [])) : W p l e room_1 s m #[Value.ref b] below meth c H locs cells slots Q (F0 m 388 ls []) := by
  obtain ⟨E, xw, nc, hX, hbl, hbA, hL, hl0⟩ := id C
  have hx := E.1.1
  have hb := E.1.2.1
  obtain ⟨st', res, ms', b2, v, hf, hm, hv, hth, hbb, hR⟩ := ok
  have hc9 : cells + 1 ≤ room_1.cells ∧ slots + 6 ≤ room_1.slots := hcs
  refine lv_aload_n hx hb dL_law_388 rfl (lv_at hl 3 rfl) ?_
  refine lv_aload_n hx hb dL_law_389 rfl (lv_at hl 4 rfl) ?_
  refine lv_iload hx hb dL_law_390 (lv_at hl 0 rfl) ?_
  refine lv_iconst (v := (1 : Int32)) hx hb dL_law_392 (by decide) ?_
  refine lv_iadd hx hb dL_law_393 ?_
  refine l_sld (i := i) (k := 1) C I (by omega) (nI_k i 1 rfl) dL_law_394 ?_
  refine lv_aload_n hx hb dL_law_395 rfl (lv_at hl 1 rfl) ?_
  refine r_callH (ws' := cW g a st' ++ oW g ob (houtI w res)) (As := [.ref (a 0), .int (xs (i + 1)), .ref ob]) (rest := []) xw nc rfl E I hl.1 kH_111 (h_rewrite hl0 hf hv) (by rw [List.map_append, List.map_append]; rfl) rfl rfl (Nat.le_of_ble_eq_true rfl) ⟨(Nat.le_of_ble_eq_true rfl), (Nat.le_of_ble_eq_true rfl)⟩ hcs dL_law_396 (fun H locs I => ?_)
  refine lv_istore (lv' := [(5, .int v), (4, .int (nI i)), (3, .ref ob), (2, .ref (bb 0)), (1, .ref (a 0)), (0, .ref b)]) hx hb dL_law_399 hl (by decide) rfl (fun ls hl => ?_)
  refine lv_aload_n hx hb dL_law_401 rfl (lv_at hl 3 rfl) ?_
  refine lv_aload_n hx hb dL_law_402 rfl (lv_at hl 5 rfl) ?_
  refine lv_iload hx hb dL_law_403 (lv_at hl 1 rfl) ?_
  refine lv_iconst (v := (1 : Int32)) hx hb dL_law_405 (by decide) ?_
  refine lv_iadd hx hb dL_law_406 ?_
  refine l_sld (i := i) (k := 1) C I (by omega) (nI_k i 1 rfl) dL_law_407 ?_
  have I := wk_comm I
  refine r_callF1 (ws' := mW g bb ms') (As := [.int (xs (i + 1))]) (v := .int b2) (rest := []) E I hl.1 kM_114 (c5_rewrite hm) mW_k (q0 := 0) rfl rfl rfl rfl (Nat.le_of_ble_eq_true rfl) ⟨(Nat.le_of_ble_eq_true rfl), (Nat.le_of_ble_eq_true rfl)⟩ ⟨hc9.1, hc9.2⟩ dL_law_408 (fun H locs I => ?_)
  have I := wk_comm I
  refine lv_istore (lv' := [(6, .int b2), (5, .int v), (4, .int (nI i)), (3, .ref ob), (2, .ref (bb 0)), (1, .ref (a 0)), (0, .ref b)]) hx hb dL_law_411 hl (by decide) rfl (fun ls hl => ?_)
  refine lv_aload_n hx hb dL_law_413 rfl (lv_at hl 4 rfl) ?_
  have I := wk_comm I
  refine r_callF1 (ws' := mW g bb ms') (As := []) (v := .int (f5_thrown ms')) (rest := []) E I hl.1 kM_101 (c5_thrown rfl) mW_k (q0 := 0) rfl rfl rfl rfl (Nat.le_of_ble_eq_true rfl) ⟨(Nat.le_of_ble_eq_true rfl), (Nat.le_of_ble_eq_true rfl)⟩ ⟨hc9.1, hc9.2⟩ dL_law_414 (fun H locs I => ?_)
  have I := wk_comm I
  refine lv_iload hx hb dL_law_417 (lv_at hl 1 rfl) ?_
  refine lv_icmp_eq (tgt := 424) hx hb dL_law_419 (by decide) (fun _ => ?_) (fun hc => absurd hth hc)
  refine lv_iload hx hb dL_law_424 (lv_at hl 1 rfl) ?_
  refine lv_if_ne (tgt := 441) hx hb dL_law_426 (by decide) (fun hv0 => ?_) (fun hv0 => ?_)
  · refine lv_goto (tgt := 1707) hx hb dL_law_441 (by decide) ?_
    exact kk _ _ _ _ _ _ hR I (lv_sub hl [2, 3, 4, 5, 6] rfl)
  obtain ⟨r9, hr9⟩ := hco_0 (by decide) hv hv0
  have hb9 := hbb r9 hr9
  refine lv_aload_n hx hb dL_law_429 rfl (lv_at hl 3 rfl) ?_
  refine lv_iconst (v := (0 : Int32)) hx hb dL_law_430 (by decide) ?_
  refine r_lald E I 50 (f := houtI w res) rfl (by decide) dL_law_431 ?_
  refine lv_iload hx hb dL_law_432 (lv_at hl 0 rfl) ?_
  refine lv_i2l (v := b2.toInt64) hx hb dL_law_434 rfl ?_
  refine W.lcmp hx hb dL_law_435 ?_
  refine lv_if_eq (tgt := 441) hx hb dL_law_436 (by decide) (fun _ => ?_) (fun hc => absurd (lg_cmp_self (by rw [hr9, houtI_at, hb9])) hc)
  refine lv_goto (tgt := 1707) hx hb dL_law_441 (by decide) ?_
  exact kk _ _ _ _ _ _ hR I (lv_sub hl [2, 3, 4, 5, 6] rfl)
set_option maxHeartbeats 4000000 in
set_option maxRecDepth 100000 in
theorem law_4 {p : Program} {l : Launch} {e : Env} {s : State} {m : MethodId} {below : List Frame} {meth : Method} {c : Code} {H : Heap} {locs : List Loc} {cells slots : Nat} {Q : State → Prop} {ls : Array Slot} {D : va_G} {g : Nat → ClassId} {A : Nat → Prop} {b L : Nat} {xs : Nat → Int32} {a bb : Nat → Nat} {ob : Nat} {st : CS} {ms : MS} {w : Nat → Int64} {i : Nat} {Rel : CS → MS → Prop} (C : LC p l s m c b L xs D g A) (hi : i + 5 ≤ L) (ok : okI (fun z => f4_cancel z (xs (i + 1)) (xs (i + 2))) (fun z => f5_cancel z (xs (i + 1)) (xs (i + 2))) [0] Rel st ms) (I : wk D (lW g a bb ob st ms w) A s.heap H locs) (hl : lv_has ls 9 [(4, .int (nI i)), (3, .ref ob), (2, .ref (bb 0)), (1, .ref (a 0)), (0, .ref b)]) (hcs : cells + 1 ≤ room_1.cells ∧ slots + 6 ≤ room_1.slots) (kk : ∀ (st' : CS) (ms' : MS) (w' : Nat → Int64) (H : Heap) (locs : List Loc) (ls : Array Slot), Rel st' ms' → wk D (lW g a bb ob st' ms' w') A s.heap H locs → lv_has ls 9 [(4, .int (nI i)), (3, .ref ob), (2, .ref (bb 0)), (1, .ref (a 0)), (0, .ref b)] → W p l e room_1 s m #[Value.ref b] below meth c H locs (cells + 1) (slots + 6) Q (F0 m 1707 ls [])) : W p l e room_1 s m #[Value.ref b] below meth c H locs cells slots Q (F0 m 444 ls []) := by
  obtain ⟨E, xw, nc, hX, hbl, hbA, hL, hl0⟩ := id C
  have hx := E.1.1
  have hb := E.1.2.1
  obtain ⟨st', res, ms', b2, v, hf, hm, hv, hth, hbb, hR⟩ := ok
  have hc9 : cells + 1 ≤ room_1.cells ∧ slots + 6 ≤ room_1.slots := hcs
  refine lv_aload_n hx hb dL_law_444 rfl (lv_at hl 3 rfl) ?_
  refine lv_aload_n hx hb dL_law_445 rfl (lv_at hl 4 rfl) ?_
  refine lv_iload hx hb dL_law_446 (lv_at hl 0 rfl) ?_
  refine lv_iconst (v := (1 : Int32)) hx hb dL_law_448 (by decide) ?_
  refine lv_iadd hx hb dL_law_449 ?_
  refine l_sld (i := i) (k := 1) C I (by omega) (nI_k i 1 rfl) dL_law_450 ?_
  refine lv_aload_n hx hb dL_law_451 rfl (lv_at hl 4 rfl) ?_
  refine lv_iload hx hb dL_law_452 (lv_at hl 0 rfl) ?_
  refine lv_iconst (v := (2 : Int32)) hx hb dL_law_454 (by decide) ?_
  refine lv_iadd hx hb dL_law_455 ?_
  refine l_sld (i := i) (k := 2) C I (by omega) (nI_k i 2 rfl) dL_law_456 ?_
  refine lv_aload_n hx hb dL_law_457 rfl (lv_at hl 1 rfl) ?_
  refine r_callH (ws' := cW g a st' ++ oW g ob (houtI w res)) (As := [.ref (a 0), .int (xs (i + 1)), .int (xs (i + 2)), .ref ob]) (rest := []) xw nc rfl E I hl.1 kH_115 (h_cancel hl0 hf hv) (by rw [List.map_append, List.map_append]; rfl) rfl rfl (Nat.le_of_ble_eq_true rfl) ⟨(Nat.le_of_ble_eq_true rfl), (Nat.le_of_ble_eq_true rfl)⟩ hcs dL_law_458 (fun H locs I => ?_)
  refine lv_istore (lv' := [(5, .int v), (4, .int (nI i)), (3, .ref ob), (2, .ref (bb 0)), (1, .ref (a 0)), (0, .ref b)]) hx hb dL_law_461 hl (by decide) rfl (fun ls hl => ?_)
  refine lv_aload_n hx hb dL_law_463 rfl (lv_at hl 3 rfl) ?_
  refine lv_aload_n hx hb dL_law_464 rfl (lv_at hl 5 rfl) ?_
  refine lv_iload hx hb dL_law_465 (lv_at hl 1 rfl) ?_
  refine lv_iconst (v := (1 : Int32)) hx hb dL_law_467 (by decide) ?_
  refine lv_iadd hx hb dL_law_468 ?_
  refine l_sld (i := i) (k := 1) C I (by omega) (nI_k i 1 rfl) dL_law_469 ?_
  refine lv_aload_n hx hb dL_law_470 rfl (lv_at hl 5 rfl) ?_
  refine lv_iload hx hb dL_law_471 (lv_at hl 1 rfl) ?_
  refine lv_iconst (v := (2 : Int32)) hx hb dL_law_473 (by decide) ?_
  refine lv_iadd hx hb dL_law_474 ?_
  refine l_sld (i := i) (k := 2) C I (by omega) (nI_k i 2 rfl) dL_law_475 ?_
  have I := wk_comm I
  refine r_callF1 (ws' := mW g bb ms') (As := [.int (xs (i + 1)), .int (xs (i + 2))]) (v := .int b2) (rest := []) E I hl.1 kM_117 (c5_cancel hm) mW_k (q0 := 0) rfl rfl rfl rfl (Nat.le_of_ble_eq_true rfl) ⟨(Nat.le_of_ble_eq_true rfl), (Nat.le_of_ble_eq_true rfl)⟩ ⟨hc9.1, hc9.2⟩ dL_law_476 (fun H locs I => ?_)
  have I := wk_comm I
  refine lv_istore (lv' := [(6, .int b2), (5, .int v), (4, .int (nI i)), (3, .ref ob), (2, .ref (bb 0)), (1, .ref (a 0)), (0, .ref b)]) hx hb dL_law_479 hl (by decide) rfl (fun ls hl => ?_)
  refine lv_aload_n hx hb dL_law_481 rfl (lv_at hl 4 rfl) ?_
  have I := wk_comm I
  refine r_callF1 (ws' := mW g bb ms') (As := []) (v := .int (f5_thrown ms')) (rest := []) E I hl.1 kM_101 (c5_thrown rfl) mW_k (q0 := 0) rfl rfl rfl rfl (Nat.le_of_ble_eq_true rfl) ⟨(Nat.le_of_ble_eq_true rfl), (Nat.le_of_ble_eq_true rfl)⟩ ⟨hc9.1, hc9.2⟩ dL_law_482 (fun H locs I => ?_)
  have I := wk_comm I
  refine lv_iload hx hb dL_law_485 (lv_at hl 1 rfl) ?_
  refine lv_icmp_eq (tgt := 492) hx hb dL_law_487 (by decide) (fun _ => ?_) (fun hc => absurd hth hc)
  refine lv_iload hx hb dL_law_492 (lv_at hl 1 rfl) ?_
  refine lv_if_ne (tgt := 509) hx hb dL_law_494 (by decide) (fun hv0 => ?_) (fun hv0 => ?_)
  · refine lv_goto (tgt := 1707) hx hb dL_law_509 (by decide) ?_
    exact kk _ _ _ _ _ _ hR I (lv_sub hl [2, 3, 4, 5, 6] rfl)
  obtain ⟨r9, hr9⟩ := hco_0 (by decide) hv hv0
  have hb9 := hbb r9 hr9
  refine lv_aload_n hx hb dL_law_497 rfl (lv_at hl 3 rfl) ?_
  refine lv_iconst (v := (0 : Int32)) hx hb dL_law_498 (by decide) ?_
  refine r_lald E I 50 (f := houtI w res) rfl (by decide) dL_law_499 ?_
  refine lv_iload hx hb dL_law_500 (lv_at hl 0 rfl) ?_
  refine lv_i2l (v := b2.toInt64) hx hb dL_law_502 rfl ?_
  refine W.lcmp hx hb dL_law_503 ?_
  refine lv_if_eq (tgt := 509) hx hb dL_law_504 (by decide) (fun _ => ?_) (fun hc => absurd (lg_cmp_self (by rw [hr9, houtI_at, hb9])) hc)
  refine lv_goto (tgt := 1707) hx hb dL_law_509 (by decide) ?_
  exact kk _ _ _ _ _ _ hR I (lv_sub hl [2, 3, 4, 5, 6] rfl)
set_option maxHeartbeats 4000000 in
set_option maxRecDepth 100000 in
theorem law_5 {p : Program} {l : Launch} {e : Env} {s : State} {m : MethodId} {below : List Frame} {meth : Method} {c : Code} {H : Heap} {locs : List Loc} {cells slots : Nat} {Q : State → Prop} {ls : Array Slot} {D : va_G} {g : Nat → ClassId} {A : Nat → Prop} {b L : Nat} {xs : Nat → Int32} {a bb : Nat → Nat} {ob : Nat} {st : CS} {ms : MS} {w : Nat → Int64} {i : Nat} {Rel : CS → MS → Prop} (C : LC p l s m c b L xs D g A) (hi : i + 5 ≤ L) (ok : okI (fun z => f4_set z (xs (i + 1)) (xs (i + 2))) (fun z => f5_set z (xs (i + 1)) (xs (i + 2))) [0, 1] Rel st ms) (I : wk D (lW g a bb ob st ms w) A s.heap H locs) (hl : lv_has ls 9 [(4, .int (nI i)), (3, .ref ob), (2, .ref (bb 0)), (1, .ref (a 0)), (0, .ref b)]) (hcs : cells + 1 ≤ room_1.cells ∧ slots + 6 ≤ room_1.slots) (kk : ∀ (st' : CS) (ms' : MS) (w' : Nat → Int64) (H : Heap) (locs : List Loc) (ls : Array Slot), Rel st' ms' → wk D (lW g a bb ob st' ms' w') A s.heap H locs → lv_has ls 9 [(4, .int (nI i)), (3, .ref ob), (2, .ref (bb 0)), (1, .ref (a 0)), (0, .ref b)] → W p l e room_1 s m #[Value.ref b] below meth c H locs (cells + 1) (slots + 6) Q (F0 m 1707 ls [])) : W p l e room_1 s m #[Value.ref b] below meth c H locs cells slots Q (F0 m 512 ls []) := by
  obtain ⟨E, xw, nc, hX, hbl, hbA, hL, hl0⟩ := id C
  have hx := E.1.1
  have hb := E.1.2.1
  obtain ⟨st', res, ms', b2, v, hf, hm, hv, hth, hbb, hR⟩ := ok
  have hc9 : cells + 1 ≤ room_1.cells ∧ slots + 6 ≤ room_1.slots := hcs
  refine lv_aload_n hx hb dL_law_512 rfl (lv_at hl 3 rfl) ?_
  refine lv_aload_n hx hb dL_law_513 rfl (lv_at hl 4 rfl) ?_
  refine lv_iload hx hb dL_law_514 (lv_at hl 0 rfl) ?_
  refine lv_iconst (v := (1 : Int32)) hx hb dL_law_516 (by decide) ?_
  refine lv_iadd hx hb dL_law_517 ?_
  refine l_sld (i := i) (k := 1) C I (by omega) (nI_k i 1 rfl) dL_law_518 ?_
  refine lv_aload_n hx hb dL_law_519 rfl (lv_at hl 4 rfl) ?_
  refine lv_iload hx hb dL_law_520 (lv_at hl 0 rfl) ?_
  refine lv_iconst (v := (2 : Int32)) hx hb dL_law_522 (by decide) ?_
  refine lv_iadd hx hb dL_law_523 ?_
  refine l_sld (i := i) (k := 2) C I (by omega) (nI_k i 2 rfl) dL_law_524 ?_
  refine lv_aload_n hx hb dL_law_525 rfl (lv_at hl 1 rfl) ?_
  refine r_callH (ws' := cW g a st' ++ oW g ob (houtI w res)) (As := [.ref (a 0), .int (xs (i + 1)), .int (xs (i + 2)), .ref ob]) (rest := []) xw nc rfl E I hl.1 kH_118 (h_set hl0 hf hv) (by rw [List.map_append, List.map_append]; rfl) rfl rfl (Nat.le_of_ble_eq_true rfl) ⟨(Nat.le_of_ble_eq_true rfl), (Nat.le_of_ble_eq_true rfl)⟩ hcs dL_law_526 (fun H locs I => ?_)
  refine lv_istore (lv' := [(5, .int v), (4, .int (nI i)), (3, .ref ob), (2, .ref (bb 0)), (1, .ref (a 0)), (0, .ref b)]) hx hb dL_law_529 hl (by decide) rfl (fun ls hl => ?_)
  refine lv_aload_n hx hb dL_law_531 rfl (lv_at hl 3 rfl) ?_
  refine lv_aload_n hx hb dL_law_532 rfl (lv_at hl 5 rfl) ?_
  refine lv_iload hx hb dL_law_533 (lv_at hl 1 rfl) ?_
  refine lv_iconst (v := (1 : Int32)) hx hb dL_law_535 (by decide) ?_
  refine lv_iadd hx hb dL_law_536 ?_
  refine l_sld (i := i) (k := 1) C I (by omega) (nI_k i 1 rfl) dL_law_537 ?_
  refine lv_aload_n hx hb dL_law_538 rfl (lv_at hl 5 rfl) ?_
  refine lv_iload hx hb dL_law_539 (lv_at hl 1 rfl) ?_
  refine lv_iconst (v := (2 : Int32)) hx hb dL_law_541 (by decide) ?_
  refine lv_iadd hx hb dL_law_542 ?_
  refine l_sld (i := i) (k := 2) C I (by omega) (nI_k i 2 rfl) dL_law_543 ?_
  have I := wk_comm I
  refine r_callF1 (ws' := mW g bb ms') (As := [.int (xs (i + 1)), .int (xs (i + 2))]) (v := .int b2) (rest := []) E I hl.1 kM_120 (c5_set hm) mW_k (q0 := 0) rfl rfl rfl rfl (Nat.le_of_ble_eq_true rfl) ⟨(Nat.le_of_ble_eq_true rfl), (Nat.le_of_ble_eq_true rfl)⟩ ⟨hc9.1, hc9.2⟩ dL_law_544 (fun H locs I => ?_)
  have I := wk_comm I
  refine lv_istore (lv' := [(6, .int b2), (5, .int v), (4, .int (nI i)), (3, .ref ob), (2, .ref (bb 0)), (1, .ref (a 0)), (0, .ref b)]) hx hb dL_law_547 hl (by decide) rfl (fun ls hl => ?_)
  refine lv_aload_n hx hb dL_law_549 rfl (lv_at hl 4 rfl) ?_
  have I := wk_comm I
  refine r_callF1 (ws' := mW g bb ms') (As := []) (v := .int (f5_thrown ms')) (rest := []) E I hl.1 kM_101 (c5_thrown rfl) mW_k (q0 := 0) rfl rfl rfl rfl (Nat.le_of_ble_eq_true rfl) ⟨(Nat.le_of_ble_eq_true rfl), (Nat.le_of_ble_eq_true rfl)⟩ ⟨hc9.1, hc9.2⟩ dL_law_550 (fun H locs I => ?_)
  have I := wk_comm I
  refine lv_iload hx hb dL_law_553 (lv_at hl 1 rfl) ?_
  refine lv_icmp_eq (tgt := 560) hx hb dL_law_555 (by decide) (fun _ => ?_) (fun hc => absurd hth hc)
  refine lv_iload hx hb dL_law_560 (lv_at hl 1 rfl) ?_
  refine lv_if_ne (tgt := 577) hx hb dL_law_562 (by decide) (fun hv0 => ?_) (fun hv0 => ?_)
  · refine lv_goto (tgt := 1707) hx hb dL_law_577 (by decide) ?_
    exact kk _ _ _ _ _ _ hR I (lv_sub hl [2, 3, 4, 5, 6] rfl)
  obtain ⟨r9, hr9⟩ := hco_0 (by decide) hv hv0
  have hb9 := hbb r9 hr9
  refine lv_aload_n hx hb dL_law_565 rfl (lv_at hl 3 rfl) ?_
  refine lv_iconst (v := (0 : Int32)) hx hb dL_law_566 (by decide) ?_
  refine r_lald E I 50 (f := houtI w res) rfl (by decide) dL_law_567 ?_
  refine lv_iload hx hb dL_law_568 (lv_at hl 0 rfl) ?_
  refine lv_i2l (v := b2.toInt64) hx hb dL_law_570 rfl ?_
  refine W.lcmp hx hb dL_law_571 ?_
  refine lv_if_eq (tgt := 577) hx hb dL_law_572 (by decide) (fun _ => ?_) (fun hc => absurd (lg_cmp_self (by rw [hr9, houtI_at, hb9])) hc)
  refine lv_goto (tgt := 1707) hx hb dL_law_577 (by decide) ?_
  exact kk _ _ _ _ _ _ hR I (lv_sub hl [2, 3, 4, 5, 6] rfl)
set_option maxHeartbeats 4000000 in
set_option maxRecDepth 100000 in
theorem law_6 {p : Program} {l : Launch} {e : Env} {s : State} {m : MethodId} {below : List Frame} {meth : Method} {c : Code} {H : Heap} {locs : List Loc} {cells slots : Nat} {Q : State → Prop} {ls : Array Slot} {D : va_G} {g : Nat → ClassId} {A : Nat → Prop} {b L : Nat} {xs : Nat → Int32} {a bb : Nat → Nat} {ob : Nat} {st : CS} {ms : MS} {w : Nat → Int64} {i : Nat} {Rel : CS → MS → Prop} (C : LC p l s m c b L xs D g A) (hi : i + 5 ≤ L) (ok : okI (fun z => f4_append z (xs (i + 1))) (fun z => f5_append z (xs (i + 1))) [1, 2] Rel st ms) (I : wk D (lW g a bb ob st ms w) A s.heap H locs) (hl : lv_has ls 9 [(4, .int (nI i)), (3, .ref ob), (2, .ref (bb 0)), (1, .ref (a 0)), (0, .ref b)]) (hcs : cells + 1 ≤ room_1.cells ∧ slots + 6 ≤ room_1.slots) (kk : ∀ (st' : CS) (ms' : MS) (w' : Nat → Int64) (H : Heap) (locs : List Loc) (ls : Array Slot), Rel st' ms' → wk D (lW g a bb ob st' ms' w') A s.heap H locs → lv_has ls 9 [(4, .int (nI i)), (3, .ref ob), (2, .ref (bb 0)), (1, .ref (a 0)), (0, .ref b)] → W p l e room_1 s m #[Value.ref b] below meth c H locs (cells + 1) (slots + 6) Q (F0 m 1707 ls [])) : W p l e room_1 s m #[Value.ref b] below meth c H locs cells slots Q (F0 m 580 ls []) := by
  obtain ⟨E, xw, nc, hX, hbl, hbA, hL, hl0⟩ := id C
  have hx := E.1.1
  have hb := E.1.2.1
  obtain ⟨st', res, ms', b2, v, hf, hm, hv, hth, hbb, hR⟩ := ok
  have hc9 : cells + 1 ≤ room_1.cells ∧ slots + 6 ≤ room_1.slots := hcs
  refine lv_aload_n hx hb dL_law_580 rfl (lv_at hl 3 rfl) ?_
  refine lv_aload_n hx hb dL_law_581 rfl (lv_at hl 4 rfl) ?_
  refine lv_iload hx hb dL_law_582 (lv_at hl 0 rfl) ?_
  refine lv_iconst (v := (1 : Int32)) hx hb dL_law_584 (by decide) ?_
  refine lv_iadd hx hb dL_law_585 ?_
  refine l_sld (i := i) (k := 1) C I (by omega) (nI_k i 1 rfl) dL_law_586 ?_
  refine lv_aload_n hx hb dL_law_587 rfl (lv_at hl 1 rfl) ?_
  refine r_callH (ws' := cW g a st' ++ oW g ob (houtI w res)) (As := [.ref (a 0), .int (xs (i + 1)), .ref ob]) (rest := []) xw nc rfl E I hl.1 kH_121 (h_append hl0 hf hv) (by rw [List.map_append, List.map_append]; rfl) rfl rfl (Nat.le_of_ble_eq_true rfl) ⟨(Nat.le_of_ble_eq_true rfl), (Nat.le_of_ble_eq_true rfl)⟩ hcs dL_law_588 (fun H locs I => ?_)
  refine lv_istore (lv' := [(5, .int v), (4, .int (nI i)), (3, .ref ob), (2, .ref (bb 0)), (1, .ref (a 0)), (0, .ref b)]) hx hb dL_law_591 hl (by decide) rfl (fun ls hl => ?_)
  refine lv_aload_n hx hb dL_law_593 rfl (lv_at hl 3 rfl) ?_
  refine lv_aload_n hx hb dL_law_594 rfl (lv_at hl 5 rfl) ?_
  refine lv_iload hx hb dL_law_595 (lv_at hl 1 rfl) ?_
  refine lv_iconst (v := (1 : Int32)) hx hb dL_law_597 (by decide) ?_
  refine lv_iadd hx hb dL_law_598 ?_
  refine l_sld (i := i) (k := 1) C I (by omega) (nI_k i 1 rfl) dL_law_599 ?_
  have I := wk_comm I
  refine r_callF1 (ws' := mW g bb ms') (As := [.int (xs (i + 1))]) (v := .int b2) (rest := []) E I hl.1 kM_123 (c5_append hm) mW_k (q0 := 0) rfl rfl rfl rfl (Nat.le_of_ble_eq_true rfl) ⟨(Nat.le_of_ble_eq_true rfl), (Nat.le_of_ble_eq_true rfl)⟩ ⟨hc9.1, hc9.2⟩ dL_law_600 (fun H locs I => ?_)
  have I := wk_comm I
  refine lv_istore (lv' := [(6, .int b2), (5, .int v), (4, .int (nI i)), (3, .ref ob), (2, .ref (bb 0)), (1, .ref (a 0)), (0, .ref b)]) hx hb dL_law_603 hl (by decide) rfl (fun ls hl => ?_)
  refine lv_aload_n hx hb dL_law_605 rfl (lv_at hl 4 rfl) ?_
  have I := wk_comm I
  refine r_callF1 (ws' := mW g bb ms') (As := []) (v := .int (f5_thrown ms')) (rest := []) E I hl.1 kM_101 (c5_thrown rfl) mW_k (q0 := 0) rfl rfl rfl rfl (Nat.le_of_ble_eq_true rfl) ⟨(Nat.le_of_ble_eq_true rfl), (Nat.le_of_ble_eq_true rfl)⟩ ⟨hc9.1, hc9.2⟩ dL_law_606 (fun H locs I => ?_)
  have I := wk_comm I
  refine lv_iload hx hb dL_law_609 (lv_at hl 1 rfl) ?_
  refine lv_icmp_eq (tgt := 616) hx hb dL_law_611 (by decide) (fun _ => ?_) (fun hc => absurd hth hc)
  refine lv_iload hx hb dL_law_616 (lv_at hl 1 rfl) ?_
  refine lv_if_ne (tgt := 633) hx hb dL_law_618 (by decide) (fun hv0 => ?_) (fun hv0 => ?_)
  · refine lv_goto (tgt := 1707) hx hb dL_law_633 (by decide) ?_
    exact kk _ _ _ _ _ _ hR I (lv_sub hl [2, 3, 4, 5, 6] rfl)
  obtain ⟨r9, hr9⟩ := hco_0 (by decide) hv hv0
  have hb9 := hbb r9 hr9
  refine lv_aload_n hx hb dL_law_621 rfl (lv_at hl 3 rfl) ?_
  refine lv_iconst (v := (0 : Int32)) hx hb dL_law_622 (by decide) ?_
  refine r_lald E I 50 (f := houtI w res) rfl (by decide) dL_law_623 ?_
  refine lv_iload hx hb dL_law_624 (lv_at hl 0 rfl) ?_
  refine lv_i2l (v := b2.toInt64) hx hb dL_law_626 rfl ?_
  refine W.lcmp hx hb dL_law_627 ?_
  refine lv_if_eq (tgt := 633) hx hb dL_law_628 (by decide) (fun _ => ?_) (fun hc => absurd (lg_cmp_self (by rw [hr9, houtI_at, hb9])) hc)
  refine lv_goto (tgt := 1707) hx hb dL_law_633 (by decide) ?_
  exact kk _ _ _ _ _ _ hR I (lv_sub hl [2, 3, 4, 5, 6] rfl)
set_option maxHeartbeats 4000000 in
set_option maxRecDepth 100000 in
theorem law_7 {p : Program} {l : Launch} {e : Env} {s : State} {m : MethodId} {below : List Frame} {meth : Method} {c : Code} {H : Heap} {locs : List Loc} {cells slots : Nat} {Q : State → Prop} {ls : Array Slot} {D : va_G} {g : Nat → ClassId} {A : Nat → Prop} {b L : Nat} {xs : Nat → Int32} {a bb : Nat → Nat} {ob : Nat} {st : CS} {ms : MS} {w : Nat → Int64} {i : Nat} {Rel : CS → MS → Prop} (C : LC p l s m c b L xs D g A) (hi : i + 5 ≤ L) (ok : (f4_clearBuffer st).2 = (f5_clearBuffer ms).2 ∧ Rel (f4_clearBuffer st).1 (f5_clearBuffer ms).1) (I : wk D (lW g a bb ob st ms w) A s.heap H locs) (hl : lv_has ls 9 [(4, .int (nI i)), (3, .ref ob), (2, .ref (bb 0)), (1, .ref (a 0)), (0, .ref b)]) (hcs : cells + 1 ≤ room_1.cells ∧ slots + 6 ≤ room_1.slots) (kk : ∀ (st' : CS) (ms' : MS) (w' : Nat → Int64) (H : Heap) (locs : List Loc) (ls : Array Slot), Rel st' ms' → wk D (lW g a bb ob st' ms' w') A s.heap H locs → lv_has ls 9 [(4, .int (nI i)), (3, .ref ob), (2, .ref (bb 0)), (1, .ref (a 0)), (0, .ref b)] → W p l e room_1 s m #[Value.ref b] below meth c H locs (cells + 1) (slots + 6) Q (F0 m 1707 ls [])) : W p l e room_1 s m #[Value.ref b] below meth c H locs cells slots Q (F0 m 636 ls []) := by
  obtain ⟨E, xw, nc, hX, hbl, hbA, hL, hl0⟩ := id C
  have hx := E.1.1
  have hb := E.1.2.1
  obtain ⟨he, hR⟩ := ok
  have hc9 : cells ≤ room_1.cells ∧ slots ≤ room_1.slots := ⟨Nat.le_of_succ_le hcs.1, Nat.le_trans (Nat.le_add_right _ _) hcs.2⟩
  refine lv_aload_n hx hb dL_law_636 rfl (lv_at hl 3 rfl) ?_
  have I : wk D (cW g a st ++ (oW g ob w ++ mW g bb ms)) A s.heap H locs := by rw [← List.append_assoc]; exact I
  refine r_callF1 (ws' := cW g a (f4_clearBuffer st).1) (As := []) (v := .int (f4_clearBuffer st).2) (rest := []) E I hl.1 kM_124 (c4_clearBuffer rfl) cW_k (q0 := 0) rfl rfl rfl rfl (Nat.le_of_ble_eq_true rfl) ⟨(Nat.le_of_ble_eq_true rfl), (Nat.le_of_ble_eq_true rfl)⟩ ⟨hc9.1, hc9.2⟩ dL_law_637 (fun H locs I => ?_)
  have I : wk D (lW g a bb ob (f4_clearBuffer st).1 ms w) A s.heap H locs := lW_as I
  refine lv_aload_n hx hb dL_law_640 rfl (lv_at hl 2 rfl) ?_
  have I := wk_comm I
  refine r_callF1 (ws' := mW g bb (f5_clearBuffer ms).1) (As := []) (v := .int (f5_clearBuffer ms).2) (rest := [.int (f4_clearBuffer st).2]) E I hl.1 kM_127 (c5_clearBuffer rfl) mW_k (q0 := 0) rfl rfl rfl rfl (Nat.le_of_ble_eq_true rfl) ⟨(Nat.le_of_ble_eq_true rfl), (Nat.le_of_ble_eq_true rfl)⟩ ⟨hc9.1, hc9.2⟩ dL_law_641 (fun H locs I => ?_)
  have I := wk_comm I
  refine lv_icmp_eq (tgt := 1707) hx hb dL_law_644 (by decide) (fun _ => ?_) (fun hc => absurd he hc)
  refine W.widen (k := cells + 1) (n := slots + 6) (Nat.le_add_right _ _) (Nat.le_add_right _ _) ?_
  exact kk _ _ _ _ _ _ hR I (lv_sub hl [0, 1, 2, 3, 4] rfl)
set_option maxHeartbeats 4000000 in
set_option maxRecDepth 100000 in
theorem law_8 {p : Program} {l : Launch} {e : Env} {s : State} {m : MethodId} {below : List Frame} {meth : Method} {c : Code} {H : Heap} {locs : List Loc} {cells slots : Nat} {Q : State → Prop} {ls : Array Slot} {D : va_G} {g : Nat → ClassId} {A : Nat → Prop} {b L : Nat} {xs : Nat → Int32} {a bb : Nat → Nat} {ob : Nat} {st : CS} {ms : MS} {w : Nat → Int64} {i : Nat} {Rel : CS → MS → Prop} (C : LC p l s m c b L xs D g A) (hi : i + 5 ≤ L) (ok : ∃ (r2 : Int32) (ms' : MS) (b2 : Int32), f4_firstError st = some r2 ∧ f5_firstError ms = some (ms', b2) ∧ r2 = b2 ∧ Rel st ms') (I : wk D (lW g a bb ob st ms w) A s.heap H locs) (hl : lv_has ls 9 [(4, .int (nI i)), (3, .ref ob), (2, .ref (bb 0)), (1, .ref (a 0)), (0, .ref b)]) (hcs : cells + 1 ≤ room_1.cells ∧ slots + 6 ≤ room_1.slots) (kk : ∀ (st' : CS) (ms' : MS) (w' : Nat → Int64) (H : Heap) (locs : List Loc) (ls : Array Slot), Rel st' ms' → wk D (lW g a bb ob st' ms' w') A s.heap H locs → lv_has ls 9 [(4, .int (nI i)), (3, .ref ob), (2, .ref (bb 0)), (1, .ref (a 0)), (0, .ref b)] → W p l e room_1 s m #[Value.ref b] below meth c H locs (cells + 1) (slots + 6) Q (F0 m 1707 ls [])) : W p l e room_1 s m #[Value.ref b] below meth c H locs cells slots Q (F0 m 649 ls []) := by
  obtain ⟨E, xw, nc, hX, hbl, hbA, hL, hl0⟩ := id C
  have hx := E.1.1
  have hb := E.1.2.1
  obtain ⟨r2, ms', b2, hf, hm, he, hR⟩ := ok
  have hc9 : cells ≤ room_1.cells ∧ slots ≤ room_1.slots := ⟨Nat.le_of_succ_le hcs.1, Nat.le_trans (Nat.le_add_right _ _) hcs.2⟩
  refine lv_aload_n hx hb dL_law_649 rfl (lv_at hl 3 rfl) ?_
  have I : wk D (cW g a st ++ (oW g ob w ++ mW g bb ms)) A s.heap H locs := by rw [← List.append_assoc]; exact I
  refine r_callF1 (ws' := cW g a st) (As := []) (v := .int r2) (rest := []) E I hl.1 kM_128 (c4_firstError hf) cW_k (q0 := 0) rfl rfl rfl rfl (Nat.le_of_ble_eq_true rfl) ⟨(Nat.le_of_ble_eq_true rfl), (Nat.le_of_ble_eq_true rfl)⟩ ⟨hc9.1, hc9.2⟩ dL_law_650 (fun H locs I => ?_)
  have I : wk D (lW g a bb ob st ms w) A s.heap H locs := lW_as I
  refine lv_aload_n hx hb dL_law_653 rfl (lv_at hl 2 rfl) ?_
  have I := wk_comm I
  refine r_callF1 (ws' := mW g bb ms') (As := []) (v := .int b2) (rest := [.int r2]) E I hl.1 kM_131 (c5_firstError hm) mW_k (q0 := 0) rfl rfl rfl rfl (Nat.le_of_ble_eq_true rfl) ⟨(Nat.le_of_ble_eq_true rfl), (Nat.le_of_ble_eq_true rfl)⟩ ⟨hc9.1, hc9.2⟩ dL_law_654 (fun H locs I => ?_)
  have I := wk_comm I
  refine lv_icmp_eq (tgt := 1707) hx hb dL_law_657 (by decide) (fun _ => ?_) (fun hc => absurd he hc)
  refine W.widen (k := cells + 1) (n := slots + 6) (Nat.le_add_right _ _) (Nat.le_add_right _ _) ?_
  exact kk _ _ _ _ _ _ hR I (lv_sub hl [0, 1, 2, 3, 4] rfl)
set_option maxHeartbeats 4000000 in
set_option maxRecDepth 100000 in
theorem law_9 {p : Program} {l : Launch} {e : Env} {s : State} {m : MethodId} {below : List Frame} {meth : Method} {c : Code} {H : Heap} {locs : List Loc} {cells slots : Nat} {Q : State → Prop} {ls : Array Slot} {D : va_G} {g : Nat → ClassId} {A : Nat → Prop} {b L : Nat} {xs : Nat → Int32} {a bb : Nat → Nat} {ob : Nat} {st : CS} {ms : MS} {w : Nat → Int64} {i : Nat} {Rel : CS → MS → Prop} (C : LC p l s m c b L xs D g A) (hi : i + 5 ≤ L) (ok : okI (fun z => f4_read z (xs (i + 1))) (fun z => f5_read z (xs (i + 1))) [0, 1, 2] Rel st ms) (I : wk D (lW g a bb ob st ms w) A s.heap H locs) (hl : lv_has ls 9 [(4, .int (nI i)), (3, .ref ob), (2, .ref (bb 0)), (1, .ref (a 0)), (0, .ref b)]) (hcs : cells + 1 ≤ room_1.cells ∧ slots + 6 ≤ room_1.slots) (kk : ∀ (st' : CS) (ms' : MS) (w' : Nat → Int64) (H : Heap) (locs : List Loc) (ls : Array Slot), Rel st' ms' → wk D (lW g a bb ob st' ms' w') A s.heap H locs → lv_has ls 9 [(4, .int (nI i)), (3, .ref ob), (2, .ref (bb 0)), (1, .ref (a 0)), (0, .ref b)] → W p l e room_1 s m #[Value.ref b] below meth c H locs (cells + 1) (slots + 6) Q (F0 m 1707 ls [])) : W p l e room_1 s m #[Value.ref b] below meth c H locs cells slots Q (F0 m 662 ls []) := by
  obtain ⟨E, xw, nc, hX, hbl, hbA, hL, hl0⟩ := id C
  have hx := E.1.1
  have hb := E.1.2.1
  obtain ⟨st', res, ms', b2, v, hf, hm, hv, hth, hbb, hR⟩ := ok
  have hc9 : cells + 1 ≤ room_1.cells ∧ slots + 6 ≤ room_1.slots := hcs
  refine lv_aload_n hx hb dL_law_662 rfl (lv_at hl 3 rfl) ?_
  refine lv_aload_n hx hb dL_law_663 rfl (lv_at hl 4 rfl) ?_
  refine lv_iload hx hb dL_law_664 (lv_at hl 0 rfl) ?_
  refine lv_iconst (v := (1 : Int32)) hx hb dL_law_666 (by decide) ?_
  refine lv_iadd hx hb dL_law_667 ?_
  refine l_sld (i := i) (k := 1) C I (by omega) (nI_k i 1 rfl) dL_law_668 ?_
  refine lv_aload_n hx hb dL_law_669 rfl (lv_at hl 1 rfl) ?_
  refine r_callH (ws' := cW g a st' ++ oW g ob (houtI w res)) (As := [.ref (a 0), .int (xs (i + 1)), .ref ob]) (rest := []) xw nc rfl E I hl.1 kH_132 (h_read hl0 hf hv) (by rw [List.map_append, List.map_append]; rfl) rfl rfl (Nat.le_of_ble_eq_true rfl) ⟨(Nat.le_of_ble_eq_true rfl), (Nat.le_of_ble_eq_true rfl)⟩ hcs dL_law_670 (fun H locs I => ?_)
  refine lv_istore (lv' := [(5, .int v), (4, .int (nI i)), (3, .ref ob), (2, .ref (bb 0)), (1, .ref (a 0)), (0, .ref b)]) hx hb dL_law_673 hl (by decide) rfl (fun ls hl => ?_)
  refine lv_aload_n hx hb dL_law_675 rfl (lv_at hl 3 rfl) ?_
  refine lv_aload_n hx hb dL_law_676 rfl (lv_at hl 5 rfl) ?_
  refine lv_iload hx hb dL_law_677 (lv_at hl 1 rfl) ?_
  refine lv_iconst (v := (1 : Int32)) hx hb dL_law_679 (by decide) ?_
  refine lv_iadd hx hb dL_law_680 ?_
  refine l_sld (i := i) (k := 1) C I (by omega) (nI_k i 1 rfl) dL_law_681 ?_
  have I := wk_comm I
  refine r_callF1 (ws' := mW g bb ms') (As := [.int (xs (i + 1))]) (v := .int b2) (rest := []) E I hl.1 kM_134 (c5_read hm) mW_k (q0 := 0) rfl rfl rfl rfl (Nat.le_of_ble_eq_true rfl) ⟨(Nat.le_of_ble_eq_true rfl), (Nat.le_of_ble_eq_true rfl)⟩ ⟨hc9.1, hc9.2⟩ dL_law_682 (fun H locs I => ?_)
  have I := wk_comm I
  refine lv_istore (lv' := [(6, .int b2), (5, .int v), (4, .int (nI i)), (3, .ref ob), (2, .ref (bb 0)), (1, .ref (a 0)), (0, .ref b)]) hx hb dL_law_685 hl (by decide) rfl (fun ls hl => ?_)
  refine lv_aload_n hx hb dL_law_687 rfl (lv_at hl 4 rfl) ?_
  have I := wk_comm I
  refine r_callF1 (ws' := mW g bb ms') (As := []) (v := .int (f5_thrown ms')) (rest := []) E I hl.1 kM_101 (c5_thrown rfl) mW_k (q0 := 0) rfl rfl rfl rfl (Nat.le_of_ble_eq_true rfl) ⟨(Nat.le_of_ble_eq_true rfl), (Nat.le_of_ble_eq_true rfl)⟩ ⟨hc9.1, hc9.2⟩ dL_law_688 (fun H locs I => ?_)
  have I := wk_comm I
  refine lv_iload hx hb dL_law_691 (lv_at hl 1 rfl) ?_
  refine lv_icmp_eq (tgt := 698) hx hb dL_law_693 (by decide) (fun _ => ?_) (fun hc => absurd hth hc)
  refine lv_iload hx hb dL_law_698 (lv_at hl 1 rfl) ?_
  refine lv_if_ne (tgt := 715) hx hb dL_law_700 (by decide) (fun hv0 => ?_) (fun hv0 => ?_)
  · refine lv_goto (tgt := 1707) hx hb dL_law_715 (by decide) ?_
    exact kk _ _ _ _ _ _ hR I (lv_sub hl [2, 3, 4, 5, 6] rfl)
  obtain ⟨r9, hr9⟩ := hco_0 (by decide) hv hv0
  have hb9 := hbb r9 hr9
  refine lv_aload_n hx hb dL_law_703 rfl (lv_at hl 3 rfl) ?_
  refine lv_iconst (v := (0 : Int32)) hx hb dL_law_704 (by decide) ?_
  refine r_lald E I 50 (f := houtI w res) rfl (by decide) dL_law_705 ?_
  refine lv_iload hx hb dL_law_706 (lv_at hl 0 rfl) ?_
  refine lv_i2l (v := b2.toInt64) hx hb dL_law_708 rfl ?_
  refine W.lcmp hx hb dL_law_709 ?_
  refine lv_if_eq (tgt := 715) hx hb dL_law_710 (by decide) (fun _ => ?_) (fun hc => absurd (lg_cmp_self (by rw [hr9, houtI_at, hb9])) hc)
  refine lv_goto (tgt := 1707) hx hb dL_law_715 (by decide) ?_
  exact kk _ _ _ _ _ _ hR I (lv_sub hl [2, 3, 4, 5, 6] rfl)
set_option maxHeartbeats 4000000 in
set_option maxRecDepth 100000 in
theorem law_10 {p : Program} {l : Launch} {e : Env} {s : State} {m : MethodId} {below : List Frame} {meth : Method} {c : Code} {H : Heap} {locs : List Loc} {cells slots : Nat} {Q : State → Prop} {ls : Array Slot} {D : va_G} {g : Nat → ClassId} {A : Nat → Prop} {b L : Nat} {xs : Nat → Int32} {a bb : Nat → Nat} {ob : Nat} {st : CS} {ms : MS} {w : Nat → Int64} {i : Nat} {Rel : CS → MS → Prop} (C : LC p l s m c b L xs D g A) (hi : i + 5 ≤ L) (ok : okI (fun z => f4_take z (xs (i + 1))) (fun z => f5_take z (xs (i + 1))) [0] Rel st ms) (I : wk D (lW g a bb ob st ms w) A s.heap H locs) (hl : lv_has ls 9 [(4, .int (nI i)), (3, .ref ob), (2, .ref (bb 0)), (1, .ref (a 0)), (0, .ref b)]) (hcs : cells + 1 ≤ room_1.cells ∧ slots + 6 ≤ room_1.slots) (kk : ∀ (st' : CS) (ms' : MS) (w' : Nat → Int64) (H : Heap) (locs : List Loc) (ls : Array Slot), Rel st' ms' → wk D (lW g a bb ob st' ms' w') A s.heap H locs → lv_has ls 9 [(4, .int (nI i)), (3, .ref ob), (2, .ref (bb 0)), (1, .ref (a 0)), (0, .ref b)] → W p l e room_1 s m #[Value.ref b] below meth c H locs (cells + 1) (slots + 6) Q (F0 m 1707 ls [])) : W p l e room_1 s m #[Value.ref b] below meth c H locs cells slots Q (F0 m 718 ls []) := by
  obtain ⟨E, xw, nc, hX, hbl, hbA, hL, hl0⟩ := id C
  have hx := E.1.1
  have hb := E.1.2.1
  obtain ⟨st', res, ms', b2, v, hf, hm, hv, hth, hbb, hR⟩ := ok
  have hc9 : cells + 1 ≤ room_1.cells ∧ slots + 6 ≤ room_1.slots := hcs
  refine lv_aload_n hx hb dL_law_718 rfl (lv_at hl 3 rfl) ?_
  refine lv_aload_n hx hb dL_law_719 rfl (lv_at hl 4 rfl) ?_
  refine lv_iload hx hb dL_law_720 (lv_at hl 0 rfl) ?_
  refine lv_iconst (v := (1 : Int32)) hx hb dL_law_722 (by decide) ?_
  refine lv_iadd hx hb dL_law_723 ?_
  refine l_sld (i := i) (k := 1) C I (by omega) (nI_k i 1 rfl) dL_law_724 ?_
  refine lv_aload_n hx hb dL_law_725 rfl (lv_at hl 1 rfl) ?_
  refine r_callH (ws' := cW g a st' ++ oW g ob (houtI w res)) (As := [.ref (a 0), .int (xs (i + 1)), .ref ob]) (rest := []) xw nc rfl E I hl.1 kH_135 (h_take hl0 hf hv) (by rw [List.map_append, List.map_append]; rfl) rfl rfl (Nat.le_of_ble_eq_true rfl) ⟨(Nat.le_of_ble_eq_true rfl), (Nat.le_of_ble_eq_true rfl)⟩ hcs dL_law_726 (fun H locs I => ?_)
  refine lv_istore (lv' := [(5, .int v), (4, .int (nI i)), (3, .ref ob), (2, .ref (bb 0)), (1, .ref (a 0)), (0, .ref b)]) hx hb dL_law_729 hl (by decide) rfl (fun ls hl => ?_)
  refine lv_aload_n hx hb dL_law_731 rfl (lv_at hl 3 rfl) ?_
  refine lv_aload_n hx hb dL_law_732 rfl (lv_at hl 5 rfl) ?_
  refine lv_iload hx hb dL_law_733 (lv_at hl 1 rfl) ?_
  refine lv_iconst (v := (1 : Int32)) hx hb dL_law_735 (by decide) ?_
  refine lv_iadd hx hb dL_law_736 ?_
  refine l_sld (i := i) (k := 1) C I (by omega) (nI_k i 1 rfl) dL_law_737 ?_
  have I := wk_comm I
  refine r_callF1 (ws' := mW g bb ms') (As := [.int (xs (i + 1))]) (v := .int b2) (rest := []) E I hl.1 kM_137 (c5_take hm) mW_k (q0 := 0) rfl rfl rfl rfl (Nat.le_of_ble_eq_true rfl) ⟨(Nat.le_of_ble_eq_true rfl), (Nat.le_of_ble_eq_true rfl)⟩ ⟨hc9.1, hc9.2⟩ dL_law_738 (fun H locs I => ?_)
  have I := wk_comm I
  refine lv_istore (lv' := [(6, .int b2), (5, .int v), (4, .int (nI i)), (3, .ref ob), (2, .ref (bb 0)), (1, .ref (a 0)), (0, .ref b)]) hx hb dL_law_741 hl (by decide) rfl (fun ls hl => ?_)
  refine lv_aload_n hx hb dL_law_743 rfl (lv_at hl 4 rfl) ?_
  have I := wk_comm I
  refine r_callF1 (ws' := mW g bb ms') (As := []) (v := .int (f5_thrown ms')) (rest := []) E I hl.1 kM_101 (c5_thrown rfl) mW_k (q0 := 0) rfl rfl rfl rfl (Nat.le_of_ble_eq_true rfl) ⟨(Nat.le_of_ble_eq_true rfl), (Nat.le_of_ble_eq_true rfl)⟩ ⟨hc9.1, hc9.2⟩ dL_law_744 (fun H locs I => ?_)
  have I := wk_comm I
  refine lv_iload hx hb dL_law_747 (lv_at hl 1 rfl) ?_
  refine lv_icmp_eq (tgt := 754) hx hb dL_law_749 (by decide) (fun _ => ?_) (fun hc => absurd hth hc)
  refine lv_iload hx hb dL_law_754 (lv_at hl 1 rfl) ?_
  refine lv_if_ne (tgt := 771) hx hb dL_law_756 (by decide) (fun hv0 => ?_) (fun hv0 => ?_)
  · refine lv_goto (tgt := 1707) hx hb dL_law_771 (by decide) ?_
    exact kk _ _ _ _ _ _ hR I (lv_sub hl [2, 3, 4, 5, 6] rfl)
  obtain ⟨r9, hr9⟩ := hco_0 (by decide) hv hv0
  have hb9 := hbb r9 hr9
  refine lv_aload_n hx hb dL_law_759 rfl (lv_at hl 3 rfl) ?_
  refine lv_iconst (v := (0 : Int32)) hx hb dL_law_760 (by decide) ?_
  refine r_lald E I 50 (f := houtI w res) rfl (by decide) dL_law_761 ?_
  refine lv_iload hx hb dL_law_762 (lv_at hl 0 rfl) ?_
  refine lv_i2l (v := b2.toInt64) hx hb dL_law_764 rfl ?_
  refine W.lcmp hx hb dL_law_765 ?_
  refine lv_if_eq (tgt := 771) hx hb dL_law_766 (by decide) (fun _ => ?_) (fun hc => absurd (lg_cmp_self (by rw [hr9, houtI_at, hb9])) hc)
  refine lv_goto (tgt := 1707) hx hb dL_law_771 (by decide) ?_
  exact kk _ _ _ _ _ _ hR I (lv_sub hl [2, 3, 4, 5, 6] rfl)
set_option maxHeartbeats 4000000 in
set_option maxRecDepth 100000 in
theorem law_11 {p : Program} {l : Launch} {e : Env} {s : State} {m : MethodId} {below : List Frame} {meth : Method} {c : Code} {H : Heap} {locs : List Loc} {cells slots : Nat} {Q : State → Prop} {ls : Array Slot} {D : va_G} {g : Nat → ClassId} {A : Nat → Prop} {b L : Nat} {xs : Nat → Int32} {a bb : Nat → Nat} {ob : Nat} {st : CS} {ms : MS} {w : Nat → Int64} {i : Nat} {Rel : CS → MS → Prop} (C : LC p l s m c b L xs D g A) (hi : i + 5 ≤ L) (ok : okI (fun z => f4_restore z (xs (i + 1))) (fun z => f5_restore z (xs (i + 1))) [0, 2] Rel st ms) (I : wk D (lW g a bb ob st ms w) A s.heap H locs) (hl : lv_has ls 9 [(4, .int (nI i)), (3, .ref ob), (2, .ref (bb 0)), (1, .ref (a 0)), (0, .ref b)]) (hcs : cells + 1 ≤ room_1.cells ∧ slots + 6 ≤ room_1.slots) (kk : ∀ (st' : CS) (ms' : MS) (w' : Nat → Int64) (H : Heap) (locs : List Loc) (ls : Array Slot), Rel st' ms' → wk D (lW g a bb ob st' ms' w') A s.heap H locs → lv_has ls 9 [(4, .int (nI i)), (3, .ref ob), (2, .ref (bb 0)), (1, .ref (a 0)), (0, .ref b)] → W p l e room_1 s m #[Value.ref b] below meth c H locs (cells + 1) (slots + 6) Q (F0 m 1707 ls [])) : W p l e room_1 s m #[Value.ref b] below meth c H locs cells slots Q (F0 m 774 ls []) := by
  obtain ⟨E, xw, nc, hX, hbl, hbA, hL, hl0⟩ := id C
  have hx := E.1.1
  have hb := E.1.2.1
  obtain ⟨st', res, ms', b2, v, hf, hm, hv, hth, hbb, hR⟩ := ok
  have hc9 : cells + 1 ≤ room_1.cells ∧ slots + 6 ≤ room_1.slots := hcs
  refine lv_aload_n hx hb dL_law_774 rfl (lv_at hl 3 rfl) ?_
  refine lv_aload_n hx hb dL_law_775 rfl (lv_at hl 4 rfl) ?_
  refine lv_iload hx hb dL_law_776 (lv_at hl 0 rfl) ?_
  refine lv_iconst (v := (1 : Int32)) hx hb dL_law_778 (by decide) ?_
  refine lv_iadd hx hb dL_law_779 ?_
  refine l_sld (i := i) (k := 1) C I (by omega) (nI_k i 1 rfl) dL_law_780 ?_
  refine lv_aload_n hx hb dL_law_781 rfl (lv_at hl 1 rfl) ?_
  refine r_callH (ws' := cW g a st' ++ oW g ob (houtI w res)) (As := [.ref (a 0), .int (xs (i + 1)), .ref ob]) (rest := []) xw nc rfl E I hl.1 kH_138 (h_restore hl0 hf hv) (by rw [List.map_append, List.map_append]; rfl) rfl rfl (Nat.le_of_ble_eq_true rfl) ⟨(Nat.le_of_ble_eq_true rfl), (Nat.le_of_ble_eq_true rfl)⟩ hcs dL_law_782 (fun H locs I => ?_)
  refine lv_istore (lv' := [(5, .int v), (4, .int (nI i)), (3, .ref ob), (2, .ref (bb 0)), (1, .ref (a 0)), (0, .ref b)]) hx hb dL_law_785 hl (by decide) rfl (fun ls hl => ?_)
  refine lv_aload_n hx hb dL_law_787 rfl (lv_at hl 3 rfl) ?_
  refine lv_aload_n hx hb dL_law_788 rfl (lv_at hl 5 rfl) ?_
  refine lv_iload hx hb dL_law_789 (lv_at hl 1 rfl) ?_
  refine lv_iconst (v := (1 : Int32)) hx hb dL_law_791 (by decide) ?_
  refine lv_iadd hx hb dL_law_792 ?_
  refine l_sld (i := i) (k := 1) C I (by omega) (nI_k i 1 rfl) dL_law_793 ?_
  have I := wk_comm I
  refine r_callF1 (ws' := mW g bb ms') (As := [.int (xs (i + 1))]) (v := .int b2) (rest := []) E I hl.1 kM_140 (c5_restore hm) mW_k (q0 := 0) rfl rfl rfl rfl (Nat.le_of_ble_eq_true rfl) ⟨(Nat.le_of_ble_eq_true rfl), (Nat.le_of_ble_eq_true rfl)⟩ ⟨hc9.1, hc9.2⟩ dL_law_794 (fun H locs I => ?_)
  have I := wk_comm I
  refine lv_istore (lv' := [(6, .int b2), (5, .int v), (4, .int (nI i)), (3, .ref ob), (2, .ref (bb 0)), (1, .ref (a 0)), (0, .ref b)]) hx hb dL_law_797 hl (by decide) rfl (fun ls hl => ?_)
  refine lv_aload_n hx hb dL_law_799 rfl (lv_at hl 4 rfl) ?_
  have I := wk_comm I
  refine r_callF1 (ws' := mW g bb ms') (As := []) (v := .int (f5_thrown ms')) (rest := []) E I hl.1 kM_101 (c5_thrown rfl) mW_k (q0 := 0) rfl rfl rfl rfl (Nat.le_of_ble_eq_true rfl) ⟨(Nat.le_of_ble_eq_true rfl), (Nat.le_of_ble_eq_true rfl)⟩ ⟨hc9.1, hc9.2⟩ dL_law_800 (fun H locs I => ?_)
  have I := wk_comm I
  refine lv_iload hx hb dL_law_803 (lv_at hl 1 rfl) ?_
  refine lv_icmp_eq (tgt := 810) hx hb dL_law_805 (by decide) (fun _ => ?_) (fun hc => absurd hth hc)
  refine lv_iload hx hb dL_law_810 (lv_at hl 1 rfl) ?_
  refine lv_if_ne (tgt := 827) hx hb dL_law_812 (by decide) (fun hv0 => ?_) (fun hv0 => ?_)
  · refine lv_goto (tgt := 1707) hx hb dL_law_827 (by decide) ?_
    exact kk _ _ _ _ _ _ hR I (lv_sub hl [2, 3, 4, 5, 6] rfl)
  obtain ⟨r9, hr9⟩ := hco_0 (by decide) hv hv0
  have hb9 := hbb r9 hr9
  refine lv_aload_n hx hb dL_law_815 rfl (lv_at hl 3 rfl) ?_
  refine lv_iconst (v := (0 : Int32)) hx hb dL_law_816 (by decide) ?_
  refine r_lald E I 50 (f := houtI w res) rfl (by decide) dL_law_817 ?_
  refine lv_iload hx hb dL_law_818 (lv_at hl 0 rfl) ?_
  refine lv_i2l (v := b2.toInt64) hx hb dL_law_820 rfl ?_
  refine W.lcmp hx hb dL_law_821 ?_
  refine lv_if_eq (tgt := 827) hx hb dL_law_822 (by decide) (fun _ => ?_) (fun hc => absurd (lg_cmp_self (by rw [hr9, houtI_at, hb9])) hc)
  refine lv_goto (tgt := 1707) hx hb dL_law_827 (by decide) ?_
  exact kk _ _ _ _ _ _ hR I (lv_sub hl [2, 3, 4, 5, 6] rfl)
set_option maxHeartbeats 4000000 in
set_option maxRecDepth 100000 in
theorem law_12 {p : Program} {l : Launch} {e : Env} {s : State} {m : MethodId} {below : List Frame} {meth : Method} {c : Code} {H : Heap} {locs : List Loc} {cells slots : Nat} {Q : State → Prop} {ls : Array Slot} {D : va_G} {g : Nat → ClassId} {A : Nat → Prop} {b L : Nat} {xs : Nat → Int32} {a bb : Nat → Nat} {ob : Nat} {st : CS} {ms : MS} {w : Nat → Int64} {i : Nat} {Rel : CS → MS → Prop} (C : LC p l s m c b L xs D g A) (hi : i + 5 ≤ L) (ok : okI (fun z => f4_undo z) (fun z => f5_undo z) [2] Rel st ms) (I : wk D (lW g a bb ob st ms w) A s.heap H locs) (hl : lv_has ls 9 [(4, .int (nI i)), (3, .ref ob), (2, .ref (bb 0)), (1, .ref (a 0)), (0, .ref b)]) (hcs : cells + 1 ≤ room_1.cells ∧ slots + 6 ≤ room_1.slots) (kk : ∀ (st' : CS) (ms' : MS) (w' : Nat → Int64) (H : Heap) (locs : List Loc) (ls : Array Slot), Rel st' ms' → wk D (lW g a bb ob st' ms' w') A s.heap H locs → lv_has ls 9 [(4, .int (nI i)), (3, .ref ob), (2, .ref (bb 0)), (1, .ref (a 0)), (0, .ref b)] → W p l e room_1 s m #[Value.ref b] below meth c H locs (cells + 1) (slots + 6) Q (F0 m 1707 ls [])) : W p l e room_1 s m #[Value.ref b] below meth c H locs cells slots Q (F0 m 830 ls []) := by
  obtain ⟨E, xw, nc, hX, hbl, hbA, hL, hl0⟩ := id C
  have hx := E.1.1
  have hb := E.1.2.1
  obtain ⟨st', res, ms', b2, v, hf, hm, hv, hth, hbb, hR⟩ := ok
  have hc9 : cells + 1 ≤ room_1.cells ∧ slots + 6 ≤ room_1.slots := hcs
  refine lv_aload_n hx hb dL_law_830 rfl (lv_at hl 3 rfl) ?_
  refine lv_aload_n hx hb dL_law_831 rfl (lv_at hl 1 rfl) ?_
  refine r_callH (ws' := cW g a st' ++ oW g ob (houtI w res)) (As := [.ref (a 0), .ref ob]) (rest := []) xw nc rfl E I hl.1 kH_141 (h_undo hl0 hf hv) (by rw [List.map_append, List.map_append]; rfl) rfl rfl (Nat.le_of_ble_eq_true rfl) ⟨(Nat.le_of_ble_eq_true rfl), (Nat.le_of_ble_eq_true rfl)⟩ hcs dL_law_832 (fun H locs I => ?_)
  refine lv_istore (lv' := [(5, .int v), (4, .int (nI i)), (3, .ref ob), (2, .ref (bb 0)), (1, .ref (a 0)), (0, .ref b)]) hx hb dL_law_835 hl (by decide) rfl (fun ls hl => ?_)
  refine lv_aload_n hx hb dL_law_837 rfl (lv_at hl 3 rfl) ?_
  have I := wk_comm I
  refine r_callF1 (ws' := mW g bb ms') (As := []) (v := .int b2) (rest := []) E I hl.1 kM_144 (c5_undo hm) mW_k (q0 := 0) rfl rfl rfl rfl (Nat.le_of_ble_eq_true rfl) ⟨(Nat.le_of_ble_eq_true rfl), (Nat.le_of_ble_eq_true rfl)⟩ ⟨hc9.1, hc9.2⟩ dL_law_838 (fun H locs I => ?_)
  have I := wk_comm I
  refine lv_istore (lv' := [(6, .int b2), (5, .int v), (4, .int (nI i)), (3, .ref ob), (2, .ref (bb 0)), (1, .ref (a 0)), (0, .ref b)]) hx hb dL_law_841 hl (by decide) rfl (fun ls hl => ?_)
  refine lv_aload_n hx hb dL_law_843 rfl (lv_at hl 4 rfl) ?_
  have I := wk_comm I
  refine r_callF1 (ws' := mW g bb ms') (As := []) (v := .int (f5_thrown ms')) (rest := []) E I hl.1 kM_101 (c5_thrown rfl) mW_k (q0 := 0) rfl rfl rfl rfl (Nat.le_of_ble_eq_true rfl) ⟨(Nat.le_of_ble_eq_true rfl), (Nat.le_of_ble_eq_true rfl)⟩ ⟨hc9.1, hc9.2⟩ dL_law_844 (fun H locs I => ?_)
  have I := wk_comm I
  refine lv_iload hx hb dL_law_847 (lv_at hl 1 rfl) ?_
  refine lv_icmp_eq (tgt := 854) hx hb dL_law_849 (by decide) (fun _ => ?_) (fun hc => absurd hth hc)
  refine lv_iload hx hb dL_law_854 (lv_at hl 1 rfl) ?_
  refine lv_if_ne (tgt := 871) hx hb dL_law_856 (by decide) (fun hv0 => ?_) (fun hv0 => ?_)
  · refine lv_goto (tgt := 1707) hx hb dL_law_871 (by decide) ?_
    exact kk _ _ _ _ _ _ hR I (lv_sub hl [2, 3, 4, 5, 6] rfl)
  obtain ⟨r9, hr9⟩ := hco_0 (by decide) hv hv0
  have hb9 := hbb r9 hr9
  refine lv_aload_n hx hb dL_law_859 rfl (lv_at hl 3 rfl) ?_
  refine lv_iconst (v := (0 : Int32)) hx hb dL_law_860 (by decide) ?_
  refine r_lald E I 50 (f := houtI w res) rfl (by decide) dL_law_861 ?_
  refine lv_iload hx hb dL_law_862 (lv_at hl 0 rfl) ?_
  refine lv_i2l (v := b2.toInt64) hx hb dL_law_864 rfl ?_
  refine W.lcmp hx hb dL_law_865 ?_
  refine lv_if_eq (tgt := 871) hx hb dL_law_866 (by decide) (fun _ => ?_) (fun hc => absurd (lg_cmp_self (by rw [hr9, houtI_at, hb9])) hc)
  refine lv_goto (tgt := 1707) hx hb dL_law_871 (by decide) ?_
  exact kk _ _ _ _ _ _ hR I (lv_sub hl [2, 3, 4, 5, 6] rfl)
set_option maxHeartbeats 4000000 in
set_option maxRecDepth 100000 in
theorem law_13 {p : Program} {l : Launch} {e : Env} {s : State} {m : MethodId} {below : List Frame} {meth : Method} {c : Code} {H : Heap} {locs : List Loc} {cells slots : Nat} {Q : State → Prop} {ls : Array Slot} {D : va_G} {g : Nat → ClassId} {A : Nat → Prop} {b L : Nat} {xs : Nat → Int32} {a bb : Nat → Nat} {ob : Nat} {st : CS} {ms : MS} {w : Nat → Int64} {i : Nat} {Rel : CS → MS → Prop} (C : LC p l s m c b L xs D g A) (hi : i + 5 ≤ L) (ok : okI (fun z => f4_times z (xs (i + 1)) (xs (i + 2))) (fun z => f5_times z (xs (i + 1)) (xs (i + 2))) [0] Rel st ms) (I : wk D (lW g a bb ob st ms w) A s.heap H locs) (hl : lv_has ls 9 [(4, .int (nI i)), (3, .ref ob), (2, .ref (bb 0)), (1, .ref (a 0)), (0, .ref b)]) (hcs : cells + 1 ≤ room_1.cells ∧ slots + 6 ≤ room_1.slots) (kk : ∀ (st' : CS) (ms' : MS) (w' : Nat → Int64) (H : Heap) (locs : List Loc) (ls : Array Slot), Rel st' ms' → wk D (lW g a bb ob st' ms' w') A s.heap H locs → lv_has ls 9 [(4, .int (nI i)), (3, .ref ob), (2, .ref (bb 0)), (1, .ref (a 0)), (0, .ref b)] → W p l e room_1 s m #[Value.ref b] below meth c H locs (cells + 1) (slots + 6) Q (F0 m 1707 ls [])) : W p l e room_1 s m #[Value.ref b] below meth c H locs cells slots Q (F0 m 874 ls []) := by
  obtain ⟨E, xw, nc, hX, hbl, hbA, hL, hl0⟩ := id C
  have hx := E.1.1
  have hb := E.1.2.1
  obtain ⟨st', res, ms', b2, v, hf, hm, hv, hth, hbb, hR⟩ := ok
  have hc9 : cells + 1 ≤ room_1.cells ∧ slots + 6 ≤ room_1.slots := hcs
  refine lv_aload_n hx hb dL_law_874 rfl (lv_at hl 3 rfl) ?_
  refine lv_aload_n hx hb dL_law_875 rfl (lv_at hl 4 rfl) ?_
  refine lv_iload hx hb dL_law_876 (lv_at hl 0 rfl) ?_
  refine lv_iconst (v := (1 : Int32)) hx hb dL_law_878 (by decide) ?_
  refine lv_iadd hx hb dL_law_879 ?_
  refine l_sld (i := i) (k := 1) C I (by omega) (nI_k i 1 rfl) dL_law_880 ?_
  refine lv_aload_n hx hb dL_law_881 rfl (lv_at hl 4 rfl) ?_
  refine lv_iload hx hb dL_law_882 (lv_at hl 0 rfl) ?_
  refine lv_iconst (v := (2 : Int32)) hx hb dL_law_884 (by decide) ?_
  refine lv_iadd hx hb dL_law_885 ?_
  refine l_sld (i := i) (k := 2) C I (by omega) (nI_k i 2 rfl) dL_law_886 ?_
  refine lv_aload_n hx hb dL_law_887 rfl (lv_at hl 1 rfl) ?_
  refine r_callH (ws' := cW g a st' ++ oW g ob (houtI w res)) (As := [.ref (a 0), .int (xs (i + 1)), .int (xs (i + 2)), .ref ob]) (rest := []) xw nc rfl E I hl.1 kH_145 (h_times hl0 hf hv) (by rw [List.map_append, List.map_append]; rfl) rfl rfl (Nat.le_of_ble_eq_true rfl) ⟨(Nat.le_of_ble_eq_true rfl), (Nat.le_of_ble_eq_true rfl)⟩ hcs dL_law_888 (fun H locs I => ?_)
  refine lv_istore (lv' := [(5, .int v), (4, .int (nI i)), (3, .ref ob), (2, .ref (bb 0)), (1, .ref (a 0)), (0, .ref b)]) hx hb dL_law_891 hl (by decide) rfl (fun ls hl => ?_)
  refine lv_aload_n hx hb dL_law_893 rfl (lv_at hl 3 rfl) ?_
  refine lv_aload_n hx hb dL_law_894 rfl (lv_at hl 5 rfl) ?_
  refine lv_iload hx hb dL_law_895 (lv_at hl 1 rfl) ?_
  refine lv_iconst (v := (1 : Int32)) hx hb dL_law_897 (by decide) ?_
  refine lv_iadd hx hb dL_law_898 ?_
  refine l_sld (i := i) (k := 1) C I (by omega) (nI_k i 1 rfl) dL_law_899 ?_
  refine lv_aload_n hx hb dL_law_900 rfl (lv_at hl 5 rfl) ?_
  refine lv_iload hx hb dL_law_901 (lv_at hl 1 rfl) ?_
  refine lv_iconst (v := (2 : Int32)) hx hb dL_law_903 (by decide) ?_
  refine lv_iadd hx hb dL_law_904 ?_
  refine l_sld (i := i) (k := 2) C I (by omega) (nI_k i 2 rfl) dL_law_905 ?_
  have I := wk_comm I
  refine r_callF1 (ws' := mW g bb ms') (As := [.int (xs (i + 1)), .int (xs (i + 2))]) (v := .int b2) (rest := []) E I hl.1 kM_147 (c5_times hm) mW_k (q0 := 0) rfl rfl rfl rfl (Nat.le_of_ble_eq_true rfl) ⟨(Nat.le_of_ble_eq_true rfl), (Nat.le_of_ble_eq_true rfl)⟩ ⟨hc9.1, hc9.2⟩ dL_law_906 (fun H locs I => ?_)
  have I := wk_comm I
  refine lv_istore (lv' := [(6, .int b2), (5, .int v), (4, .int (nI i)), (3, .ref ob), (2, .ref (bb 0)), (1, .ref (a 0)), (0, .ref b)]) hx hb dL_law_909 hl (by decide) rfl (fun ls hl => ?_)
  refine lv_aload_n hx hb dL_law_911 rfl (lv_at hl 4 rfl) ?_
  have I := wk_comm I
  refine r_callF1 (ws' := mW g bb ms') (As := []) (v := .int (f5_thrown ms')) (rest := []) E I hl.1 kM_101 (c5_thrown rfl) mW_k (q0 := 0) rfl rfl rfl rfl (Nat.le_of_ble_eq_true rfl) ⟨(Nat.le_of_ble_eq_true rfl), (Nat.le_of_ble_eq_true rfl)⟩ ⟨hc9.1, hc9.2⟩ dL_law_912 (fun H locs I => ?_)
  have I := wk_comm I
  refine lv_iload hx hb dL_law_915 (lv_at hl 1 rfl) ?_
  refine lv_icmp_eq (tgt := 922) hx hb dL_law_917 (by decide) (fun _ => ?_) (fun hc => absurd hth hc)
  refine lv_iload hx hb dL_law_922 (lv_at hl 1 rfl) ?_
  refine lv_if_ne (tgt := 939) hx hb dL_law_924 (by decide) (fun hv0 => ?_) (fun hv0 => ?_)
  · refine lv_goto (tgt := 1707) hx hb dL_law_939 (by decide) ?_
    exact kk _ _ _ _ _ _ hR I (lv_sub hl [2, 3, 4, 5, 6] rfl)
  obtain ⟨r9, hr9⟩ := hco_0 (by decide) hv hv0
  have hb9 := hbb r9 hr9
  refine lv_aload_n hx hb dL_law_927 rfl (lv_at hl 3 rfl) ?_
  refine lv_iconst (v := (0 : Int32)) hx hb dL_law_928 (by decide) ?_
  refine r_lald E I 50 (f := houtI w res) rfl (by decide) dL_law_929 ?_
  refine lv_iload hx hb dL_law_930 (lv_at hl 0 rfl) ?_
  refine lv_i2l (v := b2.toInt64) hx hb dL_law_932 rfl ?_
  refine W.lcmp hx hb dL_law_933 ?_
  refine lv_if_eq (tgt := 939) hx hb dL_law_934 (by decide) (fun _ => ?_) (fun hc => absurd (lg_cmp_self (by rw [hr9, houtI_at, hb9])) hc)
  refine lv_goto (tgt := 1707) hx hb dL_law_939 (by decide) ?_
  exact kk _ _ _ _ _ _ hR I (lv_sub hl [2, 3, 4, 5, 6] rfl)
set_option maxHeartbeats 4000000 in
set_option maxRecDepth 100000 in
theorem law_14 {p : Program} {l : Launch} {e : Env} {s : State} {m : MethodId} {below : List Frame} {meth : Method} {c : Code} {H : Heap} {locs : List Loc} {cells slots : Nat} {Q : State → Prop} {ls : Array Slot} {D : va_G} {g : Nat → ClassId} {A : Nat → Prop} {b L : Nat} {xs : Nat → Int32} {a bb : Nat → Nat} {ob : Nat} {st : CS} {ms : MS} {w : Nat → Int64} {i : Nat} {Rel : CS → MS → Prop} (C : LC p l s m c b L xs D g A) (hi : i + 5 ≤ L) (ok : okI (fun z => f4_rest z (xs (i + 1))) (fun z => f5_rest z (xs (i + 1))) [0] Rel st ms) (I : wk D (lW g a bb ob st ms w) A s.heap H locs) (hl : lv_has ls 9 [(4, .int (nI i)), (3, .ref ob), (2, .ref (bb 0)), (1, .ref (a 0)), (0, .ref b)]) (hcs : cells + 1 ≤ room_1.cells ∧ slots + 6 ≤ room_1.slots) (kk : ∀ (st' : CS) (ms' : MS) (w' : Nat → Int64) (H : Heap) (locs : List Loc) (ls : Array Slot), Rel st' ms' → wk D (lW g a bb ob st' ms' w') A s.heap H locs → lv_has ls 9 [(4, .int (nI i)), (3, .ref ob), (2, .ref (bb 0)), (1, .ref (a 0)), (0, .ref b)] → W p l e room_1 s m #[Value.ref b] below meth c H locs (cells + 1) (slots + 6) Q (F0 m 1707 ls [])) : W p l e room_1 s m #[Value.ref b] below meth c H locs cells slots Q (F0 m 942 ls []) := by
  obtain ⟨E, xw, nc, hX, hbl, hbA, hL, hl0⟩ := id C
  have hx := E.1.1
  have hb := E.1.2.1
  obtain ⟨st', res, ms', b2, v, hf, hm, hv, hth, hbb, hR⟩ := ok
  have hc9 : cells + 1 ≤ room_1.cells ∧ slots + 6 ≤ room_1.slots := hcs
  refine lv_aload_n hx hb dL_law_942 rfl (lv_at hl 3 rfl) ?_
  refine lv_aload_n hx hb dL_law_943 rfl (lv_at hl 4 rfl) ?_
  refine lv_iload hx hb dL_law_944 (lv_at hl 0 rfl) ?_
  refine lv_iconst (v := (1 : Int32)) hx hb dL_law_946 (by decide) ?_
  refine lv_iadd hx hb dL_law_947 ?_
  refine l_sld (i := i) (k := 1) C I (by omega) (nI_k i 1 rfl) dL_law_948 ?_
  refine lv_aload_n hx hb dL_law_949 rfl (lv_at hl 1 rfl) ?_
  refine r_callH (ws' := cW g a st' ++ oW g ob (houtI w res)) (As := [.ref (a 0), .int (xs (i + 1)), .ref ob]) (rest := []) xw nc rfl E I hl.1 kH_148 (h_rest hl0 hf hv) (by rw [List.map_append, List.map_append]; rfl) rfl rfl (Nat.le_of_ble_eq_true rfl) ⟨(Nat.le_of_ble_eq_true rfl), (Nat.le_of_ble_eq_true rfl)⟩ hcs dL_law_950 (fun H locs I => ?_)
  refine lv_istore (lv' := [(5, .int v), (4, .int (nI i)), (3, .ref ob), (2, .ref (bb 0)), (1, .ref (a 0)), (0, .ref b)]) hx hb dL_law_953 hl (by decide) rfl (fun ls hl => ?_)
  refine lv_aload_n hx hb dL_law_955 rfl (lv_at hl 3 rfl) ?_
  refine lv_aload_n hx hb dL_law_956 rfl (lv_at hl 5 rfl) ?_
  refine lv_iload hx hb dL_law_957 (lv_at hl 1 rfl) ?_
  refine lv_iconst (v := (1 : Int32)) hx hb dL_law_959 (by decide) ?_
  refine lv_iadd hx hb dL_law_960 ?_
  refine l_sld (i := i) (k := 1) C I (by omega) (nI_k i 1 rfl) dL_law_961 ?_
  have I := wk_comm I
  refine r_callF1 (ws' := mW g bb ms') (As := [.int (xs (i + 1))]) (v := .int b2) (rest := []) E I hl.1 kM_150 (c5_rest hm) mW_k (q0 := 0) rfl rfl rfl rfl (Nat.le_of_ble_eq_true rfl) ⟨(Nat.le_of_ble_eq_true rfl), (Nat.le_of_ble_eq_true rfl)⟩ ⟨hc9.1, hc9.2⟩ dL_law_962 (fun H locs I => ?_)
  have I := wk_comm I
  refine lv_istore (lv' := [(6, .int b2), (5, .int v), (4, .int (nI i)), (3, .ref ob), (2, .ref (bb 0)), (1, .ref (a 0)), (0, .ref b)]) hx hb dL_law_965 hl (by decide) rfl (fun ls hl => ?_)
  refine lv_aload_n hx hb dL_law_967 rfl (lv_at hl 4 rfl) ?_
  have I := wk_comm I
  refine r_callF1 (ws' := mW g bb ms') (As := []) (v := .int (f5_thrown ms')) (rest := []) E I hl.1 kM_101 (c5_thrown rfl) mW_k (q0 := 0) rfl rfl rfl rfl (Nat.le_of_ble_eq_true rfl) ⟨(Nat.le_of_ble_eq_true rfl), (Nat.le_of_ble_eq_true rfl)⟩ ⟨hc9.1, hc9.2⟩ dL_law_968 (fun H locs I => ?_)
  have I := wk_comm I
  refine lv_iload hx hb dL_law_971 (lv_at hl 1 rfl) ?_
  refine lv_icmp_eq (tgt := 978) hx hb dL_law_973 (by decide) (fun _ => ?_) (fun hc => absurd hth hc)
  refine lv_iload hx hb dL_law_978 (lv_at hl 1 rfl) ?_
  refine lv_if_ne (tgt := 995) hx hb dL_law_980 (by decide) (fun hv0 => ?_) (fun hv0 => ?_)
  · refine lv_goto (tgt := 1707) hx hb dL_law_995 (by decide) ?_
    exact kk _ _ _ _ _ _ hR I (lv_sub hl [2, 3, 4, 5, 6] rfl)
  obtain ⟨r9, hr9⟩ := hco_0 (by decide) hv hv0
  have hb9 := hbb r9 hr9
  refine lv_aload_n hx hb dL_law_983 rfl (lv_at hl 3 rfl) ?_
  refine lv_iconst (v := (0 : Int32)) hx hb dL_law_984 (by decide) ?_
  refine r_lald E I 50 (f := houtI w res) rfl (by decide) dL_law_985 ?_
  refine lv_iload hx hb dL_law_986 (lv_at hl 0 rfl) ?_
  refine lv_i2l (v := b2.toInt64) hx hb dL_law_988 rfl ?_
  refine W.lcmp hx hb dL_law_989 ?_
  refine lv_if_eq (tgt := 995) hx hb dL_law_990 (by decide) (fun _ => ?_) (fun hc => absurd (lg_cmp_self (by rw [hr9, houtI_at, hb9])) hc)
  refine lv_goto (tgt := 1707) hx hb dL_law_995 (by decide) ?_
  exact kk _ _ _ _ _ _ hR I (lv_sub hl [2, 3, 4, 5, 6] rfl)
set_option maxHeartbeats 4000000 in
set_option maxRecDepth 100000 in
theorem law_15 {p : Program} {l : Launch} {e : Env} {s : State} {m : MethodId} {below : List Frame} {meth : Method} {c : Code} {H : Heap} {locs : List Loc} {cells slots : Nat} {Q : State → Prop} {ls : Array Slot} {D : va_G} {g : Nat → ClassId} {A : Nat → Prop} {b L : Nat} {xs : Nat → Int32} {a bb : Nat → Nat} {ob : Nat} {st : CS} {ms : MS} {w : Nat → Int64} {i : Nat} {Rel : CS → MS → Prop} (C : LC p l s m c b L xs D g A) (hi : i + 5 ≤ L) (ok : okI (fun z => f4_solutions z (xs (i + 1))) (fun z => f5_solutions z (xs (i + 1))) [0] Rel st ms) (I : wk D (lW g a bb ob st ms w) A s.heap H locs) (hl : lv_has ls 9 [(4, .int (nI i)), (3, .ref ob), (2, .ref (bb 0)), (1, .ref (a 0)), (0, .ref b)]) (hcs : cells + 1 ≤ room_1.cells ∧ slots + 6 ≤ room_1.slots) (kk : ∀ (st' : CS) (ms' : MS) (w' : Nat → Int64) (H : Heap) (locs : List Loc) (ls : Array Slot), Rel st' ms' → wk D (lW g a bb ob st' ms' w') A s.heap H locs → lv_has ls 9 [(4, .int (nI i)), (3, .ref ob), (2, .ref (bb 0)), (1, .ref (a 0)), (0, .ref b)] → W p l e room_1 s m #[Value.ref b] below meth c H locs (cells + 1) (slots + 6) Q (F0 m 1707 ls [])) : W p l e room_1 s m #[Value.ref b] below meth c H locs cells slots Q (F0 m 998 ls []) := by
  obtain ⟨E, xw, nc, hX, hbl, hbA, hL, hl0⟩ := id C
  have hx := E.1.1
  have hb := E.1.2.1
  obtain ⟨st', res, ms', b2, v, hf, hm, hv, hth, hbb, hR⟩ := ok
  have hc9 : cells + 1 ≤ room_1.cells ∧ slots + 6 ≤ room_1.slots := hcs
  refine lv_aload_n hx hb dL_law_998 rfl (lv_at hl 3 rfl) ?_
  refine lv_aload_n hx hb dL_law_999 rfl (lv_at hl 4 rfl) ?_
  refine lv_iload hx hb dL_law_1000 (lv_at hl 0 rfl) ?_
  refine lv_iconst (v := (1 : Int32)) hx hb dL_law_1002 (by decide) ?_
  refine lv_iadd hx hb dL_law_1003 ?_
  refine l_sld (i := i) (k := 1) C I (by omega) (nI_k i 1 rfl) dL_law_1004 ?_
  refine lv_aload_n hx hb dL_law_1005 rfl (lv_at hl 1 rfl) ?_
  refine r_callH (ws' := cW g a st' ++ oW g ob (houtI w res)) (As := [.ref (a 0), .int (xs (i + 1)), .ref ob]) (rest := []) xw nc rfl E I hl.1 kH_151 (h_solutions hl0 hf hv) (by rw [List.map_append, List.map_append]; rfl) rfl rfl (Nat.le_of_ble_eq_true rfl) ⟨(Nat.le_of_ble_eq_true rfl), (Nat.le_of_ble_eq_true rfl)⟩ hcs dL_law_1006 (fun H locs I => ?_)
  refine lv_istore (lv' := [(5, .int v), (4, .int (nI i)), (3, .ref ob), (2, .ref (bb 0)), (1, .ref (a 0)), (0, .ref b)]) hx hb dL_law_1009 hl (by decide) rfl (fun ls hl => ?_)
  refine lv_aload_n hx hb dL_law_1011 rfl (lv_at hl 3 rfl) ?_
  refine lv_aload_n hx hb dL_law_1012 rfl (lv_at hl 5 rfl) ?_
  refine lv_iload hx hb dL_law_1013 (lv_at hl 1 rfl) ?_
  refine lv_iconst (v := (1 : Int32)) hx hb dL_law_1015 (by decide) ?_
  refine lv_iadd hx hb dL_law_1016 ?_
  refine l_sld (i := i) (k := 1) C I (by omega) (nI_k i 1 rfl) dL_law_1017 ?_
  have I := wk_comm I
  refine r_callF1 (ws' := mW g bb ms') (As := [.int (xs (i + 1))]) (v := .int b2) (rest := []) E I hl.1 kM_153 (c5_solutions hm) mW_k (q0 := 0) rfl rfl rfl rfl (Nat.le_of_ble_eq_true rfl) ⟨(Nat.le_of_ble_eq_true rfl), (Nat.le_of_ble_eq_true rfl)⟩ ⟨hc9.1, hc9.2⟩ dL_law_1018 (fun H locs I => ?_)
  have I := wk_comm I
  refine lv_istore (lv' := [(6, .int b2), (5, .int v), (4, .int (nI i)), (3, .ref ob), (2, .ref (bb 0)), (1, .ref (a 0)), (0, .ref b)]) hx hb dL_law_1021 hl (by decide) rfl (fun ls hl => ?_)
  refine lv_aload_n hx hb dL_law_1023 rfl (lv_at hl 4 rfl) ?_
  have I := wk_comm I
  refine r_callF1 (ws' := mW g bb ms') (As := []) (v := .int (f5_thrown ms')) (rest := []) E I hl.1 kM_101 (c5_thrown rfl) mW_k (q0 := 0) rfl rfl rfl rfl (Nat.le_of_ble_eq_true rfl) ⟨(Nat.le_of_ble_eq_true rfl), (Nat.le_of_ble_eq_true rfl)⟩ ⟨hc9.1, hc9.2⟩ dL_law_1024 (fun H locs I => ?_)
  have I := wk_comm I
  refine lv_iload hx hb dL_law_1027 (lv_at hl 1 rfl) ?_
  refine lv_icmp_eq (tgt := 1034) hx hb dL_law_1029 (by decide) (fun _ => ?_) (fun hc => absurd hth hc)
  refine lv_iload hx hb dL_law_1034 (lv_at hl 1 rfl) ?_
  refine lv_if_ne (tgt := 1051) hx hb dL_law_1036 (by decide) (fun hv0 => ?_) (fun hv0 => ?_)
  · refine lv_goto (tgt := 1707) hx hb dL_law_1051 (by decide) ?_
    exact kk _ _ _ _ _ _ hR I (lv_sub hl [2, 3, 4, 5, 6] rfl)
  obtain ⟨r9, hr9⟩ := hco_0 (by decide) hv hv0
  have hb9 := hbb r9 hr9
  refine lv_aload_n hx hb dL_law_1039 rfl (lv_at hl 3 rfl) ?_
  refine lv_iconst (v := (0 : Int32)) hx hb dL_law_1040 (by decide) ?_
  refine r_lald E I 50 (f := houtI w res) rfl (by decide) dL_law_1041 ?_
  refine lv_iload hx hb dL_law_1042 (lv_at hl 0 rfl) ?_
  refine lv_i2l (v := b2.toInt64) hx hb dL_law_1044 rfl ?_
  refine W.lcmp hx hb dL_law_1045 ?_
  refine lv_if_eq (tgt := 1051) hx hb dL_law_1046 (by decide) (fun _ => ?_) (fun hc => absurd (lg_cmp_self (by rw [hr9, houtI_at, hb9])) hc)
  refine lv_goto (tgt := 1707) hx hb dL_law_1051 (by decide) ?_
  exact kk _ _ _ _ _ _ hR I (lv_sub hl [2, 3, 4, 5, 6] rfl)
set_option maxHeartbeats 4000000 in
set_option maxRecDepth 100000 in
theorem law_16 {p : Program} {l : Launch} {e : Env} {s : State} {m : MethodId} {below : List Frame} {meth : Method} {c : Code} {H : Heap} {locs : List Loc} {cells slots : Nat} {Q : State → Prop} {ls : Array Slot} {D : va_G} {g : Nat → ClassId} {A : Nat → Prop} {b L : Nat} {xs : Nat → Int32} {a bb : Nat → Nat} {ob : Nat} {st : CS} {ms : MS} {w : Nat → Int64} {i : Nat} {Rel : CS → MS → Prop} (C : LC p l s m c b L xs D g A) (hi : i + 5 ≤ L) (ok : okJ (fun z => f4_matchers z (xs (i + 1))) (fun z => f5_matchers z (xs (i + 1))) [1] Rel st ms) (I : wk D (lW g a bb ob st ms w) A s.heap H locs) (hl : lv_has ls 9 [(4, .int (nI i)), (3, .ref ob), (2, .ref (bb 0)), (1, .ref (a 0)), (0, .ref b)]) (hcs : cells + 1 ≤ room_1.cells ∧ slots + 6 ≤ room_1.slots) (kk : ∀ (st' : CS) (ms' : MS) (w' : Nat → Int64) (H : Heap) (locs : List Loc) (ls : Array Slot), Rel st' ms' → wk D (lW g a bb ob st' ms' w') A s.heap H locs → lv_has ls 9 [(4, .int (nI i)), (3, .ref ob), (2, .ref (bb 0)), (1, .ref (a 0)), (0, .ref b)] → W p l e room_1 s m #[Value.ref b] below meth c H locs (cells + 1) (slots + 6) Q (F0 m 1707 ls [])) : W p l e room_1 s m #[Value.ref b] below meth c H locs cells slots Q (F0 m 1054 ls []) := by
  obtain ⟨E, xw, nc, hX, hbl, hbA, hL, hl0⟩ := id C
  have hx := E.1.1
  have hb := E.1.2.1
  obtain ⟨st', res, ms', b2, v, hf, hm, hv, hth, hbb, hR⟩ := ok
  have hc9 : cells + 1 ≤ room_1.cells ∧ slots + 6 ≤ room_1.slots := hcs
  refine lv_aload_n hx hb dL_law_1054 rfl (lv_at hl 3 rfl) ?_
  refine lv_aload_n hx hb dL_law_1055 rfl (lv_at hl 4 rfl) ?_
  refine lv_iload hx hb dL_law_1056 (lv_at hl 0 rfl) ?_
  refine lv_iconst (v := (1 : Int32)) hx hb dL_law_1058 (by decide) ?_
  refine lv_iadd hx hb dL_law_1059 ?_
  refine l_sld (i := i) (k := 1) C I (by omega) (nI_k i 1 rfl) dL_law_1060 ?_
  refine lv_aload_n hx hb dL_law_1061 rfl (lv_at hl 1 rfl) ?_
  refine r_callH (ws' := cW g a st' ++ oW g ob (houtJ w res)) (As := [.ref (a 0), .int (xs (i + 1)), .ref ob]) (rest := []) xw nc rfl E I hl.1 kH_154 (h_matchers hl0 hf hv) (by rw [List.map_append, List.map_append]; rfl) rfl rfl (Nat.le_of_ble_eq_true rfl) ⟨(Nat.le_of_ble_eq_true rfl), (Nat.le_of_ble_eq_true rfl)⟩ hcs dL_law_1062 (fun H locs I => ?_)
  refine lv_istore (lv' := [(5, .int v), (4, .int (nI i)), (3, .ref ob), (2, .ref (bb 0)), (1, .ref (a 0)), (0, .ref b)]) hx hb dL_law_1065 hl (by decide) rfl (fun ls hl => ?_)
  refine lv_aload_n hx hb dL_law_1067 rfl (lv_at hl 3 rfl) ?_
  refine lv_aload_n hx hb dL_law_1068 rfl (lv_at hl 5 rfl) ?_
  refine lv_iload hx hb dL_law_1069 (lv_at hl 1 rfl) ?_
  refine lv_iconst (v := (1 : Int32)) hx hb dL_law_1071 (by decide) ?_
  refine lv_iadd hx hb dL_law_1072 ?_
  refine l_sld (i := i) (k := 1) C I (by omega) (nI_k i 1 rfl) dL_law_1073 ?_
  have I := wk_comm I
  refine r_callF1 (ws' := mW g bb ms') (As := [.int (xs (i + 1))]) (v := .long b2) (rest := []) E I hl.1 kM_156 (c5_matchers hm) mW_k (q0 := 0) rfl rfl rfl rfl (Nat.le_of_ble_eq_true rfl) ⟨(Nat.le_of_ble_eq_true rfl), (Nat.le_of_ble_eq_true rfl)⟩ ⟨hc9.1, hc9.2⟩ dL_law_1074 (fun H locs I => ?_)
  have I := wk_comm I
  refine lv_lstore (lv' := [(6, .long b2), (5, .int v), (4, .int (nI i)), (3, .ref ob), (2, .ref (bb 0)), (1, .ref (a 0)), (0, .ref b)]) hx hb dL_law_1077 hl (by decide) rfl (fun ls hl => ?_)
  refine lv_aload_n hx hb dL_law_1079 rfl (lv_at hl 4 rfl) ?_
  have I := wk_comm I
  refine r_callF1 (ws' := mW g bb ms') (As := []) (v := .int (f5_thrown ms')) (rest := []) E I hl.1 kM_101 (c5_thrown rfl) mW_k (q0 := 0) rfl rfl rfl rfl (Nat.le_of_ble_eq_true rfl) ⟨(Nat.le_of_ble_eq_true rfl), (Nat.le_of_ble_eq_true rfl)⟩ ⟨hc9.1, hc9.2⟩ dL_law_1080 (fun H locs I => ?_)
  have I := wk_comm I
  refine lv_iload hx hb dL_law_1083 (lv_at hl 1 rfl) ?_
  refine lv_icmp_eq (tgt := 1090) hx hb dL_law_1085 (by decide) (fun _ => ?_) (fun hc => absurd hth hc)
  refine lv_iload hx hb dL_law_1090 (lv_at hl 1 rfl) ?_
  refine lv_if_ne (tgt := 1106) hx hb dL_law_1092 (by decide) (fun hv0 => ?_) (fun hv0 => ?_)
  · refine lv_goto (tgt := 1707) hx hb dL_law_1106 (by decide) ?_
    exact kk _ _ _ _ _ _ hR I (lv_sub hl [2, 3, 4, 5, 6] rfl)
  obtain ⟨r9, hr9⟩ := hco_0 (by decide) hv hv0
  have hb9 := hbb r9 hr9
  refine lv_aload_n hx hb dL_law_1095 rfl (lv_at hl 3 rfl) ?_
  refine lv_iconst (v := (0 : Int32)) hx hb dL_law_1096 (by decide) ?_
  refine r_lald E I 50 (f := houtJ w res) rfl (by decide) dL_law_1097 ?_
  refine lv_lload hx hb dL_law_1098 (lv_at hl 0 rfl) ?_
  refine W.lcmp hx hb dL_law_1100 ?_
  refine lv_if_eq (tgt := 1106) hx hb dL_law_1101 (by decide) (fun _ => ?_) (fun hc => absurd (lg_cmp_self (by rw [hr9, houtJ_at, hb9])) hc)
  refine lv_goto (tgt := 1707) hx hb dL_law_1106 (by decide) ?_
  exact kk _ _ _ _ _ _ hR I (lv_sub hl [2, 3, 4, 5, 6] rfl)
set_option maxHeartbeats 4000000 in
set_option maxRecDepth 100000 in
theorem law_17 {p : Program} {l : Launch} {e : Env} {s : State} {m : MethodId} {below : List Frame} {meth : Method} {c : Code} {H : Heap} {locs : List Loc} {cells slots : Nat} {Q : State → Prop} {ls : Array Slot} {D : va_G} {g : Nat → ClassId} {A : Nat → Prop} {b L : Nat} {xs : Nat → Int32} {a bb : Nat → Nat} {ob : Nat} {st : CS} {ms : MS} {w : Nat → Int64} {i : Nat} {Rel : CS → MS → Prop} (C : LC p l s m c b L xs D g A) (hi : i + 5 ≤ L) (ok : okI (fun z => f4_value z (xs (i + 1)) (xs (i + 2)) (xs (i + 3))) (fun z => f5_value z (xs (i + 1)) (xs (i + 2)) (xs (i + 3))) [0, 1] Rel st ms) (I : wk D (lW g a bb ob st ms w) A s.heap H locs) (hl : lv_has ls 9 [(4, .int (nI i)), (3, .ref ob), (2, .ref (bb 0)), (1, .ref (a 0)), (0, .ref b)]) (hcs : cells + 1 ≤ room_1.cells ∧ slots + 6 ≤ room_1.slots) (kk : ∀ (st' : CS) (ms' : MS) (w' : Nat → Int64) (H : Heap) (locs : List Loc) (ls : Array Slot), Rel st' ms' → wk D (lW g a bb ob st' ms' w') A s.heap H locs → lv_has ls 9 [(4, .int (nI i)), (3, .ref ob), (2, .ref (bb 0)), (1, .ref (a 0)), (0, .ref b)] → W p l e room_1 s m #[Value.ref b] below meth c H locs (cells + 1) (slots + 6) Q (F0 m 1707 ls [])) : W p l e room_1 s m #[Value.ref b] below meth c H locs cells slots Q (F0 m 1109 ls []) := by
  obtain ⟨E, xw, nc, hX, hbl, hbA, hL, hl0⟩ := id C
  have hx := E.1.1
  have hb := E.1.2.1
  obtain ⟨st', res, ms', b2, v, hf, hm, hv, hth, hbb, hR⟩ := ok
  have hc9 : cells + 1 ≤ room_1.cells ∧ slots + 6 ≤ room_1.slots := hcs
  refine lv_aload_n hx hb dL_law_1109 rfl (lv_at hl 3 rfl) ?_
  refine lv_aload_n hx hb dL_law_1110 rfl (lv_at hl 4 rfl) ?_
  refine lv_iload hx hb dL_law_1111 (lv_at hl 0 rfl) ?_
  refine lv_iconst (v := (1 : Int32)) hx hb dL_law_1113 (by decide) ?_
  refine lv_iadd hx hb dL_law_1114 ?_
  refine l_sld (i := i) (k := 1) C I (by omega) (nI_k i 1 rfl) dL_law_1115 ?_
  refine lv_aload_n hx hb dL_law_1116 rfl (lv_at hl 4 rfl) ?_
  refine lv_iload hx hb dL_law_1117 (lv_at hl 0 rfl) ?_
  refine lv_iconst (v := (2 : Int32)) hx hb dL_law_1119 (by decide) ?_
  refine lv_iadd hx hb dL_law_1120 ?_
  refine l_sld (i := i) (k := 2) C I (by omega) (nI_k i 2 rfl) dL_law_1121 ?_
  refine lv_aload_n hx hb dL_law_1122 rfl (lv_at hl 4 rfl) ?_
  refine lv_iload hx hb dL_law_1123 (lv_at hl 0 rfl) ?_
  refine lv_iconst (v := (3 : Int32)) hx hb dL_law_1125 (by decide) ?_
  refine lv_iadd hx hb dL_law_1126 ?_
  refine l_sld (i := i) (k := 3) C I (by omega) (nI_k i 3 rfl) dL_law_1127 ?_
  refine lv_aload_n hx hb dL_law_1128 rfl (lv_at hl 1 rfl) ?_
  refine r_callH (ws' := cW g a st' ++ oW g ob (houtI w res)) (As := [.ref (a 0), .int (xs (i + 1)), .int (xs (i + 2)), .int (xs (i + 3)), .ref ob]) (rest := []) xw nc rfl E I hl.1 kH_157 (h_value hl0 hf hv) (by rw [List.map_append, List.map_append]; rfl) rfl rfl (Nat.le_of_ble_eq_true rfl) ⟨(Nat.le_of_ble_eq_true rfl), (Nat.le_of_ble_eq_true rfl)⟩ hcs dL_law_1129 (fun H locs I => ?_)
  refine lv_istore (lv' := [(5, .int v), (4, .int (nI i)), (3, .ref ob), (2, .ref (bb 0)), (1, .ref (a 0)), (0, .ref b)]) hx hb dL_law_1132 hl (by decide) rfl (fun ls hl => ?_)
  refine lv_aload_n hx hb dL_law_1134 rfl (lv_at hl 3 rfl) ?_
  refine lv_aload_n hx hb dL_law_1135 rfl (lv_at hl 5 rfl) ?_
  refine lv_iload hx hb dL_law_1136 (lv_at hl 1 rfl) ?_
  refine lv_iconst (v := (1 : Int32)) hx hb dL_law_1138 (by decide) ?_
  refine lv_iadd hx hb dL_law_1139 ?_
  refine l_sld (i := i) (k := 1) C I (by omega) (nI_k i 1 rfl) dL_law_1140 ?_
  refine lv_aload_n hx hb dL_law_1141 rfl (lv_at hl 5 rfl) ?_
  refine lv_iload hx hb dL_law_1142 (lv_at hl 1 rfl) ?_
  refine lv_iconst (v := (2 : Int32)) hx hb dL_law_1144 (by decide) ?_
  refine lv_iadd hx hb dL_law_1145 ?_
  refine l_sld (i := i) (k := 2) C I (by omega) (nI_k i 2 rfl) dL_law_1146 ?_
  refine lv_aload_n hx hb dL_law_1147 rfl (lv_at hl 5 rfl) ?_
  refine lv_iload hx hb dL_law_1148 (lv_at hl 1 rfl) ?_
  refine lv_iconst (v := (3 : Int32)) hx hb dL_law_1150 (by decide) ?_
  refine lv_iadd hx hb dL_law_1151 ?_
  refine l_sld (i := i) (k := 3) C I (by omega) (nI_k i 3 rfl) dL_law_1152 ?_
  have I := wk_comm I
  refine r_callF1 (ws' := mW g bb ms') (As := [.int (xs (i + 1)), .int (xs (i + 2)), .int (xs (i + 3))]) (v := .int b2) (rest := []) E I hl.1 kM_159 (c5_value hm) mW_k (q0 := 0) rfl rfl rfl rfl (Nat.le_of_ble_eq_true rfl) ⟨(Nat.le_of_ble_eq_true rfl), (Nat.le_of_ble_eq_true rfl)⟩ ⟨hc9.1, hc9.2⟩ dL_law_1153 (fun H locs I => ?_)
  have I := wk_comm I
  refine lv_istore (lv' := [(6, .int b2), (5, .int v), (4, .int (nI i)), (3, .ref ob), (2, .ref (bb 0)), (1, .ref (a 0)), (0, .ref b)]) hx hb dL_law_1156 hl (by decide) rfl (fun ls hl => ?_)
  refine lv_aload_n hx hb dL_law_1158 rfl (lv_at hl 4 rfl) ?_
  have I := wk_comm I
  refine r_callF1 (ws' := mW g bb ms') (As := []) (v := .int (f5_thrown ms')) (rest := []) E I hl.1 kM_101 (c5_thrown rfl) mW_k (q0 := 0) rfl rfl rfl rfl (Nat.le_of_ble_eq_true rfl) ⟨(Nat.le_of_ble_eq_true rfl), (Nat.le_of_ble_eq_true rfl)⟩ ⟨hc9.1, hc9.2⟩ dL_law_1159 (fun H locs I => ?_)
  have I := wk_comm I
  refine lv_iload hx hb dL_law_1162 (lv_at hl 1 rfl) ?_
  refine lv_icmp_eq (tgt := 1169) hx hb dL_law_1164 (by decide) (fun _ => ?_) (fun hc => absurd hth hc)
  refine lv_iload hx hb dL_law_1169 (lv_at hl 1 rfl) ?_
  refine lv_if_ne (tgt := 1186) hx hb dL_law_1171 (by decide) (fun hv0 => ?_) (fun hv0 => ?_)
  · refine lv_goto (tgt := 1707) hx hb dL_law_1186 (by decide) ?_
    exact kk _ _ _ _ _ _ hR I (lv_sub hl [2, 3, 4, 5, 6] rfl)
  obtain ⟨r9, hr9⟩ := hco_0 (by decide) hv hv0
  have hb9 := hbb r9 hr9
  refine lv_aload_n hx hb dL_law_1174 rfl (lv_at hl 3 rfl) ?_
  refine lv_iconst (v := (0 : Int32)) hx hb dL_law_1175 (by decide) ?_
  refine r_lald E I 50 (f := houtI w res) rfl (by decide) dL_law_1176 ?_
  refine lv_iload hx hb dL_law_1177 (lv_at hl 0 rfl) ?_
  refine lv_i2l (v := b2.toInt64) hx hb dL_law_1179 rfl ?_
  refine W.lcmp hx hb dL_law_1180 ?_
  refine lv_if_eq (tgt := 1186) hx hb dL_law_1181 (by decide) (fun _ => ?_) (fun hc => absurd (lg_cmp_self (by rw [hr9, houtI_at, hb9])) hc)
  refine lv_goto (tgt := 1707) hx hb dL_law_1186 (by decide) ?_
  exact kk _ _ _ _ _ _ hR I (lv_sub hl [2, 3, 4, 5, 6] rfl)
set_option maxHeartbeats 4000000 in
set_option maxRecDepth 100000 in
theorem law_18 {p : Program} {l : Launch} {e : Env} {s : State} {m : MethodId} {below : List Frame} {meth : Method} {c : Code} {H : Heap} {locs : List Loc} {cells slots : Nat} {Q : State → Prop} {ls : Array Slot} {D : va_G} {g : Nat → ClassId} {A : Nat → Prop} {b L : Nat} {xs : Nat → Int32} {a bb : Nat → Nat} {ob : Nat} {st : CS} {ms : MS} {w : Nat → Int64} {i : Nat} {Rel : CS → MS → Prop} (C : LC p l s m c b L xs D g A) (hi : i + 5 ≤ L) (ok : okI (fun z => f4_least z (xs (i + 1)) (xs (i + 2))) (fun z => f5_least z (xs (i + 1)) (xs (i + 2))) [0, 1] Rel st ms) (I : wk D (lW g a bb ob st ms w) A s.heap H locs) (hl : lv_has ls 9 [(4, .int (nI i)), (3, .ref ob), (2, .ref (bb 0)), (1, .ref (a 0)), (0, .ref b)]) (hcs : cells + 1 ≤ room_1.cells ∧ slots + 6 ≤ room_1.slots) (kk : ∀ (st' : CS) (ms' : MS) (w' : Nat → Int64) (H : Heap) (locs : List Loc) (ls : Array Slot), Rel st' ms' → wk D (lW g a bb ob st' ms' w') A s.heap H locs → lv_has ls 9 [(4, .int (nI i)), (3, .ref ob), (2, .ref (bb 0)), (1, .ref (a 0)), (0, .ref b)] → W p l e room_1 s m #[Value.ref b] below meth c H locs (cells + 1) (slots + 6) Q (F0 m 1707 ls [])) : W p l e room_1 s m #[Value.ref b] below meth c H locs cells slots Q (F0 m 1189 ls []) := by
  obtain ⟨E, xw, nc, hX, hbl, hbA, hL, hl0⟩ := id C
  have hx := E.1.1
  have hb := E.1.2.1
  obtain ⟨st', res, ms', b2, v, hf, hm, hv, hth, hbb, hR⟩ := ok
  have hc9 : cells + 1 ≤ room_1.cells ∧ slots + 6 ≤ room_1.slots := hcs
  refine lv_aload_n hx hb dL_law_1189 rfl (lv_at hl 3 rfl) ?_
  refine lv_aload_n hx hb dL_law_1190 rfl (lv_at hl 4 rfl) ?_
  refine lv_iload hx hb dL_law_1191 (lv_at hl 0 rfl) ?_
  refine lv_iconst (v := (1 : Int32)) hx hb dL_law_1193 (by decide) ?_
  refine lv_iadd hx hb dL_law_1194 ?_
  refine l_sld (i := i) (k := 1) C I (by omega) (nI_k i 1 rfl) dL_law_1195 ?_
  refine lv_aload_n hx hb dL_law_1196 rfl (lv_at hl 4 rfl) ?_
  refine lv_iload hx hb dL_law_1197 (lv_at hl 0 rfl) ?_
  refine lv_iconst (v := (2 : Int32)) hx hb dL_law_1199 (by decide) ?_
  refine lv_iadd hx hb dL_law_1200 ?_
  refine l_sld (i := i) (k := 2) C I (by omega) (nI_k i 2 rfl) dL_law_1201 ?_
  refine lv_aload_n hx hb dL_law_1202 rfl (lv_at hl 1 rfl) ?_
  refine r_callH (ws' := cW g a st' ++ oW g ob (houtI w res)) (As := [.ref (a 0), .int (xs (i + 1)), .int (xs (i + 2)), .ref ob]) (rest := []) xw nc rfl E I hl.1 kH_160 (h_least hl0 hf hv) (by rw [List.map_append, List.map_append]; rfl) rfl rfl (Nat.le_of_ble_eq_true rfl) ⟨(Nat.le_of_ble_eq_true rfl), (Nat.le_of_ble_eq_true rfl)⟩ hcs dL_law_1203 (fun H locs I => ?_)
  refine lv_istore (lv' := [(5, .int v), (4, .int (nI i)), (3, .ref ob), (2, .ref (bb 0)), (1, .ref (a 0)), (0, .ref b)]) hx hb dL_law_1206 hl (by decide) rfl (fun ls hl => ?_)
  refine lv_aload_n hx hb dL_law_1208 rfl (lv_at hl 3 rfl) ?_
  refine lv_aload_n hx hb dL_law_1209 rfl (lv_at hl 5 rfl) ?_
  refine lv_iload hx hb dL_law_1210 (lv_at hl 1 rfl) ?_
  refine lv_iconst (v := (1 : Int32)) hx hb dL_law_1212 (by decide) ?_
  refine lv_iadd hx hb dL_law_1213 ?_
  refine l_sld (i := i) (k := 1) C I (by omega) (nI_k i 1 rfl) dL_law_1214 ?_
  refine lv_aload_n hx hb dL_law_1215 rfl (lv_at hl 5 rfl) ?_
  refine lv_iload hx hb dL_law_1216 (lv_at hl 1 rfl) ?_
  refine lv_iconst (v := (2 : Int32)) hx hb dL_law_1218 (by decide) ?_
  refine lv_iadd hx hb dL_law_1219 ?_
  refine l_sld (i := i) (k := 2) C I (by omega) (nI_k i 2 rfl) dL_law_1220 ?_
  have I := wk_comm I
  refine r_callF1 (ws' := mW g bb ms') (As := [.int (xs (i + 1)), .int (xs (i + 2))]) (v := .int b2) (rest := []) E I hl.1 kM_162 (c5_least hm) mW_k (q0 := 0) rfl rfl rfl rfl (Nat.le_of_ble_eq_true rfl) ⟨(Nat.le_of_ble_eq_true rfl), (Nat.le_of_ble_eq_true rfl)⟩ ⟨hc9.1, hc9.2⟩ dL_law_1221 (fun H locs I => ?_)
  have I := wk_comm I
  refine lv_istore (lv' := [(6, .int b2), (5, .int v), (4, .int (nI i)), (3, .ref ob), (2, .ref (bb 0)), (1, .ref (a 0)), (0, .ref b)]) hx hb dL_law_1224 hl (by decide) rfl (fun ls hl => ?_)
  refine lv_aload_n hx hb dL_law_1226 rfl (lv_at hl 4 rfl) ?_
  have I := wk_comm I
  refine r_callF1 (ws' := mW g bb ms') (As := []) (v := .int (f5_thrown ms')) (rest := []) E I hl.1 kM_101 (c5_thrown rfl) mW_k (q0 := 0) rfl rfl rfl rfl (Nat.le_of_ble_eq_true rfl) ⟨(Nat.le_of_ble_eq_true rfl), (Nat.le_of_ble_eq_true rfl)⟩ ⟨hc9.1, hc9.2⟩ dL_law_1227 (fun H locs I => ?_)
  have I := wk_comm I
  refine lv_iload hx hb dL_law_1230 (lv_at hl 1 rfl) ?_
  refine lv_icmp_eq (tgt := 1237) hx hb dL_law_1232 (by decide) (fun _ => ?_) (fun hc => absurd hth hc)
  refine lv_iload hx hb dL_law_1237 (lv_at hl 1 rfl) ?_
  refine lv_if_ne (tgt := 1254) hx hb dL_law_1239 (by decide) (fun hv0 => ?_) (fun hv0 => ?_)
  · refine lv_goto (tgt := 1707) hx hb dL_law_1254 (by decide) ?_
    exact kk _ _ _ _ _ _ hR I (lv_sub hl [2, 3, 4, 5, 6] rfl)
  obtain ⟨r9, hr9⟩ := hco_0 (by decide) hv hv0
  have hb9 := hbb r9 hr9
  refine lv_aload_n hx hb dL_law_1242 rfl (lv_at hl 3 rfl) ?_
  refine lv_iconst (v := (0 : Int32)) hx hb dL_law_1243 (by decide) ?_
  refine r_lald E I 50 (f := houtI w res) rfl (by decide) dL_law_1244 ?_
  refine lv_iload hx hb dL_law_1245 (lv_at hl 0 rfl) ?_
  refine lv_i2l (v := b2.toInt64) hx hb dL_law_1247 rfl ?_
  refine W.lcmp hx hb dL_law_1248 ?_
  refine lv_if_eq (tgt := 1254) hx hb dL_law_1249 (by decide) (fun _ => ?_) (fun hc => absurd (lg_cmp_self (by rw [hr9, houtI_at, hb9])) hc)
  refine lv_goto (tgt := 1707) hx hb dL_law_1254 (by decide) ?_
  exact kk _ _ _ _ _ _ hR I (lv_sub hl [2, 3, 4, 5, 6] rfl)
set_option maxHeartbeats 4000000 in
set_option maxRecDepth 100000 in
theorem law_19 {p : Program} {l : Launch} {e : Env} {s : State} {m : MethodId} {below : List Frame} {meth : Method} {c : Code} {H : Heap} {locs : List Loc} {cells slots : Nat} {Q : State → Prop} {ls : Array Slot} {D : va_G} {g : Nat → ClassId} {A : Nat → Prop} {b L : Nat} {xs : Nat → Int32} {a bb : Nat → Nat} {ob : Nat} {st : CS} {ms : MS} {w : Nat → Int64} {i : Nat} {Rel : CS → MS → Prop} (C : LC p l s m c b L xs D g A) (hi : i + 5 ≤ L) (ok : okI (fun z => f4_sums z (xs (i + 1)) (xs (i + 2)) (xs (i + 3)) (xs (i + 4))) (fun z => f5_sums z (xs (i + 1)) (xs (i + 2)) (xs (i + 3)) (xs (i + 4))) [1] Rel st ms) (I : wk D (lW g a bb ob st ms w) A s.heap H locs) (hl : lv_has ls 9 [(4, .int (nI i)), (3, .ref ob), (2, .ref (bb 0)), (1, .ref (a 0)), (0, .ref b)]) (hcs : cells + 1 ≤ room_1.cells ∧ slots + 6 ≤ room_1.slots) (kk : ∀ (st' : CS) (ms' : MS) (w' : Nat → Int64) (H : Heap) (locs : List Loc) (ls : Array Slot), Rel st' ms' → wk D (lW g a bb ob st' ms' w') A s.heap H locs → lv_has ls 9 [(4, .int (nI i)), (3, .ref ob), (2, .ref (bb 0)), (1, .ref (a 0)), (0, .ref b)] → W p l e room_1 s m #[Value.ref b] below meth c H locs (cells + 1) (slots + 6) Q (F0 m 1707 ls [])) : W p l e room_1 s m #[Value.ref b] below meth c H locs cells slots Q (F0 m 1257 ls []) := by
  obtain ⟨E, xw, nc, hX, hbl, hbA, hL, hl0⟩ := id C
  have hx := E.1.1
  have hb := E.1.2.1
  obtain ⟨st', res, ms', b2, v, hf, hm, hv, hth, hbb, hR⟩ := ok
  have hc9 : cells + 1 ≤ room_1.cells ∧ slots + 6 ≤ room_1.slots := hcs
  refine lv_aload_n hx hb dL_law_1257 rfl (lv_at hl 3 rfl) ?_
  refine lv_aload_n hx hb dL_law_1258 rfl (lv_at hl 4 rfl) ?_
  refine lv_iload hx hb dL_law_1259 (lv_at hl 0 rfl) ?_
  refine lv_iconst (v := (1 : Int32)) hx hb dL_law_1261 (by decide) ?_
  refine lv_iadd hx hb dL_law_1262 ?_
  refine l_sld (i := i) (k := 1) C I (by omega) (nI_k i 1 rfl) dL_law_1263 ?_
  refine lv_aload_n hx hb dL_law_1264 rfl (lv_at hl 4 rfl) ?_
  refine lv_iload hx hb dL_law_1265 (lv_at hl 0 rfl) ?_
  refine lv_iconst (v := (2 : Int32)) hx hb dL_law_1267 (by decide) ?_
  refine lv_iadd hx hb dL_law_1268 ?_
  refine l_sld (i := i) (k := 2) C I (by omega) (nI_k i 2 rfl) dL_law_1269 ?_
  refine lv_aload_n hx hb dL_law_1270 rfl (lv_at hl 4 rfl) ?_
  refine lv_iload hx hb dL_law_1271 (lv_at hl 0 rfl) ?_
  refine lv_iconst (v := (3 : Int32)) hx hb dL_law_1273 (by decide) ?_
  refine lv_iadd hx hb dL_law_1274 ?_
  refine l_sld (i := i) (k := 3) C I (by omega) (nI_k i 3 rfl) dL_law_1275 ?_
  refine lv_aload_n hx hb dL_law_1276 rfl (lv_at hl 4 rfl) ?_
  refine lv_iload hx hb dL_law_1277 (lv_at hl 0 rfl) ?_
  refine lv_iconst (v := (4 : Int32)) hx hb dL_law_1279 (by decide) ?_
  refine lv_iadd hx hb dL_law_1280 ?_
  refine l_sld (i := i) (k := 4) C I (by omega) (nI_k i 4 rfl) dL_law_1281 ?_
  refine lv_aload_n hx hb dL_law_1282 rfl (lv_at hl 1 rfl) ?_
  refine r_callH (ws' := cW g a st' ++ oW g ob (houtI w res)) (As := [.ref (a 0), .int (xs (i + 1)), .int (xs (i + 2)), .int (xs (i + 3)), .int (xs (i + 4)), .ref ob]) (rest := []) xw nc rfl E I hl.1 kH_163 (h_sums hl0 hf hv) (by rw [List.map_append, List.map_append]; rfl) rfl rfl (Nat.le_of_ble_eq_true rfl) ⟨(Nat.le_of_ble_eq_true rfl), (Nat.le_of_ble_eq_true rfl)⟩ hcs dL_law_1283 (fun H locs I => ?_)
  refine lv_istore (lv' := [(5, .int v), (4, .int (nI i)), (3, .ref ob), (2, .ref (bb 0)), (1, .ref (a 0)), (0, .ref b)]) hx hb dL_law_1286 hl (by decide) rfl (fun ls hl => ?_)
  refine lv_aload_n hx hb dL_law_1288 rfl (lv_at hl 3 rfl) ?_
  refine lv_aload_n hx hb dL_law_1289 rfl (lv_at hl 5 rfl) ?_
  refine lv_iload hx hb dL_law_1290 (lv_at hl 1 rfl) ?_
  refine lv_iconst (v := (1 : Int32)) hx hb dL_law_1292 (by decide) ?_
  refine lv_iadd hx hb dL_law_1293 ?_
  refine l_sld (i := i) (k := 1) C I (by omega) (nI_k i 1 rfl) dL_law_1294 ?_
  refine lv_aload_n hx hb dL_law_1295 rfl (lv_at hl 5 rfl) ?_
  refine lv_iload hx hb dL_law_1296 (lv_at hl 1 rfl) ?_
  refine lv_iconst (v := (2 : Int32)) hx hb dL_law_1298 (by decide) ?_
  refine lv_iadd hx hb dL_law_1299 ?_
  refine l_sld (i := i) (k := 2) C I (by omega) (nI_k i 2 rfl) dL_law_1300 ?_
  refine lv_aload_n hx hb dL_law_1301 rfl (lv_at hl 5 rfl) ?_
  refine lv_iload hx hb dL_law_1302 (lv_at hl 1 rfl) ?_
  refine lv_iconst (v := (3 : Int32)) hx hb dL_law_1304 (by decide) ?_
  refine lv_iadd hx hb dL_law_1305 ?_
  refine l_sld (i := i) (k := 3) C I (by omega) (nI_k i 3 rfl) dL_law_1306 ?_
  refine lv_aload_n hx hb dL_law_1307 rfl (lv_at hl 5 rfl) ?_
  refine lv_iload hx hb dL_law_1308 (lv_at hl 1 rfl) ?_
  refine lv_iconst (v := (4 : Int32)) hx hb dL_law_1310 (by decide) ?_
  refine lv_iadd hx hb dL_law_1311 ?_
  refine l_sld (i := i) (k := 4) C I (by omega) (nI_k i 4 rfl) dL_law_1312 ?_
  have I := wk_comm I
  refine r_callF1 (ws' := mW g bb ms') (As := [.int (xs (i + 1)), .int (xs (i + 2)), .int (xs (i + 3)), .int (xs (i + 4))]) (v := .int b2) (rest := []) E I hl.1 kM_166 (c5_sums hm) mW_k (q0 := 0) rfl rfl rfl rfl (Nat.le_of_ble_eq_true rfl) ⟨(Nat.le_of_ble_eq_true rfl), (Nat.le_of_ble_eq_true rfl)⟩ ⟨hc9.1, hc9.2⟩ dL_law_1313 (fun H locs I => ?_)
  have I := wk_comm I
  refine lv_istore (lv' := [(6, .int b2), (5, .int v), (4, .int (nI i)), (3, .ref ob), (2, .ref (bb 0)), (1, .ref (a 0)), (0, .ref b)]) hx hb dL_law_1316 hl (by decide) rfl (fun ls hl => ?_)
  refine lv_aload_n hx hb dL_law_1318 rfl (lv_at hl 4 rfl) ?_
  have I := wk_comm I
  refine r_callF1 (ws' := mW g bb ms') (As := []) (v := .int (f5_thrown ms')) (rest := []) E I hl.1 kM_101 (c5_thrown rfl) mW_k (q0 := 0) rfl rfl rfl rfl (Nat.le_of_ble_eq_true rfl) ⟨(Nat.le_of_ble_eq_true rfl), (Nat.le_of_ble_eq_true rfl)⟩ ⟨hc9.1, hc9.2⟩ dL_law_1319 (fun H locs I => ?_)
  have I := wk_comm I
  refine lv_iload hx hb dL_law_1322 (lv_at hl 1 rfl) ?_
  refine lv_icmp_eq (tgt := 1329) hx hb dL_law_1324 (by decide) (fun _ => ?_) (fun hc => absurd hth hc)
  refine lv_iload hx hb dL_law_1329 (lv_at hl 1 rfl) ?_
  refine lv_if_ne (tgt := 1346) hx hb dL_law_1331 (by decide) (fun hv0 => ?_) (fun hv0 => ?_)
  · refine lv_goto (tgt := 1707) hx hb dL_law_1346 (by decide) ?_
    exact kk _ _ _ _ _ _ hR I (lv_sub hl [2, 3, 4, 5, 6] rfl)
  obtain ⟨r9, hr9⟩ := hco_0 (by decide) hv hv0
  have hb9 := hbb r9 hr9
  refine lv_aload_n hx hb dL_law_1334 rfl (lv_at hl 3 rfl) ?_
  refine lv_iconst (v := (0 : Int32)) hx hb dL_law_1335 (by decide) ?_
  refine r_lald E I 50 (f := houtI w res) rfl (by decide) dL_law_1336 ?_
  refine lv_iload hx hb dL_law_1337 (lv_at hl 0 rfl) ?_
  refine lv_i2l (v := b2.toInt64) hx hb dL_law_1339 rfl ?_
  refine W.lcmp hx hb dL_law_1340 ?_
  refine lv_if_eq (tgt := 1346) hx hb dL_law_1341 (by decide) (fun _ => ?_) (fun hc => absurd (lg_cmp_self (by rw [hr9, houtI_at, hb9])) hc)
  refine lv_goto (tgt := 1707) hx hb dL_law_1346 (by decide) ?_
  exact kk _ _ _ _ _ _ hR I (lv_sub hl [2, 3, 4, 5, 6] rfl)
set_option maxHeartbeats 4000000 in
set_option maxRecDepth 100000 in
theorem law_20 {p : Program} {l : Launch} {e : Env} {s : State} {m : MethodId} {below : List Frame} {meth : Method} {c : Code} {H : Heap} {locs : List Loc} {cells slots : Nat} {Q : State → Prop} {ls : Array Slot} {D : va_G} {g : Nat → ClassId} {A : Nat → Prop} {b L : Nat} {xs : Nat → Int32} {a bb : Nat → Nat} {ob : Nat} {st : CS} {ms : MS} {w : Nat → Int64} {i : Nat} {Rel : CS → MS → Prop} (C : LC p l s m c b L xs D g A) (hi : i + 5 ≤ L) (ok : okI (fun z => f4_count z (xs (i + 1))) (fun z => f5_count z (xs (i + 1))) [1] Rel st ms) (I : wk D (lW g a bb ob st ms w) A s.heap H locs) (hl : lv_has ls 9 [(4, .int (nI i)), (3, .ref ob), (2, .ref (bb 0)), (1, .ref (a 0)), (0, .ref b)]) (hcs : cells + 1 ≤ room_1.cells ∧ slots + 6 ≤ room_1.slots) (kk : ∀ (st' : CS) (ms' : MS) (w' : Nat → Int64) (H : Heap) (locs : List Loc) (ls : Array Slot), Rel st' ms' → wk D (lW g a bb ob st' ms' w') A s.heap H locs → lv_has ls 9 [(4, .int (nI i)), (3, .ref ob), (2, .ref (bb 0)), (1, .ref (a 0)), (0, .ref b)] → W p l e room_1 s m #[Value.ref b] below meth c H locs (cells + 1) (slots + 6) Q (F0 m 1707 ls [])) : W p l e room_1 s m #[Value.ref b] below meth c H locs cells slots Q (F0 m 1349 ls []) := by
  obtain ⟨E, xw, nc, hX, hbl, hbA, hL, hl0⟩ := id C
  have hx := E.1.1
  have hb := E.1.2.1
  obtain ⟨st', res, ms', b2, v, hf, hm, hv, hth, hbb, hR⟩ := ok
  have hc9 : cells + 1 ≤ room_1.cells ∧ slots + 6 ≤ room_1.slots := hcs
  refine lv_aload_n hx hb dL_law_1349 rfl (lv_at hl 3 rfl) ?_
  refine lv_aload_n hx hb dL_law_1350 rfl (lv_at hl 4 rfl) ?_
  refine lv_iload hx hb dL_law_1351 (lv_at hl 0 rfl) ?_
  refine lv_iconst (v := (1 : Int32)) hx hb dL_law_1353 (by decide) ?_
  refine lv_iadd hx hb dL_law_1354 ?_
  refine l_sld (i := i) (k := 1) C I (by omega) (nI_k i 1 rfl) dL_law_1355 ?_
  refine lv_aload_n hx hb dL_law_1356 rfl (lv_at hl 1 rfl) ?_
  refine r_callH (ws' := cW g a st' ++ oW g ob (houtI w res)) (As := [.ref (a 0), .int (xs (i + 1)), .ref ob]) (rest := []) xw nc rfl E I hl.1 kH_167 (h_count hl0 hf hv) (by rw [List.map_append, List.map_append]; rfl) rfl rfl (Nat.le_of_ble_eq_true rfl) ⟨(Nat.le_of_ble_eq_true rfl), (Nat.le_of_ble_eq_true rfl)⟩ hcs dL_law_1357 (fun H locs I => ?_)
  refine lv_istore (lv' := [(5, .int v), (4, .int (nI i)), (3, .ref ob), (2, .ref (bb 0)), (1, .ref (a 0)), (0, .ref b)]) hx hb dL_law_1360 hl (by decide) rfl (fun ls hl => ?_)
  refine lv_aload_n hx hb dL_law_1362 rfl (lv_at hl 3 rfl) ?_
  refine lv_aload_n hx hb dL_law_1363 rfl (lv_at hl 5 rfl) ?_
  refine lv_iload hx hb dL_law_1364 (lv_at hl 1 rfl) ?_
  refine lv_iconst (v := (1 : Int32)) hx hb dL_law_1366 (by decide) ?_
  refine lv_iadd hx hb dL_law_1367 ?_
  refine l_sld (i := i) (k := 1) C I (by omega) (nI_k i 1 rfl) dL_law_1368 ?_
  have I := wk_comm I
  refine r_callF1 (ws' := mW g bb ms') (As := [.int (xs (i + 1))]) (v := .int b2) (rest := []) E I hl.1 kM_169 (c5_count hm) mW_k (q0 := 0) rfl rfl rfl rfl (Nat.le_of_ble_eq_true rfl) ⟨(Nat.le_of_ble_eq_true rfl), (Nat.le_of_ble_eq_true rfl)⟩ ⟨hc9.1, hc9.2⟩ dL_law_1369 (fun H locs I => ?_)
  have I := wk_comm I
  refine lv_istore (lv' := [(6, .int b2), (5, .int v), (4, .int (nI i)), (3, .ref ob), (2, .ref (bb 0)), (1, .ref (a 0)), (0, .ref b)]) hx hb dL_law_1372 hl (by decide) rfl (fun ls hl => ?_)
  refine lv_aload_n hx hb dL_law_1374 rfl (lv_at hl 4 rfl) ?_
  have I := wk_comm I
  refine r_callF1 (ws' := mW g bb ms') (As := []) (v := .int (f5_thrown ms')) (rest := []) E I hl.1 kM_101 (c5_thrown rfl) mW_k (q0 := 0) rfl rfl rfl rfl (Nat.le_of_ble_eq_true rfl) ⟨(Nat.le_of_ble_eq_true rfl), (Nat.le_of_ble_eq_true rfl)⟩ ⟨hc9.1, hc9.2⟩ dL_law_1375 (fun H locs I => ?_)
  have I := wk_comm I
  refine lv_iload hx hb dL_law_1378 (lv_at hl 1 rfl) ?_
  refine lv_icmp_eq (tgt := 1385) hx hb dL_law_1380 (by decide) (fun _ => ?_) (fun hc => absurd hth hc)
  refine lv_iload hx hb dL_law_1385 (lv_at hl 1 rfl) ?_
  refine lv_if_ne (tgt := 1402) hx hb dL_law_1387 (by decide) (fun hv0 => ?_) (fun hv0 => ?_)
  · refine lv_goto (tgt := 1707) hx hb dL_law_1402 (by decide) ?_
    exact kk _ _ _ _ _ _ hR I (lv_sub hl [2, 3, 4, 5, 6] rfl)
  obtain ⟨r9, hr9⟩ := hco_0 (by decide) hv hv0
  have hb9 := hbb r9 hr9
  refine lv_aload_n hx hb dL_law_1390 rfl (lv_at hl 3 rfl) ?_
  refine lv_iconst (v := (0 : Int32)) hx hb dL_law_1391 (by decide) ?_
  refine r_lald E I 50 (f := houtI w res) rfl (by decide) dL_law_1392 ?_
  refine lv_iload hx hb dL_law_1393 (lv_at hl 0 rfl) ?_
  refine lv_i2l (v := b2.toInt64) hx hb dL_law_1395 rfl ?_
  refine W.lcmp hx hb dL_law_1396 ?_
  refine lv_if_eq (tgt := 1402) hx hb dL_law_1397 (by decide) (fun _ => ?_) (fun hc => absurd (lg_cmp_self (by rw [hr9, houtI_at, hb9])) hc)
  refine lv_goto (tgt := 1707) hx hb dL_law_1402 (by decide) ?_
  exact kk _ _ _ _ _ _ hR I (lv_sub hl [2, 3, 4, 5, 6] rfl)
set_option maxHeartbeats 4000000 in
set_option maxRecDepth 100000 in
theorem law_21 {p : Program} {l : Launch} {e : Env} {s : State} {m : MethodId} {below : List Frame} {meth : Method} {c : Code} {H : Heap} {locs : List Loc} {cells slots : Nat} {Q : State → Prop} {ls : Array Slot} {D : va_G} {g : Nat → ClassId} {A : Nat → Prop} {b L : Nat} {xs : Nat → Int32} {a bb : Nat → Nat} {ob : Nat} {st : CS} {ms : MS} {w : Nat → Int64} {i : Nat} {Rel : CS → MS → Prop} (C : LC p l s m c b L xs D g A) (hi : i + 5 ≤ L) (ok : okI (fun z => f4_setting z (xs (i + 1))) (fun z => f5_setting z (xs (i + 1))) [0] Rel st ms) (I : wk D (lW g a bb ob st ms w) A s.heap H locs) (hl : lv_has ls 9 [(4, .int (nI i)), (3, .ref ob), (2, .ref (bb 0)), (1, .ref (a 0)), (0, .ref b)]) (hcs : cells + 1 ≤ room_1.cells ∧ slots + 6 ≤ room_1.slots) (kk : ∀ (st' : CS) (ms' : MS) (w' : Nat → Int64) (H : Heap) (locs : List Loc) (ls : Array Slot), Rel st' ms' → wk D (lW g a bb ob st' ms' w') A s.heap H locs → lv_has ls 9 [(4, .int (nI i)), (3, .ref ob), (2, .ref (bb 0)), (1, .ref (a 0)), (0, .ref b)] → W p l e room_1 s m #[Value.ref b] below meth c H locs (cells + 1) (slots + 6) Q (F0 m 1707 ls [])) : W p l e room_1 s m #[Value.ref b] below meth c H locs cells slots Q (F0 m 1405 ls []) := by
  obtain ⟨E, xw, nc, hX, hbl, hbA, hL, hl0⟩ := id C
  have hx := E.1.1
  have hb := E.1.2.1
  obtain ⟨st', res, ms', b2, v, hf, hm, hv, hth, hbb, hR⟩ := ok
  have hc9 : cells + 1 ≤ room_1.cells ∧ slots + 6 ≤ room_1.slots := hcs
  refine lv_aload_n hx hb dL_law_1405 rfl (lv_at hl 3 rfl) ?_
  refine lv_aload_n hx hb dL_law_1406 rfl (lv_at hl 4 rfl) ?_
  refine lv_iload hx hb dL_law_1407 (lv_at hl 0 rfl) ?_
  refine lv_iconst (v := (1 : Int32)) hx hb dL_law_1409 (by decide) ?_
  refine lv_iadd hx hb dL_law_1410 ?_
  refine l_sld (i := i) (k := 1) C I (by omega) (nI_k i 1 rfl) dL_law_1411 ?_
  refine lv_aload_n hx hb dL_law_1412 rfl (lv_at hl 1 rfl) ?_
  refine r_callH (ws' := cW g a st' ++ oW g ob (houtI w res)) (As := [.ref (a 0), .int (xs (i + 1)), .ref ob]) (rest := []) xw nc rfl E I hl.1 kH_170 (h_setting hl0 hf hv) (by rw [List.map_append, List.map_append]; rfl) rfl rfl (Nat.le_of_ble_eq_true rfl) ⟨(Nat.le_of_ble_eq_true rfl), (Nat.le_of_ble_eq_true rfl)⟩ hcs dL_law_1413 (fun H locs I => ?_)
  refine lv_istore (lv' := [(5, .int v), (4, .int (nI i)), (3, .ref ob), (2, .ref (bb 0)), (1, .ref (a 0)), (0, .ref b)]) hx hb dL_law_1416 hl (by decide) rfl (fun ls hl => ?_)
  refine lv_aload_n hx hb dL_law_1418 rfl (lv_at hl 3 rfl) ?_
  refine lv_aload_n hx hb dL_law_1419 rfl (lv_at hl 5 rfl) ?_
  refine lv_iload hx hb dL_law_1420 (lv_at hl 1 rfl) ?_
  refine lv_iconst (v := (1 : Int32)) hx hb dL_law_1422 (by decide) ?_
  refine lv_iadd hx hb dL_law_1423 ?_
  refine l_sld (i := i) (k := 1) C I (by omega) (nI_k i 1 rfl) dL_law_1424 ?_
  have I := wk_comm I
  refine r_callF1 (ws' := mW g bb ms') (As := [.int (xs (i + 1))]) (v := .int b2) (rest := []) E I hl.1 kM_172 (c5_setting hm) mW_k (q0 := 0) rfl rfl rfl rfl (Nat.le_of_ble_eq_true rfl) ⟨(Nat.le_of_ble_eq_true rfl), (Nat.le_of_ble_eq_true rfl)⟩ ⟨hc9.1, hc9.2⟩ dL_law_1425 (fun H locs I => ?_)
  have I := wk_comm I
  refine lv_istore (lv' := [(6, .int b2), (5, .int v), (4, .int (nI i)), (3, .ref ob), (2, .ref (bb 0)), (1, .ref (a 0)), (0, .ref b)]) hx hb dL_law_1428 hl (by decide) rfl (fun ls hl => ?_)
  refine lv_aload_n hx hb dL_law_1430 rfl (lv_at hl 4 rfl) ?_
  have I := wk_comm I
  refine r_callF1 (ws' := mW g bb ms') (As := []) (v := .int (f5_thrown ms')) (rest := []) E I hl.1 kM_101 (c5_thrown rfl) mW_k (q0 := 0) rfl rfl rfl rfl (Nat.le_of_ble_eq_true rfl) ⟨(Nat.le_of_ble_eq_true rfl), (Nat.le_of_ble_eq_true rfl)⟩ ⟨hc9.1, hc9.2⟩ dL_law_1431 (fun H locs I => ?_)
  have I := wk_comm I
  refine lv_iload hx hb dL_law_1434 (lv_at hl 1 rfl) ?_
  refine lv_icmp_eq (tgt := 1441) hx hb dL_law_1436 (by decide) (fun _ => ?_) (fun hc => absurd hth hc)
  refine lv_iload hx hb dL_law_1441 (lv_at hl 1 rfl) ?_
  refine lv_if_ne (tgt := 1458) hx hb dL_law_1443 (by decide) (fun hv0 => ?_) (fun hv0 => ?_)
  · refine lv_goto (tgt := 1707) hx hb dL_law_1458 (by decide) ?_
    exact kk _ _ _ _ _ _ hR I (lv_sub hl [2, 3, 4, 5, 6] rfl)
  obtain ⟨r9, hr9⟩ := hco_0 (by decide) hv hv0
  have hb9 := hbb r9 hr9
  refine lv_aload_n hx hb dL_law_1446 rfl (lv_at hl 3 rfl) ?_
  refine lv_iconst (v := (0 : Int32)) hx hb dL_law_1447 (by decide) ?_
  refine r_lald E I 50 (f := houtI w res) rfl (by decide) dL_law_1448 ?_
  refine lv_iload hx hb dL_law_1449 (lv_at hl 0 rfl) ?_
  refine lv_i2l (v := b2.toInt64) hx hb dL_law_1451 rfl ?_
  refine W.lcmp hx hb dL_law_1452 ?_
  refine lv_if_eq (tgt := 1458) hx hb dL_law_1453 (by decide) (fun _ => ?_) (fun hc => absurd (lg_cmp_self (by rw [hr9, houtI_at, hb9])) hc)
  refine lv_goto (tgt := 1707) hx hb dL_law_1458 (by decide) ?_
  exact kk _ _ _ _ _ _ hR I (lv_sub hl [2, 3, 4, 5, 6] rfl)
set_option maxHeartbeats 4000000 in
set_option maxRecDepth 100000 in
theorem law_22 {p : Program} {l : Launch} {e : Env} {s : State} {m : MethodId} {below : List Frame} {meth : Method} {c : Code} {H : Heap} {locs : List Loc} {cells slots : Nat} {Q : State → Prop} {ls : Array Slot} {D : va_G} {g : Nat → ClassId} {A : Nat → Prop} {b L : Nat} {xs : Nat → Int32} {a bb : Nat → Nat} {ob : Nat} {st : CS} {ms : MS} {w : Nat → Int64} {i : Nat} {Rel : CS → MS → Prop} (C : LC p l s m c b L xs D g A) (hi : i + 5 ≤ L) (ok : okJ (fun z => f4_ifMore z (xs (i + 1)) (xs (i + 2))) (fun z => f5_ifMore z (xs (i + 1)) (xs (i + 2))) [0, 1] Rel st ms) (I : wk D (lW g a bb ob st ms w) A s.heap H locs) (hl : lv_has ls 9 [(4, .int (nI i)), (3, .ref ob), (2, .ref (bb 0)), (1, .ref (a 0)), (0, .ref b)]) (hcs : cells + 1 ≤ room_1.cells ∧ slots + 6 ≤ room_1.slots) (kk : ∀ (st' : CS) (ms' : MS) (w' : Nat → Int64) (H : Heap) (locs : List Loc) (ls : Array Slot), Rel st' ms' → wk D (lW g a bb ob st' ms' w') A s.heap H locs → lv_has ls 9 [(4, .int (nI i)), (3, .ref ob), (2, .ref (bb 0)), (1, .ref (a 0)), (0, .ref b)] → W p l e room_1 s m #[Value.ref b] below meth c H locs (cells + 1) (slots + 6) Q (F0 m 1707 ls [])) : W p l e room_1 s m #[Value.ref b] below meth c H locs cells slots Q (F0 m 1461 ls []) := by
  obtain ⟨E, xw, nc, hX, hbl, hbA, hL, hl0⟩ := id C
  have hx := E.1.1
  have hb := E.1.2.1
  obtain ⟨st', res, ms', b2, v, hf, hm, hv, hth, hbb, hR⟩ := ok
  have hc9 : cells + 1 ≤ room_1.cells ∧ slots + 6 ≤ room_1.slots := hcs
  refine lv_aload_n hx hb dL_law_1461 rfl (lv_at hl 3 rfl) ?_
  refine lv_aload_n hx hb dL_law_1462 rfl (lv_at hl 4 rfl) ?_
  refine lv_iload hx hb dL_law_1463 (lv_at hl 0 rfl) ?_
  refine lv_iconst (v := (1 : Int32)) hx hb dL_law_1465 (by decide) ?_
  refine lv_iadd hx hb dL_law_1466 ?_
  refine l_sld (i := i) (k := 1) C I (by omega) (nI_k i 1 rfl) dL_law_1467 ?_
  refine lv_aload_n hx hb dL_law_1468 rfl (lv_at hl 4 rfl) ?_
  refine lv_iload hx hb dL_law_1469 (lv_at hl 0 rfl) ?_
  refine lv_iconst (v := (2 : Int32)) hx hb dL_law_1471 (by decide) ?_
  refine lv_iadd hx hb dL_law_1472 ?_
  refine l_sld (i := i) (k := 2) C I (by omega) (nI_k i 2 rfl) dL_law_1473 ?_
  refine lv_aload_n hx hb dL_law_1474 rfl (lv_at hl 1 rfl) ?_
  refine r_callH (ws' := cW g a st' ++ oW g ob (houtJ w res)) (As := [.ref (a 0), .int (xs (i + 1)), .int (xs (i + 2)), .ref ob]) (rest := []) xw nc rfl E I hl.1 kH_173 (h_ifMore hl0 hf hv) (by rw [List.map_append, List.map_append]; rfl) rfl rfl (Nat.le_of_ble_eq_true rfl) ⟨(Nat.le_of_ble_eq_true rfl), (Nat.le_of_ble_eq_true rfl)⟩ hcs dL_law_1475 (fun H locs I => ?_)
  refine lv_istore (lv' := [(5, .int v), (4, .int (nI i)), (3, .ref ob), (2, .ref (bb 0)), (1, .ref (a 0)), (0, .ref b)]) hx hb dL_law_1478 hl (by decide) rfl (fun ls hl => ?_)
  refine lv_aload_n hx hb dL_law_1480 rfl (lv_at hl 3 rfl) ?_
  refine lv_aload_n hx hb dL_law_1481 rfl (lv_at hl 5 rfl) ?_
  refine lv_iload hx hb dL_law_1482 (lv_at hl 1 rfl) ?_
  refine lv_iconst (v := (1 : Int32)) hx hb dL_law_1484 (by decide) ?_
  refine lv_iadd hx hb dL_law_1485 ?_
  refine l_sld (i := i) (k := 1) C I (by omega) (nI_k i 1 rfl) dL_law_1486 ?_
  refine lv_aload_n hx hb dL_law_1487 rfl (lv_at hl 5 rfl) ?_
  refine lv_iload hx hb dL_law_1488 (lv_at hl 1 rfl) ?_
  refine lv_iconst (v := (2 : Int32)) hx hb dL_law_1490 (by decide) ?_
  refine lv_iadd hx hb dL_law_1491 ?_
  refine l_sld (i := i) (k := 2) C I (by omega) (nI_k i 2 rfl) dL_law_1492 ?_
  have I := wk_comm I
  refine r_callF1 (ws' := mW g bb ms') (As := [.int (xs (i + 1)), .int (xs (i + 2))]) (v := .long b2) (rest := []) E I hl.1 kM_175 (c5_ifMore hm) mW_k (q0 := 0) rfl rfl rfl rfl (Nat.le_of_ble_eq_true rfl) ⟨(Nat.le_of_ble_eq_true rfl), (Nat.le_of_ble_eq_true rfl)⟩ ⟨hc9.1, hc9.2⟩ dL_law_1493 (fun H locs I => ?_)
  have I := wk_comm I
  refine lv_lstore (lv' := [(6, .long b2), (5, .int v), (4, .int (nI i)), (3, .ref ob), (2, .ref (bb 0)), (1, .ref (a 0)), (0, .ref b)]) hx hb dL_law_1496 hl (by decide) rfl (fun ls hl => ?_)
  refine lv_aload_n hx hb dL_law_1498 rfl (lv_at hl 4 rfl) ?_
  have I := wk_comm I
  refine r_callF1 (ws' := mW g bb ms') (As := []) (v := .int (f5_thrown ms')) (rest := []) E I hl.1 kM_101 (c5_thrown rfl) mW_k (q0 := 0) rfl rfl rfl rfl (Nat.le_of_ble_eq_true rfl) ⟨(Nat.le_of_ble_eq_true rfl), (Nat.le_of_ble_eq_true rfl)⟩ ⟨hc9.1, hc9.2⟩ dL_law_1499 (fun H locs I => ?_)
  have I := wk_comm I
  refine lv_iload hx hb dL_law_1502 (lv_at hl 1 rfl) ?_
  refine lv_icmp_eq (tgt := 1509) hx hb dL_law_1504 (by decide) (fun _ => ?_) (fun hc => absurd hth hc)
  refine lv_iload hx hb dL_law_1509 (lv_at hl 1 rfl) ?_
  refine lv_if_ne (tgt := 1525) hx hb dL_law_1511 (by decide) (fun hv0 => ?_) (fun hv0 => ?_)
  · refine lv_goto (tgt := 1707) hx hb dL_law_1525 (by decide) ?_
    exact kk _ _ _ _ _ _ hR I (lv_sub hl [2, 3, 4, 5, 6] rfl)
  obtain ⟨r9, hr9⟩ := hco_0 (by decide) hv hv0
  have hb9 := hbb r9 hr9
  refine lv_aload_n hx hb dL_law_1514 rfl (lv_at hl 3 rfl) ?_
  refine lv_iconst (v := (0 : Int32)) hx hb dL_law_1515 (by decide) ?_
  refine r_lald E I 50 (f := houtJ w res) rfl (by decide) dL_law_1516 ?_
  refine lv_lload hx hb dL_law_1517 (lv_at hl 0 rfl) ?_
  refine W.lcmp hx hb dL_law_1519 ?_
  refine lv_if_eq (tgt := 1525) hx hb dL_law_1520 (by decide) (fun _ => ?_) (fun hc => absurd (lg_cmp_self (by rw [hr9, houtJ_at, hb9])) hc)
  refine lv_goto (tgt := 1707) hx hb dL_law_1525 (by decide) ?_
  exact kk _ _ _ _ _ _ hR I (lv_sub hl [2, 3, 4, 5, 6] rfl)
set_option maxHeartbeats 4000000 in
set_option maxRecDepth 100000 in
theorem law_23 {p : Program} {l : Launch} {e : Env} {s : State} {m : MethodId} {below : List Frame} {meth : Method} {c : Code} {H : Heap} {locs : List Loc} {cells slots : Nat} {Q : State → Prop} {ls : Array Slot} {D : va_G} {g : Nat → ClassId} {A : Nat → Prop} {b L : Nat} {xs : Nat → Int32} {a bb : Nat → Nat} {ob : Nat} {st : CS} {ms : MS} {w : Nat → Int64} {i : Nat} {Rel : CS → MS → Prop} (C : LC p l s m c b L xs D g A) (hi : i + 5 ≤ L) (ok : okI (fun z => f4_ifRewritten z (xs (i + 1)) (xs (i + 2))) (fun z => f5_ifRewritten z (xs (i + 1)) (xs (i + 2))) [0, 1] Rel st ms) (I : wk D (lW g a bb ob st ms w) A s.heap H locs) (hl : lv_has ls 9 [(4, .int (nI i)), (3, .ref ob), (2, .ref (bb 0)), (1, .ref (a 0)), (0, .ref b)]) (hcs : cells + 1 ≤ room_1.cells ∧ slots + 6 ≤ room_1.slots) (kk : ∀ (st' : CS) (ms' : MS) (w' : Nat → Int64) (H : Heap) (locs : List Loc) (ls : Array Slot), Rel st' ms' → wk D (lW g a bb ob st' ms' w') A s.heap H locs → lv_has ls 9 [(4, .int (nI i)), (3, .ref ob), (2, .ref (bb 0)), (1, .ref (a 0)), (0, .ref b)] → W p l e room_1 s m #[Value.ref b] below meth c H locs (cells + 1) (slots + 6) Q (F0 m 1707 ls [])) : W p l e room_1 s m #[Value.ref b] below meth c H locs cells slots Q (F0 m 1528 ls []) := by
  obtain ⟨E, xw, nc, hX, hbl, hbA, hL, hl0⟩ := id C
  have hx := E.1.1
  have hb := E.1.2.1
  obtain ⟨st', res, ms', b2, v, hf, hm, hv, hth, hbb, hR⟩ := ok
  have hc9 : cells + 1 ≤ room_1.cells ∧ slots + 6 ≤ room_1.slots := hcs
  refine lv_aload_n hx hb dL_law_1528 rfl (lv_at hl 3 rfl) ?_
  refine lv_aload_n hx hb dL_law_1529 rfl (lv_at hl 4 rfl) ?_
  refine lv_iload hx hb dL_law_1530 (lv_at hl 0 rfl) ?_
  refine lv_iconst (v := (1 : Int32)) hx hb dL_law_1532 (by decide) ?_
  refine lv_iadd hx hb dL_law_1533 ?_
  refine l_sld (i := i) (k := 1) C I (by omega) (nI_k i 1 rfl) dL_law_1534 ?_
  refine lv_aload_n hx hb dL_law_1535 rfl (lv_at hl 4 rfl) ?_
  refine lv_iload hx hb dL_law_1536 (lv_at hl 0 rfl) ?_
  refine lv_iconst (v := (2 : Int32)) hx hb dL_law_1538 (by decide) ?_
  refine lv_iadd hx hb dL_law_1539 ?_
  refine l_sld (i := i) (k := 2) C I (by omega) (nI_k i 2 rfl) dL_law_1540 ?_
  refine lv_aload_n hx hb dL_law_1541 rfl (lv_at hl 1 rfl) ?_
  refine r_callH (ws' := cW g a st' ++ oW g ob (houtI w res)) (As := [.ref (a 0), .int (xs (i + 1)), .int (xs (i + 2)), .ref ob]) (rest := []) xw nc rfl E I hl.1 kH_176 (h_ifRewritten hl0 hf hv) (by rw [List.map_append, List.map_append]; rfl) rfl rfl (Nat.le_of_ble_eq_true rfl) ⟨(Nat.le_of_ble_eq_true rfl), (Nat.le_of_ble_eq_true rfl)⟩ hcs dL_law_1542 (fun H locs I => ?_)
  refine lv_istore (lv' := [(5, .int v), (4, .int (nI i)), (3, .ref ob), (2, .ref (bb 0)), (1, .ref (a 0)), (0, .ref b)]) hx hb dL_law_1545 hl (by decide) rfl (fun ls hl => ?_)
  refine lv_aload_n hx hb dL_law_1547 rfl (lv_at hl 3 rfl) ?_
  refine lv_aload_n hx hb dL_law_1548 rfl (lv_at hl 5 rfl) ?_
  refine lv_iload hx hb dL_law_1549 (lv_at hl 1 rfl) ?_
  refine lv_iconst (v := (1 : Int32)) hx hb dL_law_1551 (by decide) ?_
  refine lv_iadd hx hb dL_law_1552 ?_
  refine l_sld (i := i) (k := 1) C I (by omega) (nI_k i 1 rfl) dL_law_1553 ?_
  refine lv_aload_n hx hb dL_law_1554 rfl (lv_at hl 5 rfl) ?_
  refine lv_iload hx hb dL_law_1555 (lv_at hl 1 rfl) ?_
  refine lv_iconst (v := (2 : Int32)) hx hb dL_law_1557 (by decide) ?_
  refine lv_iadd hx hb dL_law_1558 ?_
  refine l_sld (i := i) (k := 2) C I (by omega) (nI_k i 2 rfl) dL_law_1559 ?_
  have I := wk_comm I
  refine r_callF1 (ws' := mW g bb ms') (As := [.int (xs (i + 1)), .int (xs (i + 2))]) (v := .int b2) (rest := []) E I hl.1 kM_178 (c5_ifRewritten hm) mW_k (q0 := 0) rfl rfl rfl rfl (Nat.le_of_ble_eq_true rfl) ⟨(Nat.le_of_ble_eq_true rfl), (Nat.le_of_ble_eq_true rfl)⟩ ⟨hc9.1, hc9.2⟩ dL_law_1560 (fun H locs I => ?_)
  have I := wk_comm I
  refine lv_istore (lv' := [(6, .int b2), (5, .int v), (4, .int (nI i)), (3, .ref ob), (2, .ref (bb 0)), (1, .ref (a 0)), (0, .ref b)]) hx hb dL_law_1563 hl (by decide) rfl (fun ls hl => ?_)
  refine lv_aload_n hx hb dL_law_1565 rfl (lv_at hl 4 rfl) ?_
  have I := wk_comm I
  refine r_callF1 (ws' := mW g bb ms') (As := []) (v := .int (f5_thrown ms')) (rest := []) E I hl.1 kM_101 (c5_thrown rfl) mW_k (q0 := 0) rfl rfl rfl rfl (Nat.le_of_ble_eq_true rfl) ⟨(Nat.le_of_ble_eq_true rfl), (Nat.le_of_ble_eq_true rfl)⟩ ⟨hc9.1, hc9.2⟩ dL_law_1566 (fun H locs I => ?_)
  have I := wk_comm I
  refine lv_iload hx hb dL_law_1569 (lv_at hl 1 rfl) ?_
  refine lv_icmp_eq (tgt := 1576) hx hb dL_law_1571 (by decide) (fun _ => ?_) (fun hc => absurd hth hc)
  refine lv_iload hx hb dL_law_1576 (lv_at hl 1 rfl) ?_
  refine lv_if_ne (tgt := 1593) hx hb dL_law_1578 (by decide) (fun hv0 => ?_) (fun hv0 => ?_)
  · refine lv_goto (tgt := 1707) hx hb dL_law_1593 (by decide) ?_
    exact kk _ _ _ _ _ _ hR I (lv_sub hl [2, 3, 4, 5, 6] rfl)
  obtain ⟨r9, hr9⟩ := hco_0 (by decide) hv hv0
  have hb9 := hbb r9 hr9
  refine lv_aload_n hx hb dL_law_1581 rfl (lv_at hl 3 rfl) ?_
  refine lv_iconst (v := (0 : Int32)) hx hb dL_law_1582 (by decide) ?_
  refine r_lald E I 50 (f := houtI w res) rfl (by decide) dL_law_1583 ?_
  refine lv_iload hx hb dL_law_1584 (lv_at hl 0 rfl) ?_
  refine lv_i2l (v := b2.toInt64) hx hb dL_law_1586 rfl ?_
  refine W.lcmp hx hb dL_law_1587 ?_
  refine lv_if_eq (tgt := 1593) hx hb dL_law_1588 (by decide) (fun _ => ?_) (fun hc => absurd (lg_cmp_self (by rw [hr9, houtI_at, hb9])) hc)
  refine lv_goto (tgt := 1707) hx hb dL_law_1593 (by decide) ?_
  exact kk _ _ _ _ _ _ hR I (lv_sub hl [2, 3, 4, 5, 6] rfl)
set_option maxHeartbeats 4000000 in
set_option maxRecDepth 100000 in
theorem law_24 {p : Program} {l : Launch} {e : Env} {s : State} {m : MethodId} {below : List Frame} {meth : Method} {c : Code} {H : Heap} {locs : List Loc} {cells slots : Nat} {Q : State → Prop} {ls : Array Slot} {D : va_G} {g : Nat → ClassId} {A : Nat → Prop} {b L : Nat} {xs : Nat → Int32} {a bb : Nat → Nat} {ob : Nat} {st : CS} {ms : MS} {w : Nat → Int64} {i : Nat} {Rel : CS → MS → Prop} (C : LC p l s m c b L xs D g A) (hi : i + 5 ≤ L) (ok : okI (fun z => f4_shortest z (xs (i + 1))) (fun z => f5_shortest z (xs (i + 1))) [0] Rel st ms) (I : wk D (lW g a bb ob st ms w) A s.heap H locs) (hl : lv_has ls 9 [(4, .int (nI i)), (3, .ref ob), (2, .ref (bb 0)), (1, .ref (a 0)), (0, .ref b)]) (hcs : cells + 1 ≤ room_1.cells ∧ slots + 6 ≤ room_1.slots) (kk : ∀ (st' : CS) (ms' : MS) (w' : Nat → Int64) (H : Heap) (locs : List Loc) (ls : Array Slot), Rel st' ms' → wk D (lW g a bb ob st' ms' w') A s.heap H locs → lv_has ls 9 [(4, .int (nI i)), (3, .ref ob), (2, .ref (bb 0)), (1, .ref (a 0)), (0, .ref b)] → W p l e room_1 s m #[Value.ref b] below meth c H locs (cells + 1) (slots + 6) Q (F0 m 1707 ls [])) : W p l e room_1 s m #[Value.ref b] below meth c H locs cells slots Q (F0 m 1596 ls []) := by
  obtain ⟨E, xw, nc, hX, hbl, hbA, hL, hl0⟩ := id C
  have hx := E.1.1
  have hb := E.1.2.1
  obtain ⟨st', res, ms', b2, v, hf, hm, hv, hth, hbb, hR⟩ := ok
  have hc9 : cells + 1 ≤ room_1.cells ∧ slots + 6 ≤ room_1.slots := hcs
  refine lv_aload_n hx hb dL_law_1596 rfl (lv_at hl 3 rfl) ?_
  refine lv_aload_n hx hb dL_law_1597 rfl (lv_at hl 4 rfl) ?_
  refine lv_iload hx hb dL_law_1598 (lv_at hl 0 rfl) ?_
  refine lv_iconst (v := (1 : Int32)) hx hb dL_law_1600 (by decide) ?_
  refine lv_iadd hx hb dL_law_1601 ?_
  refine l_sld (i := i) (k := 1) C I (by omega) (nI_k i 1 rfl) dL_law_1602 ?_
  refine lv_aload_n hx hb dL_law_1603 rfl (lv_at hl 1 rfl) ?_
  refine r_callH (ws' := cW g a st' ++ oW g ob (houtI w res)) (As := [.ref (a 0), .int (xs (i + 1)), .ref ob]) (rest := []) xw nc rfl E I hl.1 kH_179 (h_shortest hl0 hf hv) (by rw [List.map_append, List.map_append]; rfl) rfl rfl (Nat.le_of_ble_eq_true rfl) ⟨(Nat.le_of_ble_eq_true rfl), (Nat.le_of_ble_eq_true rfl)⟩ hcs dL_law_1604 (fun H locs I => ?_)
  refine lv_istore (lv' := [(5, .int v), (4, .int (nI i)), (3, .ref ob), (2, .ref (bb 0)), (1, .ref (a 0)), (0, .ref b)]) hx hb dL_law_1607 hl (by decide) rfl (fun ls hl => ?_)
  refine lv_aload_n hx hb dL_law_1609 rfl (lv_at hl 3 rfl) ?_
  refine lv_aload_n hx hb dL_law_1610 rfl (lv_at hl 5 rfl) ?_
  refine lv_iload hx hb dL_law_1611 (lv_at hl 1 rfl) ?_
  refine lv_iconst (v := (1 : Int32)) hx hb dL_law_1613 (by decide) ?_
  refine lv_iadd hx hb dL_law_1614 ?_
  refine l_sld (i := i) (k := 1) C I (by omega) (nI_k i 1 rfl) dL_law_1615 ?_
  have I := wk_comm I
  refine r_callF1 (ws' := mW g bb ms') (As := [.int (xs (i + 1))]) (v := .int b2) (rest := []) E I hl.1 kM_181 (c5_shortest hm) mW_k (q0 := 0) rfl rfl rfl rfl (Nat.le_of_ble_eq_true rfl) ⟨(Nat.le_of_ble_eq_true rfl), (Nat.le_of_ble_eq_true rfl)⟩ ⟨hc9.1, hc9.2⟩ dL_law_1616 (fun H locs I => ?_)
  have I := wk_comm I
  refine lv_istore (lv' := [(6, .int b2), (5, .int v), (4, .int (nI i)), (3, .ref ob), (2, .ref (bb 0)), (1, .ref (a 0)), (0, .ref b)]) hx hb dL_law_1619 hl (by decide) rfl (fun ls hl => ?_)
  refine lv_aload_n hx hb dL_law_1621 rfl (lv_at hl 4 rfl) ?_
  have I := wk_comm I
  refine r_callF1 (ws' := mW g bb ms') (As := []) (v := .int (f5_thrown ms')) (rest := []) E I hl.1 kM_101 (c5_thrown rfl) mW_k (q0 := 0) rfl rfl rfl rfl (Nat.le_of_ble_eq_true rfl) ⟨(Nat.le_of_ble_eq_true rfl), (Nat.le_of_ble_eq_true rfl)⟩ ⟨hc9.1, hc9.2⟩ dL_law_1622 (fun H locs I => ?_)
  have I := wk_comm I
  refine lv_iload hx hb dL_law_1625 (lv_at hl 1 rfl) ?_
  refine lv_icmp_eq (tgt := 1632) hx hb dL_law_1627 (by decide) (fun _ => ?_) (fun hc => absurd hth hc)
  refine lv_iload hx hb dL_law_1632 (lv_at hl 1 rfl) ?_
  refine lv_if_ne (tgt := 1649) hx hb dL_law_1634 (by decide) (fun hv0 => ?_) (fun hv0 => ?_)
  · refine lv_goto (tgt := 1707) hx hb dL_law_1649 (by decide) ?_
    exact kk _ _ _ _ _ _ hR I (lv_sub hl [2, 3, 4, 5, 6] rfl)
  obtain ⟨r9, hr9⟩ := hco_0 (by decide) hv hv0
  have hb9 := hbb r9 hr9
  refine lv_aload_n hx hb dL_law_1637 rfl (lv_at hl 3 rfl) ?_
  refine lv_iconst (v := (0 : Int32)) hx hb dL_law_1638 (by decide) ?_
  refine r_lald E I 50 (f := houtI w res) rfl (by decide) dL_law_1639 ?_
  refine lv_iload hx hb dL_law_1640 (lv_at hl 0 rfl) ?_
  refine lv_i2l (v := b2.toInt64) hx hb dL_law_1642 rfl ?_
  refine W.lcmp hx hb dL_law_1643 ?_
  refine lv_if_eq (tgt := 1649) hx hb dL_law_1644 (by decide) (fun _ => ?_) (fun hc => absurd (lg_cmp_self (by rw [hr9, houtI_at, hb9])) hc)
  refine lv_goto (tgt := 1707) hx hb dL_law_1649 (by decide) ?_
  exact kk _ _ _ _ _ _ hR I (lv_sub hl [2, 3, 4, 5, 6] rfl)
set_option maxHeartbeats 4000000 in
set_option maxRecDepth 100000 in
theorem law_25 {p : Program} {l : Launch} {e : Env} {s : State} {m : MethodId} {below : List Frame} {meth : Method} {c : Code} {H : Heap} {locs : List Loc} {cells slots : Nat} {Q : State → Prop} {ls : Array Slot} {D : va_G} {g : Nat → ClassId} {A : Nat → Prop} {b L : Nat} {xs : Nat → Int32} {a bb : Nat → Nat} {ob : Nat} {st : CS} {ms : MS} {w : Nat → Int64} {i : Nat} {Rel : CS → MS → Prop} (C : LC p l s m c b L xs D g A) (hi : i + 5 ≤ L) (ok : ∃ (r2 : UInt64) (ms' : MS) (b2 : UInt64), f4_openShare st = some r2 ∧ f5_openShare ms = some (ms', b2) ∧ Op.cmpValue (FP.dcmp r2 b2) CmpOp.l = 0 ∧ Rel st ms') (I : wk D (lW g a bb ob st ms w) A s.heap H locs) (hl : lv_has ls 9 [(4, .int (nI i)), (3, .ref ob), (2, .ref (bb 0)), (1, .ref (a 0)), (0, .ref b)]) (hcs : cells + 1 ≤ room_1.cells ∧ slots + 6 ≤ room_1.slots) (kk : ∀ (st' : CS) (ms' : MS) (w' : Nat → Int64) (H : Heap) (locs : List Loc) (ls : Array Slot), Rel st' ms' → wk D (lW g a bb ob st' ms' w') A s.heap H locs → lv_has ls 9 [(4, .int (nI i)), (3, .ref ob), (2, .ref (bb 0)), (1, .ref (a 0)), (0, .ref b)] → W p l e room_1 s m #[Value.ref b] below meth c H locs (cells + 1) (slots + 6) Q (F0 m 1707 ls [])) : W p l e room_1 s m #[Value.ref b] below meth c H locs cells slots Q (F0 m 1652 ls []) := by
  obtain ⟨E, xw, nc, hX, hbl, hbA, hL, hl0⟩ := id C
  have hx := E.1.1
  have hb := E.1.2.1
  obtain ⟨r2, ms', b2, hf, hm, he, hR⟩ := ok
  have hc9 : cells ≤ room_1.cells ∧ slots ≤ room_1.slots := ⟨Nat.le_of_succ_le hcs.1, Nat.le_trans (Nat.le_add_right _ _) hcs.2⟩
  refine lv_aload_n hx hb dL_law_1652 rfl (lv_at hl 3 rfl) ?_
  have I : wk D (cW g a st ++ (oW g ob w ++ mW g bb ms)) A s.heap H locs := by rw [← List.append_assoc]; exact I
  refine r_callF1 (ws' := cW g a st) (As := []) (v := .double r2) (rest := []) E I hl.1 kM_182 (c4_openShare hf) cW_k (q0 := 0) rfl rfl rfl rfl (Nat.le_of_ble_eq_true rfl) ⟨(Nat.le_of_ble_eq_true rfl), (Nat.le_of_ble_eq_true rfl)⟩ ⟨hc9.1, hc9.2⟩ dL_law_1653 (fun H locs I => ?_)
  have I : wk D (lW g a bb ob st ms w) A s.heap H locs := lW_as I
  refine lv_dstore (lv' := [(5, .double r2), (4, .int (nI i)), (3, .ref ob), (2, .ref (bb 0)), (1, .ref (a 0)), (0, .ref b)]) hx hb dL_law_1656 hl (by decide) rfl (fun ls hl => ?_)
  refine lv_aload_n hx hb dL_law_1658 rfl (lv_at hl 3 rfl) ?_
  have I := wk_comm I
  refine r_callF1 (ws' := mW g bb ms') (As := []) (v := .double b2) (rest := []) E I hl.1 kM_186 (c5_openShare hm) mW_k (q0 := 0) rfl rfl rfl rfl (Nat.le_of_ble_eq_true rfl) ⟨(Nat.le_of_ble_eq_true rfl), (Nat.le_of_ble_eq_true rfl)⟩ ⟨hc9.1, hc9.2⟩ dL_law_1659 (fun H locs I => ?_)
  have I := wk_comm I
  refine lv_dstore (lv' := [(7, .double b2), (5, .double r2), (4, .int (nI i)), (3, .ref ob), (2, .ref (bb 0)), (1, .ref (a 0)), (0, .ref b)]) hx hb dL_law_1662 hl (by decide) rfl (fun ls hl => ?_)
  refine lv_dload hx hb dL_law_1664 (lv_at hl 1 rfl) ?_
  refine lv_dload hx hb dL_law_1666 (lv_at hl 0 rfl) ?_
  refine lv_dcmp hx hb dL_law_1668 ?_
  refine lv_if_eq (tgt := 1690) hx hb dL_law_1669 (by decide) (fun _ => ?_) (fun hc => absurd he hc)
  refine lv_goto (tgt := 1707) hx hb dL_law_1690 (by decide) ?_
  refine W.widen (k := cells + 1) (n := slots + 6) (Nat.le_add_right _ _) (Nat.le_add_right _ _) ?_
  exact kk _ _ _ _ _ _ hR I (lv_sub hl [2, 3, 4, 5, 6] rfl)
set_option maxHeartbeats 4000000 in
set_option maxRecDepth 100000 in
theorem law_26 {p : Program} {l : Launch} {e : Env} {s : State} {m : MethodId} {below : List Frame} {meth : Method} {c : Code} {H : Heap} {locs : List Loc} {cells slots : Nat} {Q : State → Prop} {ls : Array Slot} {D : va_G} {g : Nat → ClassId} {A : Nat → Prop} {b L : Nat} {xs : Nat → Int32} {a bb : Nat → Nat} {ob : Nat} {st : CS} {ms : MS} {w : Nat → Int64} {i : Nat} {Rel : CS → MS → Prop} (C : LC p l s m c b L xs D g A) (hi : i + 5 ≤ L) (ok : ∃ (st' : CS) (r2 : Int64) (ms' : MS) (b2 : Int64), f4_digest st = some (st', r2) ∧ f5_digest ms = some (ms', b2) ∧ r2 = b2 ∧ Rel st' ms') (I : wk D (lW g a bb ob st ms w) A s.heap H locs) (hl : lv_has ls 9 [(4, .int (nI i)), (3, .ref ob), (2, .ref (bb 0)), (1, .ref (a 0)), (0, .ref b)]) (hcs : cells + 1 ≤ room_1.cells ∧ slots + 6 ≤ room_1.slots) (kk : ∀ (st' : CS) (ms' : MS) (w' : Nat → Int64) (H : Heap) (locs : List Loc) (ls : Array Slot), Rel st' ms' → wk D (lW g a bb ob st' ms' w') A s.heap H locs → lv_has ls 9 [(4, .int (nI i)), (3, .ref ob), (2, .ref (bb 0)), (1, .ref (a 0)), (0, .ref b)] → W p l e room_1 s m #[Value.ref b] below meth c H locs (cells + 1) (slots + 6) Q (F0 m 1707 ls [])) : W p l e room_1 s m #[Value.ref b] below meth c H locs cells slots Q (F0 m 1693 ls []) := by
  obtain ⟨E, xw, nc, hX, hbl, hbA, hL, hl0⟩ := id C
  have hx := E.1.1
  have hb := E.1.2.1
  obtain ⟨st', r2, ms', b2, hf, hm, he, hR⟩ := ok
  have hc9 : cells ≤ room_1.cells ∧ slots ≤ room_1.slots := ⟨Nat.le_of_succ_le hcs.1, Nat.le_trans (Nat.le_add_right _ _) hcs.2⟩
  refine lv_aload_n hx hb dL_law_1693 rfl (lv_at hl 3 rfl) ?_
  have I : wk D (cW g a st ++ (oW g ob w ++ mW g bb ms)) A s.heap H locs := by rw [← List.append_assoc]; exact I
  refine r_callF1 (ws' := cW g a st') (As := []) (v := .long r2) (rest := []) E I hl.1 kM_187 (c4_digest hf) cW_k (q0 := 0) rfl rfl rfl rfl (Nat.le_of_ble_eq_true rfl) ⟨(Nat.le_of_ble_eq_true rfl), (Nat.le_of_ble_eq_true rfl)⟩ ⟨hc9.1, hc9.2⟩ dL_law_1694 (fun H locs I => ?_)
  have I : wk D (lW g a bb ob st' ms w) A s.heap H locs := lW_as I
  refine lv_aload_n hx hb dL_law_1697 rfl (lv_at hl 2 rfl) ?_
  have I := wk_comm I
  refine r_callF1 (ws' := mW g bb ms') (As := []) (v := .long b2) (rest := [.long r2]) E I hl.1 kM_191 (c5_digest hm) mW_k (q0 := 0) rfl rfl rfl rfl (Nat.le_of_ble_eq_true rfl) ⟨(Nat.le_of_ble_eq_true rfl), (Nat.le_of_ble_eq_true rfl)⟩ ⟨hc9.1, hc9.2⟩ dL_law_1698 (fun H locs I => ?_)
  have I := wk_comm I
  refine W.lcmp hx hb dL_law_1701 ?_
  refine lv_if_eq (tgt := 1707) hx hb dL_law_1702 (by decide) (fun _ => ?_) (fun hc => absurd (lg_cmp_self he) hc)
  refine W.widen (k := cells + 1) (n := slots + 6) (Nat.le_add_right _ _) (Nat.le_add_right _ _) ?_
  exact kk _ _ _ _ _ _ hR I (lv_sub hl [0, 1, 2, 3, 4] rfl)
set_option maxHeartbeats 8000000 in
set_option maxRecDepth 100000 in
theorem law_loop {p : Program} {l : Launch} {e : Env} {s : State} {m : MethodId} {below : List Frame} {meth : Method} {c : Code} {D : va_G} {g : Nat → ClassId} {A : Nat → Prop} {b L : Nat} {xs : Nat → Int32} {a bb : Nat → Nat} {ob : Nat} {Rel : CS → MS → Prop} (C : LC p l s m c b L xs D g A) (hr : meth.sig.returnType = ret) (hlocks : meth.locks = false) (hA : ∀ q, A q → s.heap.size ≤ q) (s0 : St0 Rel) (s1 : St1 Rel) (s2 : St2 Rel) (s3 : St3 Rel) (s4 : St4 Rel) (s5 : St5 Rel) (s6 : St6 Rel) (s7 : St7 Rel) (s8 : St8 Rel) (s9 : St9 Rel) (s10 : St10 Rel) (s11 : St11 Rel) (s12 : St12 Rel) (s13 : St13 Rel) (s14 : St14 Rel) (s15 : St15 Rel) (s16 : St16 Rel) (s17 : St17 Rel) (s18 : St18 Rel) (s19 : St19 Rel) (s20 : St20 Rel) (s21 : St21 Rel) (s22 : St22 Rel) (s23 : St23 Rel) (s24 : St24 Rel) (s25 : St25 Rel) (s26 : St26 Rel) : ∀ (n j : Nat) (st : CS) (ms : MS) (w : Nat → Int64) (H : Heap) (locs : List Loc) (ls : Array Slot), 5 * j ≤ L + 4 → L + 5 - 5 * j < n → Rel st ms → wk D (lW g a bb ob st ms w) A s.heap H locs → lv_has ls 9 [(4, .int (nI (5 * j))), (3, .ref ob), (2, .ref (bb 0)), (1, .ref (a 0)), (0, .ref b)] → W p l e room_1 s m #[Value.ref b] below meth c H locs (66 + j) (10325 + 6 * j) (lw_Z below #[Value.ref b] s) (F0 m 23 ls []) := by
  intro n
  induction n with
  | zero => intro j st ms w H locs ls _ h; omega
  | succ n ih =>
    intro j st ms w H locs ls hj hn hR I hl
    obtain ⟨E, xw, nc, hX, hbl, hbA, hL, hl0⟩ := id C
    have hx := E.1.1
    have hb := E.1.2.1
    refine lv_iload hx hb dL_law_23 (lv_at hl 0 rfl) ?_
    refine lv_aload_n hx hb dL_law_25 rfl (lv_at hl 4 rfl) ?_
    refine va_slen hx hb hX hbl hbA I.2.2 dL_law_26 ?_
    refine lv_iconst (v := (5 : Int32)) hx hb dL_law_27 (by decide) ?_
    refine lv_isub hx hb dL_law_28 ?_
    refine lv_icmp_gt (tgt := 1713) hx hb dL_law_29 (by decide) (fun hc => ?_) (fun hc => ?_)
    · refine lv_iconst (v := (1 : Int32)) hx hb dL_law_1713 (by decide) ?_
      refine va_forget (fun q hq => hA _ (I.2.2.2.2 q hq)) ?_
      refine W.widen (k := 601024) (n := 7293034) (by omega) (by omega) ?_
      exact lw_ret (d0 := s.drawn) (Drawn.sameBut.refl s.drawn lw_cs) hx hb hr hlocks dL_law_1714
    have hi : 5 * j + 5 ≤ L := lw_in hL (by omega) hc
    refine lv_aload_n hx hb dL_law_32 rfl (lv_at hl 4 rfl) ?_
    refine lv_iload hx hb dL_law_33 (lv_at hl 0 rfl) ?_
    refine l_sld (i := 5 * j) (k := 0) C I (by omega) rfl dL_law_35 ?_
    refine lv_bipush (v := (31 : Int32)) hx hb dL_law_36 (by decide) ?_
    refine lv_iand hx hb dL_law_38 ?_
    generalize xs (5 * j + 0) &&& 31 = op
    have hcs : 66 + j + 1 ≤ room_1.cells ∧ 10325 + 6 * j + 6 ≤ room_1.slots := ⟨by show _ ≤ 601024; omega, by show _ ≤ 7293034; omega⟩
    have next : ∀ (st' : CS) (ms' : MS) (w' : Nat → Int64) (H : Heap) (locs : List Loc) (ls : Array Slot), Rel st' ms' → wk D (lW g a bb ob st' ms' w') A s.heap H locs → lv_has ls 9 [(4, .int (nI (5 * j))), (3, .ref ob), (2, .ref (bb 0)), (1, .ref (a 0)), (0, .ref b)] → W p l e room_1 s m #[Value.ref b] below meth c H locs (66 + j + 1) (10325 + 6 * j + 6) (lw_Z below #[Value.ref b] s) (F0 m 1707 ls []) := by
      intro st' ms' w' H locs ls hR I hl
      refine lv_iinc (v := nI (5 * (j + 1))) (lv' := [(4, .int (nI (5 * (j + 1)))), (3, .ref ob), (2, .ref (bb 0)), (1, .ref (a 0)), (0, .ref b)]) hx hb dL_law_1707 hl (k := 0) rfl (nI_k (5 * j) 5 rfl) (by decide) rfl (fun ls hl => ?_)
      refine lv_goto (tgt := 23) hx hb dL_law_1710 (by decide) ?_
      have h9 := ih (j + 1) st' ms' w' H locs ls (by omega) (by omega) hR I hl
      rw [show 66 + (j + 1) = 66 + j + 1 by omega, show 10325 + 6 * (j + 1) = 10325 + 6 * j + 6 by omega] at h9
      exact h9
    by_cases h0 : op = nI 0
    · exact lv_tableIn (tgt := 160) hx hb dL_law_39 (by rw [h0]; decide) (by rw [h0]; decide) (by rw [h0]; rfl) (by decide) (law_0 C hi (s0 st ms hR _ _ _) I hl hcs next)
    by_cases h1 : op = nI 1
    · exact lv_tableIn (tgt := 240) hx hb dL_law_39 (by rw [h1]; decide) (by rw [h1]; decide) (by rw [h1]; rfl) (by decide) (law_1 C hi (s1 st ms hR _ _ _) I hl hcs next)
    by_cases h2 : op = nI 2
    · exact lv_tableIn (tgt := 320) hx hb dL_law_39 (by rw [h2]; decide) (by rw [h2]; decide) (by rw [h2]; rfl) (by decide) (law_2 C hi (s2 st ms hR _ _) I hl hcs next)
    by_cases h3 : op = nI 3
    · exact lv_tableIn (tgt := 388) hx hb dL_law_39 (by rw [h3]; decide) (by rw [h3]; decide) (by rw [h3]; rfl) (by decide) (law_3 C hi (s3 st ms hR _) I hl hcs next)
    by_cases h4 : op = nI 4
    · exact lv_tableIn (tgt := 444) hx hb dL_law_39 (by rw [h4]; decide) (by rw [h4]; decide) (by rw [h4]; rfl) (by decide) (law_4 C hi (s4 st ms hR _ _) I hl hcs next)
    by_cases h5 : op = nI 5
    · exact lv_tableIn (tgt := 512) hx hb dL_law_39 (by rw [h5]; decide) (by rw [h5]; decide) (by rw [h5]; rfl) (by decide) (law_5 C hi (s5 st ms hR _ _) I hl hcs next)
    by_cases h6 : op = nI 6
    · exact lv_tableIn (tgt := 580) hx hb dL_law_39 (by rw [h6]; decide) (by rw [h6]; decide) (by rw [h6]; rfl) (by decide) (law_6 C hi (s6 st ms hR _) I hl hcs next)
    by_cases h7 : op = nI 7
    · exact lv_tableIn (tgt := 636) hx hb dL_law_39 (by rw [h7]; decide) (by rw [h7]; decide) (by rw [h7]; rfl) (by decide) (law_7 C hi (s7 st ms hR) I hl hcs next)
    by_cases h8 : op = nI 8
    · exact lv_tableIn (tgt := 649) hx hb dL_law_39 (by rw [h8]; decide) (by rw [h8]; decide) (by rw [h8]; rfl) (by decide) (law_8 C hi (s8 st ms hR) I hl hcs next)
    by_cases h9 : op = nI 9
    · exact lv_tableIn (tgt := 662) hx hb dL_law_39 (by rw [h9]; decide) (by rw [h9]; decide) (by rw [h9]; rfl) (by decide) (law_9 C hi (s9 st ms hR _) I hl hcs next)
    by_cases h10 : op = nI 10
    · exact lv_tableIn (tgt := 718) hx hb dL_law_39 (by rw [h10]; decide) (by rw [h10]; decide) (by rw [h10]; rfl) (by decide) (law_10 C hi (s10 st ms hR _) I hl hcs next)
    by_cases h11 : op = nI 11
    · exact lv_tableIn (tgt := 774) hx hb dL_law_39 (by rw [h11]; decide) (by rw [h11]; decide) (by rw [h11]; rfl) (by decide) (law_11 C hi (s11 st ms hR _) I hl hcs next)
    by_cases h12 : op = nI 12
    · exact lv_tableIn (tgt := 830) hx hb dL_law_39 (by rw [h12]; decide) (by rw [h12]; decide) (by rw [h12]; rfl) (by decide) (law_12 C hi (s12 st ms hR) I hl hcs next)
    by_cases h13 : op = nI 13
    · exact lv_tableIn (tgt := 874) hx hb dL_law_39 (by rw [h13]; decide) (by rw [h13]; decide) (by rw [h13]; rfl) (by decide) (law_13 C hi (s13 st ms hR _ _) I hl hcs next)
    by_cases h14 : op = nI 14
    · exact lv_tableIn (tgt := 942) hx hb dL_law_39 (by rw [h14]; decide) (by rw [h14]; decide) (by rw [h14]; rfl) (by decide) (law_14 C hi (s14 st ms hR _) I hl hcs next)
    by_cases h15 : op = nI 15
    · exact lv_tableIn (tgt := 998) hx hb dL_law_39 (by rw [h15]; decide) (by rw [h15]; decide) (by rw [h15]; rfl) (by decide) (law_15 C hi (s15 st ms hR _) I hl hcs next)
    by_cases h16 : op = nI 16
    · exact lv_tableIn (tgt := 1054) hx hb dL_law_39 (by rw [h16]; decide) (by rw [h16]; decide) (by rw [h16]; rfl) (by decide) (law_16 C hi (s16 st ms hR _) I hl hcs next)
    by_cases h17 : op = nI 17
    · exact lv_tableIn (tgt := 1109) hx hb dL_law_39 (by rw [h17]; decide) (by rw [h17]; decide) (by rw [h17]; rfl) (by decide) (law_17 C hi (s17 st ms hR _ _ _) I hl hcs next)
    by_cases h18 : op = nI 18
    · exact lv_tableIn (tgt := 1189) hx hb dL_law_39 (by rw [h18]; decide) (by rw [h18]; decide) (by rw [h18]; rfl) (by decide) (law_18 C hi (s18 st ms hR _ _) I hl hcs next)
    by_cases h19 : op = nI 19
    · exact lv_tableIn (tgt := 1257) hx hb dL_law_39 (by rw [h19]; decide) (by rw [h19]; decide) (by rw [h19]; rfl) (by decide) (law_19 C hi (s19 st ms hR _ _ _ _) I hl hcs next)
    by_cases h20 : op = nI 20
    · exact lv_tableIn (tgt := 1349) hx hb dL_law_39 (by rw [h20]; decide) (by rw [h20]; decide) (by rw [h20]; rfl) (by decide) (law_20 C hi (s20 st ms hR _) I hl hcs next)
    by_cases h21 : op = nI 21
    · exact lv_tableIn (tgt := 1405) hx hb dL_law_39 (by rw [h21]; decide) (by rw [h21]; decide) (by rw [h21]; rfl) (by decide) (law_21 C hi (s21 st ms hR _) I hl hcs next)
    by_cases h22 : op = nI 22
    · exact lv_tableIn (tgt := 1461) hx hb dL_law_39 (by rw [h22]; decide) (by rw [h22]; decide) (by rw [h22]; rfl) (by decide) (law_22 C hi (s22 st ms hR _ _) I hl hcs next)
    by_cases h23 : op = nI 23
    · exact lv_tableIn (tgt := 1528) hx hb dL_law_39 (by rw [h23]; decide) (by rw [h23]; decide) (by rw [h23]; rfl) (by decide) (law_23 C hi (s23 st ms hR _ _) I hl hcs next)
    by_cases h24 : op = nI 24
    · exact lv_tableIn (tgt := 1596) hx hb dL_law_39 (by rw [h24]; decide) (by rw [h24]; decide) (by rw [h24]; rfl) (by decide) (law_24 C hi (s24 st ms hR _) I hl hcs next)
    by_cases h25 : op = nI 25
    · exact lv_tableIn (tgt := 1652) hx hb dL_law_39 (by rw [h25]; decide) (by rw [h25]; decide) (by rw [h25]; rfl) (by decide) (law_25 C hi (s25 st ms hR) I hl hcs next)
    by_cases h26 : op = nI 26
    · exact lv_tableIn (tgt := 1693) hx hb dL_law_39 (by rw [h26]; decide) (by rw [h26]; decide) (by rw [h26]; rfl) (by decide) (law_26 C hi (s26 st ms hR) I hl hcs next)
    refine lv_tableOut (tgt := 1707) hx hb dL_law_39 (sw_out26 (fun k hk => by
      rcases (show k = 0 ∨ k = 1 ∨ k = 2 ∨ k = 3 ∨ k = 4 ∨ k = 5 ∨ k = 6 ∨ k = 7 ∨ k = 8 ∨ k = 9 ∨ k = 10 ∨ k = 11 ∨ k = 12 ∨ k = 13 ∨ k = 14 ∨ k = 15 ∨ k = 16 ∨ k = 17 ∨ k = 18 ∨ k = 19 ∨ k = 20 ∨ k = 21 ∨ k = 22 ∨ k = 23 ∨ k = 24 ∨ k = 25 ∨ k = 26 by omega) with rfl | rfl | rfl | rfl | rfl | rfl | rfl | rfl | rfl | rfl | rfl | rfl | rfl | rfl | rfl | rfl | rfl | rfl | rfl | rfl | rfl | rfl | rfl | rfl | rfl | rfl | rfl <;> assumption)) (by decide) ?_
    refine W.widen (k := 66 + j + 1) (n := 10325 + 6 * j + 6) (by omega) (by omega) ?_
    exact next st ms w H locs ls hR I hl
