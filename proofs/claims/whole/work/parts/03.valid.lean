/-! the code lists hold what the bytes decode to, and their numbers what the tables link -/
def okI (oc pc : Nat) (i : Instr) (n x : Nat) : Bool := match i with
  | .getfield k => n == pc + 3 && decide (k < 1024) && fLk.contains (oc * 1024 + k, x)
  | .putfield k => n == pc + 3 && decide (k < 1024) && fLk.contains (oc * 1024 + k, x)
  | .invokevirtual k => n == pc + 3 && decide (k < 1024) && mLk.contains (oc * 1024 + k, x)
  | .invokespecial k => n == pc + 3 && decide (k < 1024) && (mLk.contains (oc * 1024 + k, x) || nLk.contains (oc * 1024 + k, x))
  | .invokestatic k => n == pc + 3 && decide (k < 1024) && (mLk.contains (oc * 1024 + k, x) || nLk.contains (oc * 1024 + k, x))
  | .new k => n == pc + 3 && decide (k < 1024) && cLk.contains (oc * 1024 + k, x)
  | .anewarray k => n == pc + 3 && decide (k < 1024) && ((x == 30 && cLk.contains (oc * 1024 + k, 0)) || (x == 31 && cLk.contains (oc * 1024 + k, 1)) || (x == 32 && cLk.contains (oc * 1024 + k, 2)) || (x == 33 && cLk.contains (oc * 1024 + k, 3)) || (x == 34 && cLk.contains (oc * 1024 + k, 4)) || (x == 35 && cLk.contains (oc * 1024 + k, 8)))
  | .newarray t => n == pc + 2 && (match t with | .byte => x == 20 | .int => x == 21 | .boolean => x == 22 | _ => false)
  | .ifCond _ f => n == pc + 3 && decide ((pc : Int) + f = (x : Int))
  | .if_icmp _ f => n == pc + 3 && decide ((pc : Int) + f = (x : Int))
  | .if_acmp _ f => n == pc + 3 && decide ((pc : Int) + f = (x : Int))
  | .ifnull f => n == pc + 3 && decide ((pc : Int) + f = (x : Int))
  | .ifnonnull f => n == pc + 3 && decide ((pc : Int) + f = (x : Int))
  | .goto f => n == pc + 3 && decide ((pc : Int) + f = (x : Int))
  | .tableswitch _ _ _ _ => true
  | .lookupswitch _ _ => true
  | .ldc k => n == pc + 2 && ((oc == 11 && k == 108 && x == 57600) || (oc == 5 && k == 157 && x == 0) || (oc == 5 && k == 163 && x == 1) || (oc == 5 && k == 165 && x == 2))
  | .sipush _ => n == pc + 3
  | .bipush _ => n == pc + 2
  | .iinc _ _ => n == pc + 3
  | .iload _ => n == pc + 2
  | .aload _ => n == pc + 2
  | .istore _ => n == pc + 2
  | .astore _ => n == pc + 2
  | _ => n == pc + 1
def okL (oc : Nat) (b : ByteArray) (L : List Ins) : Bool := L.all fun q => match decode b q.1 with
  | .ok (i, n) => decide (i = q.2.1) && (q.1 + n == q.2.2.1) && okI oc q.1 q.2.1 q.2.2.1 q.2.2.2
  | .error _ => false
theorem okL_0 : okL 0 prog_2_method_1_code cd0 = true := by decide +kernel
theorem okL_1 : okL 0 prog_2_method_2_code cd1 = true := by decide +kernel
theorem okL_2 : okL 0 prog_2_method_3_code cd2 = true := by decide +kernel
theorem okL_3 : okL 1 prog_3_method_1_code cd3 = true := by decide +kernel
theorem okL_4 : okL 1 prog_3_method_2_code cd4 = true := by decide +kernel
theorem okL_5 : okL 1 prog_3_method_3_code cd5 = true := by decide +kernel
theorem okL_6 : okL 1 prog_3_method_4_code cd6 = true := by decide +kernel
theorem okL_7 : okL 2 prog_4_method_1_code cd7 = true := by decide +kernel
theorem okL_8 : okL 3 prog_5_method_1_code cd8 = true := by decide +kernel
theorem okL_9 : okL 3 prog_5_method_2_code cd9 = true := by decide +kernel
theorem okL_10 : okL 3 prog_5_method_3_code cd10 = true := by decide +kernel
theorem okL_11 : okL 3 prog_5_method_4_code cd11 = true := by decide +kernel
theorem okL_12 : okL 3 prog_5_method_5_code cd12 = true := by decide +kernel
theorem okL_13 : okL 3 prog_5_method_6_code cd13 = true := by decide +kernel
theorem okL_14 : okL 3 prog_5_method_7_code cd14 = true := by decide +kernel
theorem okL_15 : okL 3 prog_5_method_8_code cd15 = true := by decide +kernel
theorem okL_16 : okL 3 prog_5_method_9_code cd16 = true := by decide +kernel
theorem okL_17 : okL 3 prog_5_method_10_code cd17 = true := by decide +kernel
theorem okL_18 : okL 4 prog_6_method_1_code cd18 = true := by decide +kernel
theorem okL_19 : okL 4 prog_6_method_2_code cd19 = true := by decide +kernel
theorem okL_20 : okL 4 prog_6_method_3_code cd20 = true := by decide +kernel
theorem okL_21 : okL 5 prog_7_method_1_code cd21 = true := by decide +kernel
theorem okL_22 : okL 5 prog_7_method_2_code cd22 = true := by decide +kernel
theorem okL_23 : okL 5 prog_7_method_3_code cd23 = true := by decide +kernel
theorem okL_24 : okL 5 prog_7_method_4_code cd24 = true := by decide +kernel
theorem okL_25 : okL 5 prog_7_method_5_code cd25 = true := by decide +kernel
theorem okL_26 : okL 5 prog_7_method_6_code cd26 = true := by decide +kernel
theorem okL_27 : okL 5 prog_7_method_7_code cd27 = true := by decide +kernel
theorem okL_28 : okL 5 prog_7_method_8_code cd28 = true := by decide +kernel
theorem okL_29 : okL 5 prog_7_method_9_code cd29 = true := by decide +kernel
theorem okL_30 : okL 5 prog_7_method_10_code cd30 = true := by decide +kernel
theorem okL_31 : okL 5 prog_7_method_11_code cd31 = true := by decide +kernel
theorem okL_32 : okL 5 prog_7_method_12_code cd32 = true := by decide +kernel
theorem okL_33 : okL 5 prog_7_method_13_code cd33 = true := by decide +kernel
theorem okL_34 : okL 5 prog_7_method_14_code cd34 = true := by decide +kernel
theorem okL_35 : okL 5 prog_7_method_15_code cd35 = true := by decide +kernel
theorem okL_36 : okL 5 prog_7_method_16_code cd36 = true := by decide +kernel
theorem okL_37 : okL 6 prog_8_method_1_code cd37 = true := by decide +kernel
theorem okL_38 : okL 6 prog_8_method_2_code cd38 = true := by decide +kernel
theorem okL_39 : okL 6 prog_8_method_3_code cd39 = true := by decide +kernel
theorem okL_40 : okL 6 prog_8_method_4_code cd40 = true := by decide +kernel
theorem okL_41 : okL 6 prog_8_method_5_code cd41 = true := by decide +kernel
theorem okL_42 : okL 6 prog_8_method_6_code cd42 = true := by decide +kernel
theorem okL_43 : okL 6 prog_8_method_7_code cd43 = true := by decide +kernel
theorem okL_44 : okL 6 prog_8_method_8_code cd44 = true := by decide +kernel
theorem okL_45 : okL 6 prog_8_method_9_code cd45 = true := by decide +kernel
theorem okL_46 : okL 6 prog_8_method_10_code cd46 = true := by decide +kernel
theorem okL_47 : okL 7 prog_9_method_1_code cd47 = true := by decide +kernel
theorem okL_48 : okL 7 prog_9_method_2_code cd48 = true := by decide +kernel
theorem okL_49 : okL 7 prog_9_method_3_code cd49 = true := by decide +kernel
theorem okL_50 : okL 7 prog_9_method_4_code cd50 = true := by decide +kernel
theorem okL_51 : okL 7 prog_9_method_5_code cd51 = true := by decide +kernel
theorem okL_52 : okL 7 prog_9_method_6_code cd52 = true := by decide +kernel
theorem okL_53 : okL 7 prog_9_method_7_code cd53 = true := by decide +kernel
theorem okL_54 : okL 7 prog_9_method_8_code cd54 = true := by decide +kernel
theorem okL_55 : okL 7 prog_9_method_9_code cd55 = true := by decide +kernel
theorem okL_56 : okL 7 prog_9_method_10_code cd56 = true := by decide +kernel
theorem okL_57 : okL 7 prog_9_method_11_code cd57 = true := by decide +kernel
theorem okL_58 : okL 7 prog_9_method_12_code cd58 = true := by decide +kernel
theorem okL_59 : okL 8 prog_10_method_1_code cd59 = true := by decide +kernel
theorem okL_60 : okL 8 prog_10_method_2_code cd60 = true := by decide +kernel
theorem okL_61 : okL 8 prog_10_method_3_code cd61 = true := by decide +kernel
theorem okL_62 : okL 8 prog_10_method_4_code cd62 = true := by decide +kernel
theorem okL_63 : okL 8 prog_10_method_5_code cd63 = true := by decide +kernel
theorem okL_64 : okL 8 prog_10_method_6_code cd64 = true := by decide +kernel
theorem okL_65 : okL 8 prog_10_method_7_code cd65 = true := by decide +kernel
theorem okL_66 : okL 8 prog_10_method_8_code cd66 = true := by decide +kernel
theorem okL_67 : okL 8 prog_10_method_9_code cd67 = true := by decide +kernel
theorem okL_68 : okL 8 prog_10_method_10_code cd68 = true := by decide +kernel
theorem okL_69 : okL 8 prog_10_method_11_code cd69 = true := by decide +kernel
theorem okL_70 : okL 8 prog_10_method_12_code cd70 = true := by decide +kernel
theorem okL_71 : okL 8 prog_10_method_13_code cd71 = true := by decide +kernel
theorem okL_72 : okL 8 prog_10_method_14_code cd72 = true := by decide +kernel
theorem okL_73 : okL 8 prog_10_method_15_code cd73 = true := by decide +kernel
theorem okL_74 : okL 9 prog_11_method_1_code cd74 = true := by decide +kernel
theorem okL_75 : okL 9 prog_11_method_2_code cd75 = true := by decide +kernel
theorem okL_76 : okL 9 prog_11_method_3_code cd76 = true := by decide +kernel
theorem okL_77 : okL 9 prog_11_method_4_code cd77 = true := by decide +kernel
theorem okL_78 : okL 9 prog_11_method_5_code cd78 = true := by decide +kernel
theorem okL_79 : okL 9 prog_11_method_6_code cd79 = true := by decide +kernel
theorem okL_80 : okL 9 prog_11_method_7_code cd80 = true := by decide +kernel
theorem okL_81 : okL 9 prog_11_method_8_code cd81 = true := by decide +kernel
theorem okL_82 : okL 10 prog_1_method_1_code cd82 = true := by decide +kernel
theorem okL_83 : okL 10 prog_1_method_2_code cd83 = true := by decide +kernel
theorem okL_84 : okL 10 prog_1_method_3_code cd84 = true := by decide +kernel
theorem okL_85 : okL 10 prog_1_method_4_code cd85 = true := by decide +kernel
theorem okL_86 : okL 10 prog_1_method_5_code cd86 = true := by decide +kernel
theorem okL_87 : okL 10 prog_1_method_6_code cd87 = true := by decide +kernel
theorem okL_88 : okL 10 prog_1_method_7_code cd88 = true := by decide +kernel
theorem okL_89 : okL 10 prog_1_method_8_code cd89 = true := by decide +kernel
theorem okL_90 : okL 10 prog_1_method_9_code cd90 = true := by decide +kernel
theorem okL_91 : okL 10 prog_1_method_10_code cd91 = true := by decide +kernel
theorem okL_92 : okL 10 prog_1_method_11_code cd92 = true := by decide +kernel
theorem okL_93 : okL 10 prog_1_method_12_code cd93 = true := by decide +kernel
theorem okL_94 : okL 10 prog_1_method_13_code cd94 = true := by decide +kernel
theorem okL_95 : okL 10 prog_1_method_14_code cd95 = true := by decide +kernel
theorem okL_96 : okL 10 prog_1_method_15_code cd96 = true := by decide +kernel
theorem okL_97 : okL 10 prog_1_method_16_code cd97 = true := by decide +kernel
theorem okL_98 : okL 10 prog_1_method_17_code cd98 = true := by decide +kernel
theorem okL_99 : okL 10 prog_1_method_18_code cd99 = true := by decide +kernel
theorem okL_100 : okL 10 prog_1_method_19_code cd100 = true := by decide +kernel
theorem okL_101 : okL 10 prog_1_method_20_code cd101 = true := by decide +kernel
theorem okL_102 : okL 10 prog_1_method_21_code cd102 = true := by decide +kernel
theorem okL_103 : okL 10 prog_1_method_22_code cd103 = true := by decide +kernel
theorem okL_104 : okL 10 prog_1_method_23_code cd104 = true := by decide +kernel
theorem okL_105 : okL 10 prog_1_method_24_code cd105 = true := by decide +kernel
theorem okL_106 : okL 10 prog_1_method_25_code cd106 = true := by decide +kernel
theorem okL_107 : okL 10 prog_1_method_26_code cd107 = true := by decide +kernel
theorem okL_108 : okL 10 prog_1_method_27_code cd108 = true := by decide +kernel
theorem okL_109 : okL 10 prog_1_method_28_code cd109 = true := by decide +kernel
theorem okL_110 : okL 10 prog_1_method_29_code cd110 = true := by decide +kernel
theorem okL_111 : okL 10 prog_1_method_30_code cd111 = true := by decide +kernel
theorem okL_112 : okL 10 prog_1_method_31_code cd112 = true := by decide +kernel
theorem okL_113 : okL 10 prog_1_method_32_code cd113 = true := by decide +kernel
theorem okL_114 : okL 10 prog_1_method_33_code cd114 = true := by decide +kernel
theorem okL_115 : okL 10 prog_1_method_34_code cd115 = true := by decide +kernel
theorem okL_116 : okL 10 prog_1_method_35_code cd116 = true := by decide +kernel
theorem okL_117 : okL 10 prog_1_method_36_code cd117 = true := by decide +kernel
theorem okL_118 : okL 10 prog_1_method_37_code cd118 = true := by decide +kernel
theorem okL_119 : okL 11 prog_13_method_1_code cd119 = true := by decide +kernel
theorem okL_120 : okL 11 prog_13_method_2_code cd120 = true := by decide +kernel
theorem okL_121 : okL 11 prog_13_method_3_code cd121 = true := by decide +kernel
theorem okL_122 : okL 11 prog_13_method_4_code cd122 = true := by decide +kernel
theorem okL_123 : okL 11 prog_13_method_5_code cd123 = true := by decide +kernel
theorem okL_124 : okL 11 prog_13_method_6_code cd124 = true := by decide +kernel
theorem okL_125 : okL 11 prog_13_method_7_code cd125 = true := by decide +kernel
theorem okL_126 : okL 11 prog_13_method_8_code cd126 = true := by decide +kernel
theorem okL_127 : okL 11 prog_13_method_9_code cd127 = true := by decide +kernel
theorem okL_128 : okL 11 prog_13_method_10_code cd128 = true := by decide +kernel
theorem okL_129 : okL 11 prog_13_method_11_code cd129 = true := by decide +kernel
theorem okL_130 : okL 11 prog_13_method_12_code cd130 = true := by decide +kernel
theorem okL_131 : okL 11 prog_13_method_13_code cd131 = true := by decide +kernel
theorem okL_132 : okL 11 prog_13_method_14_code cd132 = true := by decide +kernel
theorem okL_133 : okL 11 prog_13_method_15_code cd133 = true := by decide +kernel
theorem okL_134 : okL 11 prog_13_method_16_code cd134 = true := by decide +kernel
theorem okL_135 : okL 11 prog_13_method_17_code cd135 = true := by decide +kernel
theorem okL_136 : okL 11 prog_13_method_18_code cd136 = true := by decide +kernel
theorem okL_137 : okL 11 prog_13_method_19_code cd137 = true := by decide +kernel
theorem okL_138 : okL 11 prog_13_method_20_code cd138 = true := by decide +kernel
theorem okL_139 : okL 11 prog_13_method_21_code cd139 = true := by decide +kernel
theorem okL_140 : okL 11 prog_13_method_22_code cd140 = true := by decide +kernel
theorem okL_141 : okL 11 prog_13_method_23_code cd141 = true := by decide +kernel
theorem okL_142 : okL 11 prog_13_method_24_code cd142 = true := by decide +kernel
theorem okL_143 : okL 11 prog_13_method_25_code cd143 = true := by decide +kernel
theorem okL_144 : okL 11 prog_13_method_26_code cd144 = true := by decide +kernel
theorem okL_145 : okL 11 prog_13_method_27_code cd145 = true := by decide +kernel
theorem okL_146 : okL 11 prog_13_method_28_code cd146 = true := by decide +kernel
theorem okL_147 : okL 11 prog_13_method_29_code cd147 = true := by decide +kernel
theorem okL_148 : okL 11 prog_13_method_30_code cd148 = true := by decide +kernel
theorem okL_149 : okL 11 prog_13_method_31_code cd149 = true := by decide +kernel
theorem okL_150 : okL 11 prog_13_method_32_code cd150 = true := by decide +kernel
theorem okL_151 : okL 11 prog_13_method_33_code cd151 = true := by decide +kernel
theorem okL_152 : okL 11 prog_13_method_34_code cd152 = true := by decide +kernel
theorem okL_153 : okL 11 prog_13_method_35_code cd153 = true := by decide +kernel
theorem okL_154 : okL 11 prog_13_method_36_code cd154 = true := by decide +kernel
theorem okL_155 : okL 11 prog_13_method_37_code cd155 = true := by decide +kernel
theorem okL_156 : okL 11 prog_13_method_38_code cd156 = true := by decide +kernel
theorem okL_157 : okL 11 prog_13_method_39_code cd157 = true := by decide +kernel
theorem okL_158 : okL 11 prog_13_method_40_code cd158 = true := by decide +kernel
theorem okL_159 : okL 11 prog_13_method_41_code cd159 = true := by decide +kernel
theorem okL_160 : okL 11 prog_13_method_42_code cd160 = true := by decide +kernel
theorem okL_161 : okL 11 prog_13_method_43_code cd161 = true := by decide +kernel
theorem okL_162 : okL 11 prog_13_method_44_code cd162 = true := by decide +kernel
theorem okL_163 : okL 11 prog_13_method_45_code cd163 = true := by decide +kernel
theorem okL_164 : okL 11 prog_13_method_46_code cd164 = true := by decide +kernel
theorem okL_165 : okL 11 prog_13_method_47_code cd165 = true := by decide +kernel
theorem okL_166 : okL 11 prog_13_method_48_code cd166 = true := by decide +kernel
theorem okL_167 : okL 11 prog_13_method_49_code cd167 = true := by decide +kernel
theorem okL_168 : okL 11 prog_13_method_50_code cd168 = true := by decide +kernel
theorem okL_169 : okL 11 prog_13_method_51_code cd169 = true := by decide +kernel
theorem okL_170 : okL 11 prog_13_method_52_code cd170 = true := by decide +kernel
theorem okL_171 : okL 11 prog_13_method_53_code cd171 = true := by decide +kernel
theorem okL_172 : okL 11 prog_13_method_54_code cd172 = true := by decide +kernel
theorem okL_173 : okL 11 prog_13_method_55_code cd173 = true := by decide +kernel
theorem okL_174 : okL 11 prog_13_method_56_code cd174 = true := by decide +kernel
theorem okL_175 : okL 11 prog_13_method_57_code cd175 = true := by decide +kernel
theorem okL_176 : okL 11 prog_13_method_58_code cd176 = true := by decide +kernel
theorem okL_177 : okL 11 prog_13_method_59_code cd177 = true := by decide +kernel
theorem okL_178 : okL 11 prog_13_method_60_code cd178 = true := by decide +kernel
theorem okL_179 : okL 11 prog_13_method_61_code cd179 = true := by decide +kernel
theorem okL_180 : okL 11 prog_13_method_62_code cd180 = true := by decide +kernel
theorem okL_181 : okL 11 prog_13_method_63_code cd181 = true := by decide +kernel
theorem okL_182 : okL 11 prog_13_method_64_code cd182 = true := by decide +kernel
theorem okL_183 : okL 11 prog_13_method_65_code cd183 = true := by decide +kernel
theorem okL_184 : okL 11 prog_13_method_66_code cd184 = true := by decide +kernel
theorem okL_185 : okL 11 prog_13_method_67_code cd185 = true := by decide +kernel
theorem okL_186 : okL 11 prog_13_method_68_code cd186 = true := by decide +kernel
theorem okL_187 : okL 11 prog_13_method_69_code cd187 = true := by decide +kernel
theorem okL_188 : okL 11 prog_13_method_70_code cd188 = true := by decide +kernel
theorem okL_189 : okL 11 prog_13_method_71_code cd189 = true := by decide +kernel
theorem okL_190 : okL 12 prog_14_method_65_code cd190 = true := by decide +kernel
theorem okL_191 : okL 12 prog_14_method_69_code cd191 = true := by decide +kernel
theorem okL_192 : okL 13 prog_19_method_103_code cd192 = true := by decide +kernel
