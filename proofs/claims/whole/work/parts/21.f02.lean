/-! walks, written by a program -/
def fX12_init (a0 : Nat) (s0 : gH) : Option (Unit × gH) :=
  if a0 = 0 then none else
  gmka s0 2 1600 fun r1 s2 =>
  (spR s2 a0 12 0 r1).bind fun s3 =>
  (spI s3 a0 12 8 (-1)).bind fun s4 =>
  gmka s4 2 6 fun r5 s6 =>
  (spR s6 a0 12 9 r5).bind fun s7 =>
  gmka s7 1 132 fun r8 s9 =>
  (saI s9 r8 1 0 100).bind fun s10 =>
  (saI s10 r8 1 1 97).bind fun s11 =>
  (saI s11 r8 1 2 121).bind fun s12 =>
  (saI s12 r8 1 3 115).bind fun s13 =>
  (saI s13 r8 1 4 32).bind fun s14 =>
  (saI s14 r8 1 5 119).bind fun s15 =>
  (saI s15 r8 1 6 101).bind fun s16 =>
  (saI s16 r8 1 7 101).bind fun s17 =>
  (saI s17 r8 1 8 107).bind fun s18 =>
  (saI s18 r8 1 9 115).bind fun s19 =>
  (saI s19 r8 1 10 32).bind fun s20 =>
  (saI s20 r8 1 11 109).bind fun s21 =>
  (saI s21 r8 1 12 111).bind fun s22 =>
  (saI s22 r8 1 13 110).bind fun s23 =>
  (saI s23 r8 1 14 116).bind fun s24 =>
  (saI s24 r8 1 15 104).bind fun s25 =>
  (saI s25 r8 1 16 115).bind fun s26 =>
  (saI s26 r8 1 17 32).bind fun s27 =>
  (saI s27 r8 1 18 121).bind fun s28 =>
  (saI s28 r8 1 19 101).bind fun s29 =>
  (saI s29 r8 1 20 97).bind fun s30 =>
  (saI s30 r8 1 21 114).bind fun s31 =>
  (saI s31 r8 1 22 115).bind fun s32 =>
  (saI s32 r8 1 23 32).bind fun s33 =>
  (saI s33 r8 1 24 109).bind fun s34 =>
  (saI s34 r8 1 25 111).bind fun s35 =>
  (saI s35 r8 1 26 110).bind fun s36 =>
  (saI s36 r8 1 27 32).bind fun s37 =>
  (saI s37 r8 1 28 116).bind fun s38 =>
  (saI s38 r8 1 29 117).bind fun s39 =>
  (saI s39 r8 1 30 101).bind fun s40 =>
  (saI s40 r8 1 31 32).bind fun s41 =>
  (saI s41 r8 1 32 119).bind fun s42 =>
  (saI s42 r8 1 33 101).bind fun s43 =>
  (saI s43 r8 1 34 100).bind fun s44 =>
  (saI s44 r8 1 35 32).bind fun s45 =>
  (saI s45 r8 1 36 116).bind fun s46 =>
  (saI s46 r8 1 37 104).bind fun s47 =>
  (saI s47 r8 1 38 117).bind fun s48 =>
  (saI s48 r8 1 39 32).bind fun s49 =>
  (saI s49 r8 1 40 102).bind fun s50 =>
  (saI s50 r8 1 41 114).bind fun s51 =>
  (saI s51 r8 1 42 105).bind fun s52 =>
  (saI s52 r8 1 43 32).bind fun s53 =>
  (saI s53 r8 1 44 115).bind fun s54 =>
  (saI s54 r8 1 45 97).bind fun s55 =>
  (saI s55 r8 1 46 116).bind fun s56 =>
  (saI s56 r8 1 47 32).bind fun s57 =>
  (saI s57 r8 1 48 115).bind fun s58 =>
  (saI s58 r8 1 49 117).bind fun s59 =>
  (saI s59 r8 1 50 110).bind fun s60 =>
  (saI s60 r8 1 51 32).bind fun s61 =>
  (saI s61 r8 1 52 105).bind fun s62 =>
  (saI s62 r8 1 53 110).bind fun s63 =>
  (saI s63 r8 1 54 32).bind fun s64 =>
  (saI s64 r8 1 55 111).bind fun s65 =>
  (saI s65 r8 1 56 110).bind fun s66 =>
  (saI s66 r8 1 57 32).bind fun s67 =>
  (saI s67 r8 1 58 98).bind fun s68 =>
  (saI s68 r8 1 59 121).bind fun s69 =>
  (saI s69 r8 1 60 32).bind fun s70 =>
  (saI s70 r8 1 61 97).bind fun s71 =>
  (saI s71 r8 1 62 116).bind fun s72 =>
  (saI s72 r8 1 63 32).bind fun s73 =>
  (saI s73 r8 1 64 117).bind fun s74 =>
  (saI s74 r8 1 65 110).bind fun s75 =>
  (saI s75 r8 1 66 116).bind fun s76 =>
  (saI s76 r8 1 67 105).bind fun s77 =>
  (saI s77 r8 1 68 108).bind fun s78 =>
  (saI s78 r8 1 69 32).bind fun s79 =>
  (saI s79 r8 1 70 99).bind fun s80 =>
  (saI s80 r8 1 71 111).bind fun s81 =>
  (saI s81 r8 1 72 117).bind fun s82 =>
  (saI s82 r8 1 73 110).bind fun s83 =>
  (saI s83 r8 1 74 116).bind fun s84 =>
  (saI s84 r8 1 75 32).bind fun s85 =>
  (saI s85 r8 1 76 114).bind fun s86 =>
  (saI s86 r8 1 77 117).bind fun s87 =>
  (saI s87 r8 1 78 108).bind fun s88 =>
  (saI s88 r8 1 79 101).bind fun s89 =>
  (saI s89 r8 1 80 32).bind fun s90 =>
  (saI s90 r8 1 81 101).bind fun s91 =>
  (saI s91 r8 1 82 118).bind fun s92 =>
  (saI s92 r8 1 83 101).bind fun s93 =>
  (saI s93 r8 1 84 114).bind fun s94 =>
  (saI s94 r8 1 85 121).bind fun s95 =>
  (saI s95 r8 1 86 32).bind fun s96 =>
  (saI s96 r8 1 87 102).bind fun s97 =>
  (saI s97 r8 1 88 114).bind fun s98 =>
  (saI s98 r8 1 89 111).bind fun s99 =>
  (saI s99 r8 1 90 109).bind fun s100 =>
  (saI s100 r8 1 91 32).bind fun s101 =>
  (saI s101 r8 1 92 115).bind fun s102 =>
  (saI s102 r8 1 93 101).bind fun s103 =>
  (saI s103 r8 1 94 116).bind fun s104 =>
  (saI s104 r8 1 95 32).bind fun s105 =>
  (saI s105 r8 1 96 105).bind fun s106 =>
  (saI s106 r8 1 97 115).bind fun s107 =>
  (saI s107 r8 1 98 32).bind fun s108 =>
  (saI s108 r8 1 99 111).bind fun s109 =>
  (saI s109 r8 1 100 114).bind fun s110 =>
  (saI s110 r8 1 101 32).bind fun s111 =>
  (saI s111 r8 1 102 97).bind fun s112 =>
  (saI s112 r8 1 103 110).bind fun s113 =>
  (saI s113 r8 1 104 100).bind fun s114 =>
  (saI s114 r8 1 105 32).bind fun s115 =>
  (saI s115 r8 1 106 108).bind fun s116 =>
  (saI s116 r8 1 107 101).bind fun s117 =>
  (saI s117 r8 1 108 115).bind fun s118 =>
  (saI s118 r8 1 109 115).bind fun s119 =>
  (saI s119 r8 1 110 32).bind fun s120 =>
  (saI s120 r8 1 111 108).bind fun s121 =>
  (saI s121 r8 1 112 97).bind fun s122 =>
  (saI s122 r8 1 113 116).bind fun s123 =>
  (saI s123 r8 1 114 101).bind fun s124 =>
  (saI s124 r8 1 115 114).bind fun s125 =>
  (saI s125 r8 1 116 32).bind fun s126 =>
  (saI s126 r8 1 117 115).bind fun s127 =>
  (saI s127 r8 1 118 111).bind fun s128 =>
  (saI s128 r8 1 119 111).bind fun s129 =>
  (saI s129 r8 1 120 110).bind fun s130 =>
  (saI s130 r8 1 121 101).bind fun s131 =>
  (saI s131 r8 1 122 114).bind fun s132 =>
  (saI s132 r8 1 123 32).bind fun s133 =>
  (saI s133 r8 1 124 111).bind fun s134 =>
  (saI s134 r8 1 125 102).bind fun s135 =>
  (saI s135 r8 1 126 102).bind fun s136 =>
  (saI s136 r8 1 127 32).bind fun s137 =>
  (saI s137 r8 1 128 100).bind fun s138 =>
  (saI s138 r8 1 129 97).bind fun s139 =>
  (saI s139 r8 1 130 121).bind fun s140 =>
  (saI s140 r8 1 131 32).bind fun s141 =>
  (spR s141 a0 12 11 r8).bind fun s142 =>
  gmka s142 2 14610 fun r143 s144 =>
  (spR s144 a0 12 13 r143).bind fun s145 =>
  gmka s145 2 14610 fun r146 s147 =>
  (spR s147 a0 12 14 r146).bind fun s148 =>
  gmka s148 2 14610 fun r149 s150 =>
  (spR s150 a0 12 15 r149).bind fun s151 =>
  gmka s151 2 14610 fun r152 s153 =>
  (spR s153 a0 12 16 r152).bind fun s154 =>
  gmka s154 2 272 fun r155 s156 =>
  (spR s156 a0 12 18 r155).bind fun s157 =>
  gmka s157 2 272 fun r158 s159 =>
  (spR s159 a0 12 19 r158).bind fun s160 =>
  gmka s160 2 3000 fun r161 s162 =>
  (spR s162 a0 12 20 r161).bind fun s163 =>
  gmka s163 2 3000 fun r164 s165 =>
  (spR s165 a0 12 21 r164).bind fun s166 =>
  gmka s166 2 64 fun r167 s168 =>
  (spR s168 a0 12 25 r167).bind fun s169 =>
  gmka s169 2 8 fun r170 s171 =>
  (spR s171 a0 12 28 r170).bind fun s172 =>
  gmka s172 2 264 fun r173 s174 =>
  (spR s174 a0 12 29 r173).bind fun s175 =>
  gmka s175 4 175320 fun r176 s177 =>
  (spR s177 a0 12 30 r176).bind fun s178 =>
  gmka s178 4 12 fun r179 s180 =>
  (spR s180 a0 12 31 r179).bind fun s181 =>
  gmka s181 4 14610 fun r182 s183 =>
  (spR s183 a0 12 32 r182).bind fun s184 =>
  gmka s184 4 233760 fun r185 s186 =>
  (spR s186 a0 12 33 r185).bind fun s187 =>
  gmka s187 4 14610 fun r188 s189 =>
  (spR s189 a0 12 35 r188).bind fun s190 =>
  gmka s190 2 12 fun r191 s192 =>
  (spR s192 a0 12 38 r191).bind fun s193 =>
  gmka s193 4 12 fun r194 s195 =>
  (spR s195 a0 12 39 r194).bind fun s196 =>
  gmka s196 4 61 fun r197 s198 =>
  (spR s198 a0 12 40 r197).bind fun s199 =>
  gmka s199 4 14610 fun r200 s201 =>
  (spR s201 a0 12 41 r200).bind fun s202 =>
  gmka s202 2 366 fun r203 s204 =>
  (spR s204 a0 12 42 r203).bind fun s205 =>
  gmka s205 2 5280 fun r206 s207 =>
  (spR s207 a0 12 43 r206).bind fun s208 =>
  (spJ s208 a0 12 46 1).bind fun s209 =>
  some ((), s209)
set_option maxRecDepth 100000 in
set_option maxHeartbeats 4000000 in
theorem wX12_init {X : Nat × (Nat → Int32)} {d : Nat} (hd : 1 ≤ d) {a0 : Nat} {s0 : gH} : gGo X rvU mX12_init d 0 [(0, vr a0)] [] s0 (fX12_init a0 s0) := by
  unfold fX12_init
  refine go_aload_n 0 dX12_init_0 rfl rfl ?_
  refine go_objz go_RX12_1 gob_1 gob_2 (Nat.le_of_ble_eq_true rfl) dX12_init_1 (fun ha0 => ?_)
  refine go_aload_n 0 dX12_init_4 rfl rfl ?_
  refine go_sipush (v := 1600) dX12_init_5 (by decide) ?_
  refine go_mka (t := 2) (by decide) gac_2 dX12_init_8 (fun r1 s2 => ?_)
  refine go_putR gf_RX12_7 gcf_12 (gpf_12_0 rfl rfl) (Or.inr ⟨_, rfl⟩) gft_12_0 dX12_init_10 (fun s3 _ => ?_)
  refine go_aload_n 0 dX12_init_13 rfl rfl ?_
  refine go_iconst (v := -1) dX12_init_14 (by decide) ?_
  refine go_putI gf_RX12_13 gcf_12 gpl_12_8 gft_12_8 dX12_init_15 (fun s4 _ => ?_)
  refine go_aload_n 0 dX12_init_18 rfl rfl ?_
  refine go_bipush (v := 6) dX12_init_19 (by decide) ?_
  refine go_mka (t := 2) (by decide) gac_2 dX12_init_21 (fun r5 s6 => ?_)
  refine go_putR gf_RX12_17 gcf_12 (gpf_12_9 rfl rfl) (Or.inr ⟨_, rfl⟩) gft_12_9 dX12_init_23 (fun s7 _ => ?_)
  refine go_aload_n 0 dX12_init_26 rfl rfl ?_
  refine go_sipush (v := 132) dX12_init_27 (by decide) ?_
  refine go_mka (t := 1) (by decide) gac_1 dX12_init_30 (fun r8 s9 => ?_)
  refine go_dup dX12_init_32 rfl ?_
  refine go_iconst (v := 0) dX12_init_33 (by decide) ?_
  refine go_bipush (v := 100) dX12_init_34 (by decide) ?_
  refine go_castore dX12_init_36 (fun s10 _ => ?_)
  refine go_dup dX12_init_37 rfl ?_
  refine go_iconst (v := 1) dX12_init_38 (by decide) ?_
  refine go_bipush (v := 97) dX12_init_39 (by decide) ?_
  refine go_castore dX12_init_41 (fun s11 _ => ?_)
  refine go_dup dX12_init_42 rfl ?_
  refine go_iconst (v := 2) dX12_init_43 (by decide) ?_
  refine go_bipush (v := 121) dX12_init_44 (by decide) ?_
  refine go_castore dX12_init_46 (fun s12 _ => ?_)
  refine go_dup dX12_init_47 rfl ?_
  refine go_iconst (v := 3) dX12_init_48 (by decide) ?_
  refine go_bipush (v := 115) dX12_init_49 (by decide) ?_
  refine go_castore dX12_init_51 (fun s13 _ => ?_)
  refine go_dup dX12_init_52 rfl ?_
  refine go_iconst (v := 4) dX12_init_53 (by decide) ?_
  refine go_bipush (v := 32) dX12_init_54 (by decide) ?_
  refine go_castore dX12_init_56 (fun s14 _ => ?_)
  refine go_dup dX12_init_57 rfl ?_
  refine go_iconst (v := 5) dX12_init_58 (by decide) ?_
  refine go_bipush (v := 119) dX12_init_59 (by decide) ?_
  refine go_castore dX12_init_61 (fun s15 _ => ?_)
  refine go_dup dX12_init_62 rfl ?_
  refine go_bipush (v := 6) dX12_init_63 (by decide) ?_
  refine go_bipush (v := 101) dX12_init_65 (by decide) ?_
  refine go_castore dX12_init_67 (fun s16 _ => ?_)
  refine go_dup dX12_init_68 rfl ?_
  refine go_bipush (v := 7) dX12_init_69 (by decide) ?_
  refine go_bipush (v := 101) dX12_init_71 (by decide) ?_
  refine go_castore dX12_init_73 (fun s17 _ => ?_)
  refine go_dup dX12_init_74 rfl ?_
  refine go_bipush (v := 8) dX12_init_75 (by decide) ?_
  refine go_bipush (v := 107) dX12_init_77 (by decide) ?_
  refine go_castore dX12_init_79 (fun s18 _ => ?_)
  refine go_dup dX12_init_80 rfl ?_
  refine go_bipush (v := 9) dX12_init_81 (by decide) ?_
  refine go_bipush (v := 115) dX12_init_83 (by decide) ?_
  refine go_castore dX12_init_85 (fun s19 _ => ?_)
  refine go_dup dX12_init_86 rfl ?_
  refine go_bipush (v := 10) dX12_init_87 (by decide) ?_
  refine go_bipush (v := 32) dX12_init_89 (by decide) ?_
  refine go_castore dX12_init_91 (fun s20 _ => ?_)
  refine go_dup dX12_init_92 rfl ?_
  refine go_bipush (v := 11) dX12_init_93 (by decide) ?_
  refine go_bipush (v := 109) dX12_init_95 (by decide) ?_
  refine go_castore dX12_init_97 (fun s21 _ => ?_)
  refine go_dup dX12_init_98 rfl ?_
  refine go_bipush (v := 12) dX12_init_99 (by decide) ?_
  refine go_bipush (v := 111) dX12_init_101 (by decide) ?_
  refine go_castore dX12_init_103 (fun s22 _ => ?_)
  refine go_dup dX12_init_104 rfl ?_
  refine go_bipush (v := 13) dX12_init_105 (by decide) ?_
  refine go_bipush (v := 110) dX12_init_107 (by decide) ?_
  refine go_castore dX12_init_109 (fun s23 _ => ?_)
  refine go_dup dX12_init_110 rfl ?_
  refine go_bipush (v := 14) dX12_init_111 (by decide) ?_
  refine go_bipush (v := 116) dX12_init_113 (by decide) ?_
  refine go_castore dX12_init_115 (fun s24 _ => ?_)
  refine go_dup dX12_init_116 rfl ?_
  refine go_bipush (v := 15) dX12_init_117 (by decide) ?_
  refine go_bipush (v := 104) dX12_init_119 (by decide) ?_
  refine go_castore dX12_init_121 (fun s25 _ => ?_)
  refine go_dup dX12_init_122 rfl ?_
  refine go_bipush (v := 16) dX12_init_123 (by decide) ?_
  refine go_bipush (v := 115) dX12_init_125 (by decide) ?_
  refine go_castore dX12_init_127 (fun s26 _ => ?_)
  refine go_dup dX12_init_128 rfl ?_
  refine go_bipush (v := 17) dX12_init_129 (by decide) ?_
  refine go_bipush (v := 32) dX12_init_131 (by decide) ?_
  refine go_castore dX12_init_133 (fun s27 _ => ?_)
  refine go_dup dX12_init_134 rfl ?_
  refine go_bipush (v := 18) dX12_init_135 (by decide) ?_
  refine go_bipush (v := 121) dX12_init_137 (by decide) ?_
  refine go_castore dX12_init_139 (fun s28 _ => ?_)
  refine go_dup dX12_init_140 rfl ?_
  refine go_bipush (v := 19) dX12_init_141 (by decide) ?_
  refine go_bipush (v := 101) dX12_init_143 (by decide) ?_
  refine go_castore dX12_init_145 (fun s29 _ => ?_)
  refine go_dup dX12_init_146 rfl ?_
  refine go_bipush (v := 20) dX12_init_147 (by decide) ?_
  refine go_bipush (v := 97) dX12_init_149 (by decide) ?_
  refine go_castore dX12_init_151 (fun s30 _ => ?_)
  refine go_dup dX12_init_152 rfl ?_
  refine go_bipush (v := 21) dX12_init_153 (by decide) ?_
  refine go_bipush (v := 114) dX12_init_155 (by decide) ?_
  refine go_castore dX12_init_157 (fun s31 _ => ?_)
  refine go_dup dX12_init_158 rfl ?_
  refine go_bipush (v := 22) dX12_init_159 (by decide) ?_
  refine go_bipush (v := 115) dX12_init_161 (by decide) ?_
  refine go_castore dX12_init_163 (fun s32 _ => ?_)
  refine go_dup dX12_init_164 rfl ?_
  refine go_bipush (v := 23) dX12_init_165 (by decide) ?_
  refine go_bipush (v := 32) dX12_init_167 (by decide) ?_
  refine go_castore dX12_init_169 (fun s33 _ => ?_)
  refine go_dup dX12_init_170 rfl ?_
  refine go_bipush (v := 24) dX12_init_171 (by decide) ?_
  refine go_bipush (v := 109) dX12_init_173 (by decide) ?_
  refine go_castore dX12_init_175 (fun s34 _ => ?_)
  refine go_dup dX12_init_176 rfl ?_
  refine go_bipush (v := 25) dX12_init_177 (by decide) ?_
  refine go_bipush (v := 111) dX12_init_179 (by decide) ?_
  refine go_castore dX12_init_181 (fun s35 _ => ?_)
  refine go_dup dX12_init_182 rfl ?_
  refine go_bipush (v := 26) dX12_init_183 (by decide) ?_
  refine go_bipush (v := 110) dX12_init_185 (by decide) ?_
  refine go_castore dX12_init_187 (fun s36 _ => ?_)
  refine go_dup dX12_init_188 rfl ?_
  refine go_bipush (v := 27) dX12_init_189 (by decide) ?_
  refine go_bipush (v := 32) dX12_init_191 (by decide) ?_
  refine go_castore dX12_init_193 (fun s37 _ => ?_)
  refine go_dup dX12_init_194 rfl ?_
  refine go_bipush (v := 28) dX12_init_195 (by decide) ?_
  refine go_bipush (v := 116) dX12_init_197 (by decide) ?_
  refine go_castore dX12_init_199 (fun s38 _ => ?_)
  refine go_dup dX12_init_200 rfl ?_
  refine go_bipush (v := 29) dX12_init_201 (by decide) ?_
  refine go_bipush (v := 117) dX12_init_203 (by decide) ?_
  refine go_castore dX12_init_205 (fun s39 _ => ?_)
  refine go_dup dX12_init_206 rfl ?_
  refine go_bipush (v := 30) dX12_init_207 (by decide) ?_
  refine go_bipush (v := 101) dX12_init_209 (by decide) ?_
  refine go_castore dX12_init_211 (fun s40 _ => ?_)
  refine go_dup dX12_init_212 rfl ?_
  refine go_bipush (v := 31) dX12_init_213 (by decide) ?_
  refine go_bipush (v := 32) dX12_init_215 (by decide) ?_
  refine go_castore dX12_init_217 (fun s41 _ => ?_)
  refine go_dup dX12_init_218 rfl ?_
  refine go_bipush (v := 32) dX12_init_219 (by decide) ?_
  refine go_bipush (v := 119) dX12_init_221 (by decide) ?_
  refine go_castore dX12_init_223 (fun s42 _ => ?_)
  refine go_dup dX12_init_224 rfl ?_
  refine go_bipush (v := 33) dX12_init_225 (by decide) ?_
  refine go_bipush (v := 101) dX12_init_227 (by decide) ?_
  refine go_castore dX12_init_229 (fun s43 _ => ?_)
  refine go_dup dX12_init_230 rfl ?_
  refine go_bipush (v := 34) dX12_init_231 (by decide) ?_
  refine go_bipush (v := 100) dX12_init_233 (by decide) ?_
  refine go_castore dX12_init_235 (fun s44 _ => ?_)
  refine go_dup dX12_init_236 rfl ?_
  refine go_bipush (v := 35) dX12_init_237 (by decide) ?_
  refine go_bipush (v := 32) dX12_init_239 (by decide) ?_
  refine go_castore dX12_init_241 (fun s45 _ => ?_)
  refine go_dup dX12_init_242 rfl ?_
  refine go_bipush (v := 36) dX12_init_243 (by decide) ?_
  refine go_bipush (v := 116) dX12_init_245 (by decide) ?_
  refine go_castore dX12_init_247 (fun s46 _ => ?_)
  refine go_dup dX12_init_248 rfl ?_
  refine go_bipush (v := 37) dX12_init_249 (by decide) ?_
  refine go_bipush (v := 104) dX12_init_251 (by decide) ?_
  refine go_castore dX12_init_253 (fun s47 _ => ?_)
  refine go_dup dX12_init_254 rfl ?_
  refine go_bipush (v := 38) dX12_init_255 (by decide) ?_
  refine go_bipush (v := 117) dX12_init_257 (by decide) ?_
  refine go_castore dX12_init_259 (fun s48 _ => ?_)
  refine go_dup dX12_init_260 rfl ?_
  refine go_bipush (v := 39) dX12_init_261 (by decide) ?_
  refine go_bipush (v := 32) dX12_init_263 (by decide) ?_
  refine go_castore dX12_init_265 (fun s49 _ => ?_)
  refine go_dup dX12_init_266 rfl ?_
  refine go_bipush (v := 40) dX12_init_267 (by decide) ?_
  refine go_bipush (v := 102) dX12_init_269 (by decide) ?_
  refine go_castore dX12_init_271 (fun s50 _ => ?_)
  refine go_dup dX12_init_272 rfl ?_
  refine go_bipush (v := 41) dX12_init_273 (by decide) ?_
  refine go_bipush (v := 114) dX12_init_275 (by decide) ?_
  refine go_castore dX12_init_277 (fun s51 _ => ?_)
  refine go_dup dX12_init_278 rfl ?_
  refine go_bipush (v := 42) dX12_init_279 (by decide) ?_
  refine go_bipush (v := 105) dX12_init_281 (by decide) ?_
  refine go_castore dX12_init_283 (fun s52 _ => ?_)
  refine go_dup dX12_init_284 rfl ?_
  refine go_bipush (v := 43) dX12_init_285 (by decide) ?_
  refine go_bipush (v := 32) dX12_init_287 (by decide) ?_
  refine go_castore dX12_init_289 (fun s53 _ => ?_)
  refine go_dup dX12_init_290 rfl ?_
  refine go_bipush (v := 44) dX12_init_291 (by decide) ?_
  refine go_bipush (v := 115) dX12_init_293 (by decide) ?_
  refine go_castore dX12_init_295 (fun s54 _ => ?_)
  refine go_dup dX12_init_296 rfl ?_
  refine go_bipush (v := 45) dX12_init_297 (by decide) ?_
  refine go_bipush (v := 97) dX12_init_299 (by decide) ?_
  refine go_castore dX12_init_301 (fun s55 _ => ?_)
  refine go_dup dX12_init_302 rfl ?_
  refine go_bipush (v := 46) dX12_init_303 (by decide) ?_
  refine go_bipush (v := 116) dX12_init_305 (by decide) ?_
  refine go_castore dX12_init_307 (fun s56 _ => ?_)
  refine go_dup dX12_init_308 rfl ?_
  refine go_bipush (v := 47) dX12_init_309 (by decide) ?_
  refine go_bipush (v := 32) dX12_init_311 (by decide) ?_
  refine go_castore dX12_init_313 (fun s57 _ => ?_)
  refine go_dup dX12_init_314 rfl ?_
  refine go_bipush (v := 48) dX12_init_315 (by decide) ?_
  refine go_bipush (v := 115) dX12_init_317 (by decide) ?_
  refine go_castore dX12_init_319 (fun s58 _ => ?_)
  refine go_dup dX12_init_320 rfl ?_
  refine go_bipush (v := 49) dX12_init_321 (by decide) ?_
  refine go_bipush (v := 117) dX12_init_323 (by decide) ?_
  refine go_castore dX12_init_325 (fun s59 _ => ?_)
  refine go_dup dX12_init_326 rfl ?_
  refine go_bipush (v := 50) dX12_init_327 (by decide) ?_
  refine go_bipush (v := 110) dX12_init_329 (by decide) ?_
  refine go_castore dX12_init_331 (fun s60 _ => ?_)
  refine go_dup dX12_init_332 rfl ?_
  refine go_bipush (v := 51) dX12_init_333 (by decide) ?_
  refine go_bipush (v := 32) dX12_init_335 (by decide) ?_
  refine go_castore dX12_init_337 (fun s61 _ => ?_)
  refine go_dup dX12_init_338 rfl ?_
  refine go_bipush (v := 52) dX12_init_339 (by decide) ?_
  refine go_bipush (v := 105) dX12_init_341 (by decide) ?_
  refine go_castore dX12_init_343 (fun s62 _ => ?_)
  refine go_dup dX12_init_344 rfl ?_
  refine go_bipush (v := 53) dX12_init_345 (by decide) ?_
  refine go_bipush (v := 110) dX12_init_347 (by decide) ?_
  refine go_castore dX12_init_349 (fun s63 _ => ?_)
  refine go_dup dX12_init_350 rfl ?_
  refine go_bipush (v := 54) dX12_init_351 (by decide) ?_
  refine go_bipush (v := 32) dX12_init_353 (by decide) ?_
  refine go_castore dX12_init_355 (fun s64 _ => ?_)
  refine go_dup dX12_init_356 rfl ?_
  refine go_bipush (v := 55) dX12_init_357 (by decide) ?_
  refine go_bipush (v := 111) dX12_init_359 (by decide) ?_
  refine go_castore dX12_init_361 (fun s65 _ => ?_)
  refine go_dup dX12_init_362 rfl ?_
  refine go_bipush (v := 56) dX12_init_363 (by decide) ?_
  refine go_bipush (v := 110) dX12_init_365 (by decide) ?_
  refine go_castore dX12_init_367 (fun s66 _ => ?_)
  refine go_dup dX12_init_368 rfl ?_
  refine go_bipush (v := 57) dX12_init_369 (by decide) ?_
  refine go_bipush (v := 32) dX12_init_371 (by decide) ?_
  refine go_castore dX12_init_373 (fun s67 _ => ?_)
  refine go_dup dX12_init_374 rfl ?_
  refine go_bipush (v := 58) dX12_init_375 (by decide) ?_
  refine go_bipush (v := 98) dX12_init_377 (by decide) ?_
  refine go_castore dX12_init_379 (fun s68 _ => ?_)
  refine go_dup dX12_init_380 rfl ?_
  refine go_bipush (v := 59) dX12_init_381 (by decide) ?_
  refine go_bipush (v := 121) dX12_init_383 (by decide) ?_
  refine go_castore dX12_init_385 (fun s69 _ => ?_)
  refine go_dup dX12_init_386 rfl ?_
  refine go_bipush (v := 60) dX12_init_387 (by decide) ?_
  refine go_bipush (v := 32) dX12_init_389 (by decide) ?_
  refine go_castore dX12_init_391 (fun s70 _ => ?_)
  refine go_dup dX12_init_392 rfl ?_
  refine go_bipush (v := 61) dX12_init_393 (by decide) ?_
  refine go_bipush (v := 97) dX12_init_395 (by decide) ?_
  refine go_castore dX12_init_397 (fun s71 _ => ?_)
  refine go_dup dX12_init_398 rfl ?_
  refine go_bipush (v := 62) dX12_init_399 (by decide) ?_
  refine go_bipush (v := 116) dX12_init_401 (by decide) ?_
  refine go_castore dX12_init_403 (fun s72 _ => ?_)
  refine go_dup dX12_init_404 rfl ?_
  refine go_bipush (v := 63) dX12_init_405 (by decide) ?_
  refine go_bipush (v := 32) dX12_init_407 (by decide) ?_
  refine go_castore dX12_init_409 (fun s73 _ => ?_)
  refine go_dup dX12_init_410 rfl ?_
  refine go_bipush (v := 64) dX12_init_411 (by decide) ?_
  refine go_bipush (v := 117) dX12_init_413 (by decide) ?_
  refine go_castore dX12_init_415 (fun s74 _ => ?_)
  refine go_dup dX12_init_416 rfl ?_
  refine go_bipush (v := 65) dX12_init_417 (by decide) ?_
  refine go_bipush (v := 110) dX12_init_419 (by decide) ?_
  refine go_castore dX12_init_421 (fun s75 _ => ?_)
  refine go_dup dX12_init_422 rfl ?_
  refine go_bipush (v := 66) dX12_init_423 (by decide) ?_
  refine go_bipush (v := 116) dX12_init_425 (by decide) ?_
  refine go_castore dX12_init_427 (fun s76 _ => ?_)
  refine go_dup dX12_init_428 rfl ?_
  refine go_bipush (v := 67) dX12_init_429 (by decide) ?_
  refine go_bipush (v := 105) dX12_init_431 (by decide) ?_
  refine go_castore dX12_init_433 (fun s77 _ => ?_)
  refine go_dup dX12_init_434 rfl ?_
  refine go_bipush (v := 68) dX12_init_435 (by decide) ?_
  refine go_bipush (v := 108) dX12_init_437 (by decide) ?_
  refine go_castore dX12_init_439 (fun s78 _ => ?_)
  refine go_dup dX12_init_440 rfl ?_
  refine go_bipush (v := 69) dX12_init_441 (by decide) ?_
  refine go_bipush (v := 32) dX12_init_443 (by decide) ?_
  refine go_castore dX12_init_445 (fun s79 _ => ?_)
  refine go_dup dX12_init_446 rfl ?_
  refine go_bipush (v := 70) dX12_init_447 (by decide) ?_
  refine go_bipush (v := 99) dX12_init_449 (by decide) ?_
  refine go_castore dX12_init_451 (fun s80 _ => ?_)
  refine go_dup dX12_init_452 rfl ?_
  refine go_bipush (v := 71) dX12_init_453 (by decide) ?_
  refine go_bipush (v := 111) dX12_init_455 (by decide) ?_
  refine go_castore dX12_init_457 (fun s81 _ => ?_)
  refine go_dup dX12_init_458 rfl ?_
  refine go_bipush (v := 72) dX12_init_459 (by decide) ?_
  refine go_bipush (v := 117) dX12_init_461 (by decide) ?_
  refine go_castore dX12_init_463 (fun s82 _ => ?_)
  refine go_dup dX12_init_464 rfl ?_
  refine go_bipush (v := 73) dX12_init_465 (by decide) ?_
  refine go_bipush (v := 110) dX12_init_467 (by decide) ?_
  refine go_castore dX12_init_469 (fun s83 _ => ?_)
  refine go_dup dX12_init_470 rfl ?_
  refine go_bipush (v := 74) dX12_init_471 (by decide) ?_
  refine go_bipush (v := 116) dX12_init_473 (by decide) ?_
  refine go_castore dX12_init_475 (fun s84 _ => ?_)
  refine go_dup dX12_init_476 rfl ?_
  refine go_bipush (v := 75) dX12_init_477 (by decide) ?_
  refine go_bipush (v := 32) dX12_init_479 (by decide) ?_
  refine go_castore dX12_init_481 (fun s85 _ => ?_)
  refine go_dup dX12_init_482 rfl ?_
  refine go_bipush (v := 76) dX12_init_483 (by decide) ?_
  refine go_bipush (v := 114) dX12_init_485 (by decide) ?_
  refine go_castore dX12_init_487 (fun s86 _ => ?_)
  refine go_dup dX12_init_488 rfl ?_
  refine go_bipush (v := 77) dX12_init_489 (by decide) ?_
  refine go_bipush (v := 117) dX12_init_491 (by decide) ?_
  refine go_castore dX12_init_493 (fun s87 _ => ?_)
  refine go_dup dX12_init_494 rfl ?_
  refine go_bipush (v := 78) dX12_init_495 (by decide) ?_
  refine go_bipush (v := 108) dX12_init_497 (by decide) ?_
  refine go_castore dX12_init_499 (fun s88 _ => ?_)
  refine go_dup dX12_init_500 rfl ?_
  refine go_bipush (v := 79) dX12_init_501 (by decide) ?_
  refine go_bipush (v := 101) dX12_init_503 (by decide) ?_
  refine go_castore dX12_init_505 (fun s89 _ => ?_)
  refine go_dup dX12_init_506 rfl ?_
  refine go_bipush (v := 80) dX12_init_507 (by decide) ?_
  refine go_bipush (v := 32) dX12_init_509 (by decide) ?_
  refine go_castore dX12_init_511 (fun s90 _ => ?_)
  refine go_dup dX12_init_512 rfl ?_
  refine go_bipush (v := 81) dX12_init_513 (by decide) ?_
  refine go_bipush (v := 101) dX12_init_515 (by decide) ?_
  refine go_castore dX12_init_517 (fun s91 _ => ?_)
  refine go_dup dX12_init_518 rfl ?_
  refine go_bipush (v := 82) dX12_init_519 (by decide) ?_
  refine go_bipush (v := 118) dX12_init_521 (by decide) ?_
  refine go_castore dX12_init_523 (fun s92 _ => ?_)
  refine go_dup dX12_init_524 rfl ?_
  refine go_bipush (v := 83) dX12_init_525 (by decide) ?_
  refine go_bipush (v := 101) dX12_init_527 (by decide) ?_
  refine go_castore dX12_init_529 (fun s93 _ => ?_)
  refine go_dup dX12_init_530 rfl ?_
  refine go_bipush (v := 84) dX12_init_531 (by decide) ?_
  refine go_bipush (v := 114) dX12_init_533 (by decide) ?_
  refine go_castore dX12_init_535 (fun s94 _ => ?_)
  refine go_dup dX12_init_536 rfl ?_
  refine go_bipush (v := 85) dX12_init_537 (by decide) ?_
  refine go_bipush (v := 121) dX12_init_539 (by decide) ?_
  refine go_castore dX12_init_541 (fun s95 _ => ?_)
  refine go_dup dX12_init_542 rfl ?_
  refine go_bipush (v := 86) dX12_init_543 (by decide) ?_
  refine go_bipush (v := 32) dX12_init_545 (by decide) ?_
  refine go_castore dX12_init_547 (fun s96 _ => ?_)
  refine go_dup dX12_init_548 rfl ?_
  refine go_bipush (v := 87) dX12_init_549 (by decide) ?_
  refine go_bipush (v := 102) dX12_init_551 (by decide) ?_
  refine go_castore dX12_init_553 (fun s97 _ => ?_)
  refine go_dup dX12_init_554 rfl ?_
  refine go_bipush (v := 88) dX12_init_555 (by decide) ?_
  refine go_bipush (v := 114) dX12_init_557 (by decide) ?_
  refine go_castore dX12_init_559 (fun s98 _ => ?_)
  refine go_dup dX12_init_560 rfl ?_
  refine go_bipush (v := 89) dX12_init_561 (by decide) ?_
  refine go_bipush (v := 111) dX12_init_563 (by decide) ?_
  refine go_castore dX12_init_565 (fun s99 _ => ?_)
  refine go_dup dX12_init_566 rfl ?_
  refine go_bipush (v := 90) dX12_init_567 (by decide) ?_
  refine go_bipush (v := 109) dX12_init_569 (by decide) ?_
  refine go_castore dX12_init_571 (fun s100 _ => ?_)
  refine go_dup dX12_init_572 rfl ?_
  refine go_bipush (v := 91) dX12_init_573 (by decide) ?_
  refine go_bipush (v := 32) dX12_init_575 (by decide) ?_
  refine go_castore dX12_init_577 (fun s101 _ => ?_)
  refine go_dup dX12_init_578 rfl ?_
  refine go_bipush (v := 92) dX12_init_579 (by decide) ?_
  refine go_bipush (v := 115) dX12_init_581 (by decide) ?_
  refine go_castore dX12_init_583 (fun s102 _ => ?_)
  refine go_dup dX12_init_584 rfl ?_
  refine go_bipush (v := 93) dX12_init_585 (by decide) ?_
  refine go_bipush (v := 101) dX12_init_587 (by decide) ?_
  refine go_castore dX12_init_589 (fun s103 _ => ?_)
  refine go_dup dX12_init_590 rfl ?_
  refine go_bipush (v := 94) dX12_init_591 (by decide) ?_
  refine go_bipush (v := 116) dX12_init_593 (by decide) ?_
  refine go_castore dX12_init_595 (fun s104 _ => ?_)
  refine go_dup dX12_init_596 rfl ?_
  refine go_bipush (v := 95) dX12_init_597 (by decide) ?_
  refine go_bipush (v := 32) dX12_init_599 (by decide) ?_
  refine go_castore dX12_init_601 (fun s105 _ => ?_)
  refine go_dup dX12_init_602 rfl ?_
  refine go_bipush (v := 96) dX12_init_603 (by decide) ?_
  refine go_bipush (v := 105) dX12_init_605 (by decide) ?_
  refine go_castore dX12_init_607 (fun s106 _ => ?_)
  refine go_dup dX12_init_608 rfl ?_
  refine go_bipush (v := 97) dX12_init_609 (by decide) ?_
  refine go_bipush (v := 115) dX12_init_611 (by decide) ?_
  refine go_castore dX12_init_613 (fun s107 _ => ?_)
  refine go_dup dX12_init_614 rfl ?_
  refine go_bipush (v := 98) dX12_init_615 (by decide) ?_
  refine go_bipush (v := 32) dX12_init_617 (by decide) ?_
  refine go_castore dX12_init_619 (fun s108 _ => ?_)
  refine go_dup dX12_init_620 rfl ?_
  refine go_bipush (v := 99) dX12_init_621 (by decide) ?_
  refine go_bipush (v := 111) dX12_init_623 (by decide) ?_
  refine go_castore dX12_init_625 (fun s109 _ => ?_)
  refine go_dup dX12_init_626 rfl ?_
  refine go_bipush (v := 100) dX12_init_627 (by decide) ?_
  refine go_bipush (v := 114) dX12_init_629 (by decide) ?_
  refine go_castore dX12_init_631 (fun s110 _ => ?_)
  refine go_dup dX12_init_632 rfl ?_
  refine go_bipush (v := 101) dX12_init_633 (by decide) ?_
  refine go_bipush (v := 32) dX12_init_635 (by decide) ?_
  refine go_castore dX12_init_637 (fun s111 _ => ?_)
  refine go_dup dX12_init_638 rfl ?_
  refine go_bipush (v := 102) dX12_init_639 (by decide) ?_
  refine go_bipush (v := 97) dX12_init_641 (by decide) ?_
  refine go_castore dX12_init_643 (fun s112 _ => ?_)
  refine go_dup dX12_init_644 rfl ?_
  refine go_bipush (v := 103) dX12_init_645 (by decide) ?_
  refine go_bipush (v := 110) dX12_init_647 (by decide) ?_
  refine go_castore dX12_init_649 (fun s113 _ => ?_)
  refine go_dup dX12_init_650 rfl ?_
  refine go_bipush (v := 104) dX12_init_651 (by decide) ?_
  refine go_bipush (v := 100) dX12_init_653 (by decide) ?_
  refine go_castore dX12_init_655 (fun s114 _ => ?_)
  refine go_dup dX12_init_656 rfl ?_
  refine go_bipush (v := 105) dX12_init_657 (by decide) ?_
  refine go_bipush (v := 32) dX12_init_659 (by decide) ?_
  refine go_castore dX12_init_661 (fun s115 _ => ?_)
  refine go_dup dX12_init_662 rfl ?_
  refine go_bipush (v := 106) dX12_init_663 (by decide) ?_
  refine go_bipush (v := 108) dX12_init_665 (by decide) ?_
  refine go_castore dX12_init_667 (fun s116 _ => ?_)
  refine go_dup dX12_init_668 rfl ?_
  refine go_bipush (v := 107) dX12_init_669 (by decide) ?_
  refine go_bipush (v := 101) dX12_init_671 (by decide) ?_
  refine go_castore dX12_init_673 (fun s117 _ => ?_)
  refine go_dup dX12_init_674 rfl ?_
  refine go_bipush (v := 108) dX12_init_675 (by decide) ?_
  refine go_bipush (v := 115) dX12_init_677 (by decide) ?_
  refine go_castore dX12_init_679 (fun s118 _ => ?_)
  refine go_dup dX12_init_680 rfl ?_
  refine go_bipush (v := 109) dX12_init_681 (by decide) ?_
  refine go_bipush (v := 115) dX12_init_683 (by decide) ?_
  refine go_castore dX12_init_685 (fun s119 _ => ?_)
  refine go_dup dX12_init_686 rfl ?_
  refine go_bipush (v := 110) dX12_init_687 (by decide) ?_
  refine go_bipush (v := 32) dX12_init_689 (by decide) ?_
  refine go_castore dX12_init_691 (fun s120 _ => ?_)
  refine go_dup dX12_init_692 rfl ?_
  refine go_bipush (v := 111) dX12_init_693 (by decide) ?_
  refine go_bipush (v := 108) dX12_init_695 (by decide) ?_
  refine go_castore dX12_init_697 (fun s121 _ => ?_)
  refine go_dup dX12_init_698 rfl ?_
  refine go_bipush (v := 112) dX12_init_699 (by decide) ?_
  refine go_bipush (v := 97) dX12_init_701 (by decide) ?_
  refine go_castore dX12_init_703 (fun s122 _ => ?_)
  refine go_dup dX12_init_704 rfl ?_
  refine go_bipush (v := 113) dX12_init_705 (by decide) ?_
  refine go_bipush (v := 116) dX12_init_707 (by decide) ?_
  refine go_castore dX12_init_709 (fun s123 _ => ?_)
  refine go_dup dX12_init_710 rfl ?_
  refine go_bipush (v := 114) dX12_init_711 (by decide) ?_
  refine go_bipush (v := 101) dX12_init_713 (by decide) ?_
  refine go_castore dX12_init_715 (fun s124 _ => ?_)
  refine go_dup dX12_init_716 rfl ?_
  refine go_bipush (v := 115) dX12_init_717 (by decide) ?_
  refine go_bipush (v := 114) dX12_init_719 (by decide) ?_
  refine go_castore dX12_init_721 (fun s125 _ => ?_)
  refine go_dup dX12_init_722 rfl ?_
  refine go_bipush (v := 116) dX12_init_723 (by decide) ?_
  refine go_bipush (v := 32) dX12_init_725 (by decide) ?_
  refine go_castore dX12_init_727 (fun s126 _ => ?_)
  refine go_dup dX12_init_728 rfl ?_
  refine go_bipush (v := 117) dX12_init_729 (by decide) ?_
  refine go_bipush (v := 115) dX12_init_731 (by decide) ?_
  refine go_castore dX12_init_733 (fun s127 _ => ?_)
  refine go_dup dX12_init_734 rfl ?_
  refine go_bipush (v := 118) dX12_init_735 (by decide) ?_
  refine go_bipush (v := 111) dX12_init_737 (by decide) ?_
  refine go_castore dX12_init_739 (fun s128 _ => ?_)
  refine go_dup dX12_init_740 rfl ?_
  refine go_bipush (v := 119) dX12_init_741 (by decide) ?_
  refine go_bipush (v := 111) dX12_init_743 (by decide) ?_
  refine go_castore dX12_init_745 (fun s129 _ => ?_)
  refine go_dup dX12_init_746 rfl ?_
  refine go_bipush (v := 120) dX12_init_747 (by decide) ?_
  refine go_bipush (v := 110) dX12_init_749 (by decide) ?_
  refine go_castore dX12_init_751 (fun s130 _ => ?_)
  refine go_dup dX12_init_752 rfl ?_
  refine go_bipush (v := 121) dX12_init_753 (by decide) ?_
  refine go_bipush (v := 101) dX12_init_755 (by decide) ?_
  refine go_castore dX12_init_757 (fun s131 _ => ?_)
  refine go_dup dX12_init_758 rfl ?_
  refine go_bipush (v := 122) dX12_init_759 (by decide) ?_
  refine go_bipush (v := 114) dX12_init_761 (by decide) ?_
  refine go_castore dX12_init_763 (fun s132 _ => ?_)
  refine go_dup dX12_init_764 rfl ?_
  refine go_bipush (v := 123) dX12_init_765 (by decide) ?_
  refine go_bipush (v := 32) dX12_init_767 (by decide) ?_
  refine go_castore dX12_init_769 (fun s133 _ => ?_)
  refine go_dup dX12_init_770 rfl ?_
  refine go_bipush (v := 124) dX12_init_771 (by decide) ?_
  refine go_bipush (v := 111) dX12_init_773 (by decide) ?_
  refine go_castore dX12_init_775 (fun s134 _ => ?_)
  refine go_dup dX12_init_776 rfl ?_
  refine go_bipush (v := 125) dX12_init_777 (by decide) ?_
  refine go_bipush (v := 102) dX12_init_779 (by decide) ?_
  refine go_castore dX12_init_781 (fun s135 _ => ?_)
  refine go_dup dX12_init_782 rfl ?_
  refine go_bipush (v := 126) dX12_init_783 (by decide) ?_
  refine go_bipush (v := 102) dX12_init_785 (by decide) ?_
  refine go_castore dX12_init_787 (fun s136 _ => ?_)
  refine go_dup dX12_init_788 rfl ?_
  refine go_bipush (v := 127) dX12_init_789 (by decide) ?_
  refine go_bipush (v := 32) dX12_init_791 (by decide) ?_
  refine go_castore dX12_init_793 (fun s137 _ => ?_)
  refine go_dup dX12_init_794 rfl ?_
  refine go_sipush (v := 128) dX12_init_795 (by decide) ?_
  refine go_bipush (v := 100) dX12_init_798 (by decide) ?_
  refine go_castore dX12_init_800 (fun s138 _ => ?_)
  refine go_dup dX12_init_801 rfl ?_
  refine go_sipush (v := 129) dX12_init_802 (by decide) ?_
  refine go_bipush (v := 97) dX12_init_805 (by decide) ?_
  refine go_castore dX12_init_807 (fun s139 _ => ?_)
  refine go_dup dX12_init_808 rfl ?_
  refine go_sipush (v := 130) dX12_init_809 (by decide) ?_
  refine go_bipush (v := 121) dX12_init_812 (by decide) ?_
  refine go_castore dX12_init_814 (fun s140 _ => ?_)
  refine go_dup dX12_init_815 rfl ?_
  refine go_sipush (v := 131) dX12_init_816 (by decide) ?_
  refine go_bipush (v := 32) dX12_init_819 (by decide) ?_
  refine go_castore dX12_init_821 (fun s141 _ => ?_)
  refine go_putR gf_RX12_20 gcf_12 (gpf_12_11 rfl rfl) (Or.inr ⟨_, rfl⟩) gft_12_11 dX12_init_822 (fun s142 _ => ?_)
  refine go_aload_n 0 dX12_init_825 rfl rfl ?_
  refine go_sipush (v := 14610) dX12_init_826 (by decide) ?_
  refine go_mka (t := 2) (by decide) gac_2 dX12_init_829 (fun r143 s144 => ?_)
  refine go_putR gf_RX12_24 gcf_12 (gpf_12_13 rfl rfl) (Or.inr ⟨_, rfl⟩) gft_12_13 dX12_init_831 (fun s145 _ => ?_)
  refine go_aload_n 0 dX12_init_834 rfl rfl ?_
  refine go_sipush (v := 14610) dX12_init_835 (by decide) ?_
  refine go_mka (t := 2) (by decide) gac_2 dX12_init_838 (fun r146 s147 => ?_)
  refine go_putR gf_RX12_27 gcf_12 (gpf_12_14 rfl rfl) (Or.inr ⟨_, rfl⟩) gft_12_14 dX12_init_840 (fun s148 _ => ?_)
  refine go_aload_n 0 dX12_init_843 rfl rfl ?_
  refine go_sipush (v := 14610) dX12_init_844 (by decide) ?_
  refine go_mka (t := 2) (by decide) gac_2 dX12_init_847 (fun r149 s150 => ?_)
  refine go_putR gf_RX12_30 gcf_12 (gpf_12_15 rfl rfl) (Or.inr ⟨_, rfl⟩) gft_12_15 dX12_init_849 (fun s151 _ => ?_)
  refine go_aload_n 0 dX12_init_852 rfl rfl ?_
  refine go_sipush (v := 14610) dX12_init_853 (by decide) ?_
  refine go_mka (t := 2) (by decide) gac_2 dX12_init_856 (fun r152 s153 => ?_)
  refine go_putR gf_RX12_33 gcf_12 (gpf_12_16 rfl rfl) (Or.inr ⟨_, rfl⟩) gft_12_16 dX12_init_858 (fun s154 _ => ?_)
  refine go_aload_n 0 dX12_init_861 rfl rfl ?_
  refine go_sipush (v := 272) dX12_init_862 (by decide) ?_
  refine go_mka (t := 2) (by decide) gac_2 dX12_init_865 (fun r155 s156 => ?_)
  refine go_putR gf_RX12_36 gcf_12 (gpf_12_18 rfl rfl) (Or.inr ⟨_, rfl⟩) gft_12_18 dX12_init_867 (fun s157 _ => ?_)
  refine go_aload_n 0 dX12_init_870 rfl rfl ?_
  refine go_sipush (v := 272) dX12_init_871 (by decide) ?_
  refine go_mka (t := 2) (by decide) gac_2 dX12_init_874 (fun r158 s159 => ?_)
  refine go_putR gf_RX12_39 gcf_12 (gpf_12_19 rfl rfl) (Or.inr ⟨_, rfl⟩) gft_12_19 dX12_init_876 (fun s160 _ => ?_)
  refine go_aload_n 0 dX12_init_879 rfl rfl ?_
  refine go_sipush (v := 3000) dX12_init_880 (by decide) ?_
  refine go_mka (t := 2) (by decide) gac_2 dX12_init_883 (fun r161 s162 => ?_)
  refine go_putR gf_RX12_42 gcf_12 (gpf_12_20 rfl rfl) (Or.inr ⟨_, rfl⟩) gft_12_20 dX12_init_885 (fun s163 _ => ?_)
  refine go_aload_n 0 dX12_init_888 rfl rfl ?_
  refine go_sipush (v := 3000) dX12_init_889 (by decide) ?_
  refine go_mka (t := 2) (by decide) gac_2 dX12_init_892 (fun r164 s165 => ?_)
  refine go_putR gf_RX12_45 gcf_12 (gpf_12_21 rfl rfl) (Or.inr ⟨_, rfl⟩) gft_12_21 dX12_init_894 (fun s166 _ => ?_)
  refine go_aload_n 0 dX12_init_897 rfl rfl ?_
  refine go_bipush (v := 64) dX12_init_898 (by decide) ?_
  refine go_mka (t := 2) (by decide) gac_2 dX12_init_900 (fun r167 s168 => ?_)
  refine go_putR gf_RX12_48 gcf_12 (gpf_12_25 rfl rfl) (Or.inr ⟨_, rfl⟩) gft_12_25 dX12_init_902 (fun s169 _ => ?_)
  refine go_aload_n 0 dX12_init_905 rfl rfl ?_
  refine go_bipush (v := 8) dX12_init_906 (by decide) ?_
  refine go_mka (t := 2) (by decide) gac_2 dX12_init_908 (fun r170 s171 => ?_)
  refine go_putR gf_RX12_51 gcf_12 (gpf_12_28 rfl rfl) (Or.inr ⟨_, rfl⟩) gft_12_28 dX12_init_910 (fun s172 _ => ?_)
  refine go_aload_n 0 dX12_init_913 rfl rfl ?_
  refine go_sipush (v := 264) dX12_init_914 (by decide) ?_
  refine go_mka (t := 2) (by decide) gac_2 dX12_init_917 (fun r173 s174 => ?_)
  refine go_putR gf_RX12_54 gcf_12 (gpf_12_29 rfl rfl) (Or.inr ⟨_, rfl⟩) gft_12_29 dX12_init_919 (fun s175 _ => ?_)
  refine go_aload_n 0 dX12_init_922 rfl rfl ?_
  refine go_ldc gc_RX12_57 dX12_init_923 ?_
  refine go_mka (t := 4) (by decide) gac_4 dX12_init_925 (fun r176 s177 => ?_)
  refine go_putR gf_RX12_58 gcf_12 (gpf_12_30 rfl rfl) (Or.inr ⟨_, rfl⟩) gft_12_30 dX12_init_927 (fun s178 _ => ?_)
  refine go_aload_n 0 dX12_init_930 rfl rfl ?_
  refine go_bipush (v := 12) dX12_init_931 (by decide) ?_
  refine go_mka (t := 4) (by decide) gac_4 dX12_init_933 (fun r179 s180 => ?_)
  refine go_putR gf_RX12_62 gcf_12 (gpf_12_31 rfl rfl) (Or.inr ⟨_, rfl⟩) gft_12_31 dX12_init_935 (fun s181 _ => ?_)
  refine go_aload_n 0 dX12_init_938 rfl rfl ?_
  refine go_sipush (v := 14610) dX12_init_939 (by decide) ?_
  refine go_mka (t := 4) (by decide) gac_4 dX12_init_942 (fun r182 s183 => ?_)
  refine go_putR gf_RX12_65 gcf_12 (gpf_12_32 rfl rfl) (Or.inr ⟨_, rfl⟩) gft_12_32 dX12_init_944 (fun s184 _ => ?_)
  refine go_aload_n 0 dX12_init_947 rfl rfl ?_
  refine go_ldc gc_RX12_68 dX12_init_948 ?_
  refine go_mka (t := 4) (by decide) gac_4 dX12_init_950 (fun r185 s186 => ?_)
  refine go_putR gf_RX12_69 gcf_12 (gpf_12_33 rfl rfl) (Or.inr ⟨_, rfl⟩) gft_12_33 dX12_init_952 (fun s187 _ => ?_)
  refine go_aload_n 0 dX12_init_955 rfl rfl ?_
  refine go_sipush (v := 14610) dX12_init_956 (by decide) ?_
  refine go_mka (t := 4) (by decide) gac_4 dX12_init_959 (fun r188 s189 => ?_)
  refine go_putR gf_RX12_72 gcf_12 (gpf_12_35 rfl rfl) (Or.inr ⟨_, rfl⟩) gft_12_35 dX12_init_961 (fun s190 _ => ?_)
  refine go_aload_n 0 dX12_init_964 rfl rfl ?_
  refine go_bipush (v := 12) dX12_init_965 (by decide) ?_
  refine go_mka (t := 2) (by decide) gac_2 dX12_init_967 (fun r191 s192 => ?_)
  refine go_putR gf_RX12_75 gcf_12 (gpf_12_38 rfl rfl) (Or.inr ⟨_, rfl⟩) gft_12_38 dX12_init_969 (fun s193 _ => ?_)
  refine go_aload_n 0 dX12_init_972 rfl rfl ?_
  refine go_bipush (v := 12) dX12_init_973 (by decide) ?_
  refine go_mka (t := 4) (by decide) gac_4 dX12_init_975 (fun r194 s195 => ?_)
  refine go_putR gf_RX12_78 gcf_12 (gpf_12_39 rfl rfl) (Or.inr ⟨_, rfl⟩) gft_12_39 dX12_init_977 (fun s196 _ => ?_)
  refine go_aload_n 0 dX12_init_980 rfl rfl ?_
  refine go_bipush (v := 61) dX12_init_981 (by decide) ?_
  refine go_mka (t := 4) (by decide) gac_4 dX12_init_983 (fun r197 s198 => ?_)
  refine go_putR gf_RX12_81 gcf_12 (gpf_12_40 rfl rfl) (Or.inr ⟨_, rfl⟩) gft_12_40 dX12_init_985 (fun s199 _ => ?_)
  refine go_aload_n 0 dX12_init_988 rfl rfl ?_
  refine go_sipush (v := 14610) dX12_init_989 (by decide) ?_
  refine go_mka (t := 4) (by decide) gac_4 dX12_init_992 (fun r200 s201 => ?_)
  refine go_putR gf_RX12_84 gcf_12 (gpf_12_41 rfl rfl) (Or.inr ⟨_, rfl⟩) gft_12_41 dX12_init_994 (fun s202 _ => ?_)
  refine go_aload_n 0 dX12_init_997 rfl rfl ?_
  refine go_sipush (v := 366) dX12_init_998 (by decide) ?_
  refine go_mka (t := 2) (by decide) gac_2 dX12_init_1001 (fun r203 s204 => ?_)
  refine go_putR gf_RX12_87 gcf_12 (gpf_12_42 rfl rfl) (Or.inr ⟨_, rfl⟩) gft_12_42 dX12_init_1003 (fun s205 _ => ?_)
  refine go_aload_n 0 dX12_init_1006 rfl rfl ?_
  refine go_sipush (v := 5280) dX12_init_1007 (by decide) ?_
  refine go_mka (t := 2) (by decide) gac_2 dX12_init_1010 (fun r206 s207 => ?_)
  refine go_putR gf_RX12_90 gcf_12 (gpf_12_43 rfl rfl) (Or.inr ⟨_, rfl⟩) gft_12_43 dX12_init_1012 (fun s208 _ => ?_)
  refine go_aload_n 0 dX12_init_1015 rfl rfl ?_
  refine go_lconst (v := 1) dX12_init_1016 (by decide) ?_
  refine go_putJ gf_RX12_93 gcf_12 gpl_12_46 gft_12_46 dX12_init_1017 (fun s209 _ => ?_)
  exact go_retv rfl dX12_init_1020
set_option maxRecDepth 100000 in
set_option maxHeartbeats 4000000 in
theorem cX12_init_c {d : Nat} (hd : 1 ≤ d) {a0 : Nat} {s0 : gH} {r : Unit} {s1 : gH} (h : fX12_init a0 s0 = some (r, s1)) : gMt mX12_init d [vr a0] s0 none s1 :=
  gMt_of (rv := rvU) (by decide +kernel) (Nat.le_of_ble_eq_true rfl) rfl (fun _ => wX12_init hd) h
def fX11_refuse (a0 : Nat) (x1 : Int32) (s0 : gH) : Option (Int32 × gH) :=
  if x1 < 0 then
    some (-1, s0)
  else
    (ggR s0 a0 11 6).bind fun v2 =>
    (glen s0 v2).bind fun v3 =>
    if x1 < v3 then
      (ggR s0 a0 11 6).bind fun v5 =>
      (gaI s0 v5 2 x1).bind fun v6 =>
      (saI s0 v5 2 x1 (v6 + 1)).bind fun s7 =>
      some (-1, s7)
    else
      some (-1, s0)
set_option maxRecDepth 100000 in
set_option maxHeartbeats 4000000 in
theorem wX11_refuse {X : Nat × (Nat → Int32)} {d : Nat} (hd : 0 ≤ d) {a0 : Nat} {x1 : Int32} {s0 : gH} : gGo X rvI mX11_refuse d 0 [(0, vr a0), (1, vi x1)] [] s0 (fX11_refuse a0 x1 s0) := by
  unfold fX11_refuse
  refine go_iload_n 1 dX11_refuse_0 rfl rfl ?_
  refine go_if_lt (tgt := 23) dX11_refuse_1 (by decide) (fun h1 => ?_) (fun h1 => ?_)
  · refine go_iconst (v := -1) dX11_refuse_23 (by decide) ?_
    exact go_ret rfl dX11_refuse_24
  · refine go_iload_n 1 dX11_refuse_4 rfl rfl ?_
    refine go_aload_n 0 dX11_refuse_5 rfl rfl ?_
    refine go_getR gf_RX11_53 gcf_11 gft_11_6 dX11_refuse_6 (fun v2 => ?_)
    refine go_alen dX11_refuse_9 (fun v3 _ => ?_)
    refine go_icmp_ge (tgt := 23) dX11_refuse_10 (by decide) (fun h4 => ?_) (fun h4 => ?_)
    · refine go_aload_n 0 dX11_refuse_13 rfl rfl ?_
      refine go_getR gf_RX11_53 gcf_11 gft_11_6 dX11_refuse_14 (fun v5 => ?_)
      refine go_iload_n 1 dX11_refuse_17 rfl rfl ?_
      refine go_dup2 dX11_refuse_18 rfl rfl ?_
      refine go_iaload dX11_refuse_19 (fun v6 _ => ?_)
      refine go_iconst (v := 1) dX11_refuse_20 (by decide) ?_
      refine go_iadd dX11_refuse_21 ?_
      refine go_iastore dX11_refuse_22 (fun s7 _ => ?_)
      refine go_iconst (v := -1) dX11_refuse_23 (by decide) ?_
      exact go_ret rfl dX11_refuse_24
    · refine go_iconst (v := -1) dX11_refuse_23 (by decide) ?_
      exact go_ret rfl dX11_refuse_24
set_option maxRecDepth 100000 in
set_option maxHeartbeats 4000000 in
theorem cX11_refuse_c {d : Nat} (hd : 0 ≤ d) {a0 : Nat} {x1 : Int32} {s0 : gH} {r : Int32} {s1 : gH} (h : fX11_refuse a0 x1 s0 = some (r, s1)) : gMt mX11_refuse d [vr a0, vi x1] s0 (some (vi r)) s1 :=
  gMt_of (rv := rvI) (by decide +kernel) (Nat.le_of_ble_eq_true rfl) ⟨_, rfl, rfl⟩ (fun _ => wX11_refuse hd) h
def gX10_append_L3  (a0 : Nat) (x1 : Int32) : Nat → Int32 → gH → Option (Unit × gH)
  | 0, _, _ => none
  | n + 1, x2, s0 =>
    if x2 < 0 then
      some ((), s0)
    else
      (ggI s0 a0 10 1).bind fun v3 =>
      (ggR s0 a0 10 0).bind fun v4 =>
      (glen s0 v4).bind fun v5 =>
      if v3 < v5 then
        (ggR s0 a0 10 0).bind fun v7 =>
        (ggI s0 a0 10 1).bind fun v8 =>
        (saI s0 v7 0 v8 ((x1 >>> (x2 &&& 31)).toInt8.toInt32)).bind fun s9 =>
        (ggI s9 a0 10 1).bind fun v10 =>
        (spI s9 a0 10 1 (v10 + 1)).bind fun s11 =>
        gX10_append_L3 a0 x1 n (x2 + (-8)) s11
      else
        some ((), s0)
set_option maxRecDepth 100000 in
set_option maxHeartbeats 4000000 in
theorem wX10_append_L3 {X : Nat × (Nat → Int32)} {d : Nat} (hd : 0 ≤ d)  (a0 : Nat) (x1 : Int32) : ∀ (n : Nat) (x2 : Int32) (s0 : gH), gGo X rvU mX10_append d 3 [(0, vr a0), (1, vi x1), (2, vi x2)] [] s0 (gX10_append_L3 a0 x1 n x2 s0) := by
  intro n
  induction n with
  | zero => intros; exact go_none
  | succ n ih =>
    intro x2 s0
    show gGo _ _ _ _ _ _ _ _ (gX10_append_L3 a0 x1 (n + 1) x2 s0)
    unfold gX10_append_L3
    refine go_iload_n 2 dX10_append_3 rfl rfl ?_
    refine go_if_lt (tgt := 48) dX10_append_4 (by decide) (fun h2 => ?_) (fun h2 => ?_)
    · exact go_retv rfl dX10_append_48
    · refine go_aload_n 0 dX10_append_7 rfl rfl ?_
      refine go_getI gf_RX10_15 gcf_10 gft_10_1 dX10_append_8 (fun v3 => ?_)
      refine go_aload_n 0 dX10_append_11 rfl rfl ?_
      refine go_getR gf_RX10_9 gcf_10 gft_10_0 dX10_append_12 (fun v4 => ?_)
      refine go_alen dX10_append_15 (fun v5 _ => ?_)
      refine go_icmp_ge (tgt := 48) dX10_append_16 (by decide) (fun h6 => ?_) (fun h6 => ?_)
      · refine go_aload_n 0 dX10_append_19 rfl rfl ?_
        refine go_getR gf_RX10_9 gcf_10 gft_10_0 dX10_append_20 (fun v7 => ?_)
        refine go_aload_n 0 dX10_append_23 rfl rfl ?_
        refine go_getI gf_RX10_15 gcf_10 gft_10_1 dX10_append_24 (fun v8 => ?_)
        refine go_iload_n 1 dX10_append_27 rfl rfl ?_
        refine go_iload_n 2 dX10_append_28 rfl rfl ?_
        refine go_ishr dX10_append_29 ?_
        refine go_i2b dX10_append_30 ?_
        refine go_bastore dX10_append_31 (fun s9 _ => ?_)
        refine go_aload_n 0 dX10_append_32 rfl rfl ?_
        refine go_dup dX10_append_33 rfl ?_
        refine go_getI gf_RX10_15 gcf_10 gft_10_1 dX10_append_34 (fun v10 => ?_)
        refine go_iconst (v := 1) dX10_append_37 (by decide) ?_
        refine go_iadd dX10_append_38 ?_
        refine go_putI gf_RX10_15 gcf_10 gpl_10_1 gft_10_1 dX10_append_39 (fun s11 _ => ?_)
        refine go_iinc (v := -8) (L' := [(2, vi (x2 + (-8))), (0, vr a0), (1, vi x1)]) 2 dX10_append_42 rfl (by decide) (by decide) rfl ?_
        refine go_goto (tgt := 3) dX10_append_45 (by decide) ?_
        exact go_sub [1, 2, 0] (ih (x2 + (-8)) s11) rfl
      · exact go_retv rfl dX10_append_48
def fX10_append (a0 : Nat) (x1 : Int32) (s0 : gH) : Option (Unit × gH) :=
  gX10_append_L3
    a0 x1 20000 24 s0
set_option maxRecDepth 100000 in
set_option maxHeartbeats 4000000 in
theorem wX10_append {X : Nat × (Nat → Int32)} {d : Nat} (hd : 0 ≤ d) {a0 : Nat} {x1 : Int32} {s0 : gH} : gGo X rvU mX10_append d 0 [(0, vr a0), (1, vi x1)] [] s0 (fX10_append a0 x1 s0) := by
  unfold fX10_append
  refine go_bipush (v := 24) dX10_append_0 (by decide) ?_
  refine go_istore_n (L' := [(2, vi 24), (0, vr a0), (1, vi x1)]) dX10_append_2 rfl (by decide) rfl ?_
  refine go_sub [1, 2, 0] (wX10_append_L3 hd a0 x1 20000 24 s0) rfl
set_option maxRecDepth 100000 in
set_option maxHeartbeats 4000000 in
theorem cX10_append_c {d : Nat} (hd : 0 ≤ d) {a0 : Nat} {x1 : Int32} {s0 : gH} {r : Unit} {s1 : gH} (h : fX10_append a0 x1 s0 = some (r, s1)) : gMt mX10_append d [vr a0, vi x1] s0 none s1 :=
  gMt_of (rv := rvU) (by decide +kernel) (Nat.le_of_ble_eq_true rfl) rfl (fun _ => wX10_append hd) h
def fX11_feed (a0 : Nat) (x1 : Int32) (x2 : Int32) (x3 : Int32) (x4 : Int32) (x5 : Int32) (s0 : gH) : Option (Int32 × gH) :=
  (ggR s0 a0 11 0).bind fun v1 =>
  (ggI s0 v1 10 1).bind fun v2 =>
  if 1600 < v2 + 20 then
    gb2 (gcv s0 a0 11 (fX11_refuse a0 0 s0)) fun r4 s5 =>
    some (r4, s5)
  else
    (ggR s0 a0 11 0).bind fun v6 =>
    gb2 (gcv s0 v6 10 (fX10_append v6 x1 s0)) fun r7 s8 =>
    (ggR s8 a0 11 0).bind fun v9 =>
    gb2 (gcv s8 v9 10 (fX10_append v9 x2 s8)) fun r10 s11 =>
    (ggR s11 a0 11 0).bind fun v12 =>
    gb2 (gcv s11 v12 10 (fX10_append v12 x3 s11)) fun r13 s14 =>
    (ggR s14 a0 11 0).bind fun v15 =>
    gb2 (gcv s14 v15 10 (fX10_append v15 x4 s14)) fun r16 s17 =>
    (ggR s17 a0 11 0).bind fun v18 =>
    gb2 (gcv s17 v18 10 (fX10_append v18 x5 s17)) fun r19 s20 =>
    (ggR s20 a0 11 0).bind fun v21 =>
    (ggI s20 v21 10 1).bind fun v22 =>
    some (v22, s20)
set_option maxRecDepth 100000 in
set_option maxHeartbeats 4000000 in
theorem wX11_feed {X : Nat × (Nat → Int32)} {d : Nat} (hd : 1 ≤ d) {a0 : Nat} {x1 : Int32} {x2 : Int32} {x3 : Int32} {x4 : Int32} {x5 : Int32} {s0 : gH} : gGo X rvI mX11_feed d 0 [(0, vr a0), (1, vi x1), (2, vi x2), (3, vi x3), (4, vi x4), (5, vi x5)] [] s0 (fX11_feed a0 x1 x2 x3 x4 x5 s0) := by
  unfold fX11_feed
  refine go_aload_n 0 dX11_feed_0 rfl rfl ?_
  refine go_getR gf_RX11_10 gcf_11 gft_11_0 dX11_feed_1 (fun v1 => ?_)
  refine go_getI gf_RX11_75 gcf_10 gft_10_1 dX11_feed_4 (fun v2 => ?_)
  refine go_bipush (v := 20) dX11_feed_7 (by decide) ?_
  refine go_iadd dX11_feed_9 ?_
  refine go_sipush (v := 1600) dX11_feed_10 (by decide) ?_
  refine go_icmp_le (tgt := 22) dX11_feed_13 (by decide) (fun h3 => ?_) (fun h3 => ?_)
  · refine go_aload_n 0 dX11_feed_16 rfl rfl ?_
    refine go_iconst (v := 0) dX11_feed_17 (by decide) ?_
    refine go_callV_I (as := [vi 0]) gk_RX11_78 gmf_X11_refuse (by decide) rfl (by omega) rfl rfl (Nat.le_of_ble_eq_true rfl) dX11_feed_18 (fun _ _ h => cX11_refuse_c (by omega) h) (fun r4 s5 _ => ?_)
    exact go_ret rfl dX11_feed_21
  · refine go_aload_n 0 dX11_feed_22 rfl rfl ?_
    refine go_getR gf_RX11_10 gcf_11 gft_11_0 dX11_feed_23 (fun v6 => ?_)
    refine go_iload_n 1 dX11_feed_26 rfl rfl ?_
    refine go_callV_v (as := [vi x1]) gk_RX11_82 gmf_X10_append (by decide) rfl (by omega) rfl rfl (Nat.le_of_ble_eq_true rfl) dX11_feed_27 (fun _ _ h => cX10_append_c (by omega) h) (fun r7 s8 _ => ?_)
    refine go_aload_n 0 dX11_feed_30 rfl rfl ?_
    refine go_getR gf_RX11_10 gcf_11 gft_11_0 dX11_feed_31 (fun v9 => ?_)
    refine go_iload_n 2 dX11_feed_34 rfl rfl ?_
    refine go_callV_v (as := [vi x2]) gk_RX11_82 gmf_X10_append (by decide) rfl (by omega) rfl rfl (Nat.le_of_ble_eq_true rfl) dX11_feed_35 (fun _ _ h => cX10_append_c (by omega) h) (fun r10 s11 _ => ?_)
    refine go_aload_n 0 dX11_feed_38 rfl rfl ?_
    refine go_getR gf_RX11_10 gcf_11 gft_11_0 dX11_feed_39 (fun v12 => ?_)
    refine go_iload_n 3 dX11_feed_42 rfl rfl ?_
    refine go_callV_v (as := [vi x3]) gk_RX11_82 gmf_X10_append (by decide) rfl (by omega) rfl rfl (Nat.le_of_ble_eq_true rfl) dX11_feed_43 (fun _ _ h => cX10_append_c (by omega) h) (fun r13 s14 _ => ?_)
    refine go_aload_n 0 dX11_feed_46 rfl rfl ?_
    refine go_getR gf_RX11_10 gcf_11 gft_11_0 dX11_feed_47 (fun v15 => ?_)
    refine go_iload 4 dX11_feed_50 rfl ?_
    refine go_callV_v (as := [vi x4]) gk_RX11_82 gmf_X10_append (by decide) rfl (by omega) rfl rfl (Nat.le_of_ble_eq_true rfl) dX11_feed_52 (fun _ _ h => cX10_append_c (by omega) h) (fun r16 s17 _ => ?_)
    refine go_aload_n 0 dX11_feed_55 rfl rfl ?_
    refine go_getR gf_RX11_10 gcf_11 gft_11_0 dX11_feed_56 (fun v18 => ?_)
    refine go_iload 5 dX11_feed_59 rfl ?_
    refine go_callV_v (as := [vi x5]) gk_RX11_82 gmf_X10_append (by decide) rfl (by omega) rfl rfl (Nat.le_of_ble_eq_true rfl) dX11_feed_61 (fun _ _ h => cX10_append_c (by omega) h) (fun r19 s20 _ => ?_)
    refine go_aload_n 0 dX11_feed_64 rfl rfl ?_
    refine go_getR gf_RX11_10 gcf_11 gft_11_0 dX11_feed_65 (fun v21 => ?_)
    refine go_getI gf_RX11_75 gcf_10 gft_10_1 dX11_feed_68 (fun v22 => ?_)
    exact go_ret rfl dX11_feed_71
set_option maxRecDepth 100000 in
set_option maxHeartbeats 4000000 in
theorem cX11_feed_c {d : Nat} (hd : 1 ≤ d) {a0 : Nat} {x1 : Int32} {x2 : Int32} {x3 : Int32} {x4 : Int32} {x5 : Int32} {s0 : gH} {r : Int32} {s1 : gH} (h : fX11_feed a0 x1 x2 x3 x4 x5 s0 = some (r, s1)) : gMt mX11_feed d [vr a0, vi x1, vi x2, vi x3, vi x4, vi x5] s0 (some (vi r)) s1 :=
  gMt_of (rv := rvI) (by decide +kernel) (Nat.le_of_ble_eq_true rfl) ⟨_, rfl, rfl⟩ (fun _ => wX11_feed hd) h
def fX12_refuses (a0 : Nat) (x1 : Int32) (s0 : gH) : Option (Int32 × gH) :=
  (ggR s0 a0 12 9).bind fun v1 =>
  (gaI s0 v1 2 x1).bind fun v2 =>
  (saI s0 v1 2 x1 (v2 + 1)).bind fun s3 =>
  some (-1, s3)
set_option maxRecDepth 100000 in
set_option maxHeartbeats 4000000 in
theorem wX12_refuses {X : Nat × (Nat → Int32)} {d : Nat} (hd : 0 ≤ d) {a0 : Nat} {x1 : Int32} {s0 : gH} : gGo X rvI mX12_refuses d 0 [(0, vr a0), (1, vi x1)] [] s0 (fX12_refuses a0 x1 s0) := by
  unfold fX12_refuses
  refine go_aload_n 0 dX12_refuses_0 rfl rfl ?_
  refine go_getR gf_RX12_17 gcf_12 gft_12_9 dX12_refuses_1 (fun v1 => ?_)
  refine go_iload_n 1 dX12_refuses_4 rfl rfl ?_
  refine go_dup2 dX12_refuses_5 rfl rfl ?_
  refine go_iaload dX12_refuses_6 (fun v2 _ => ?_)
  refine go_iconst (v := 1) dX12_refuses_7 (by decide) ?_
  refine go_iadd dX12_refuses_8 ?_
  refine go_iastore dX12_refuses_9 (fun s3 _ => ?_)
  refine go_iconst (v := -1) dX12_refuses_10 (by decide) ?_
  exact go_ret rfl dX12_refuses_11
set_option maxRecDepth 100000 in
set_option maxHeartbeats 4000000 in
theorem cX12_refuses_c {d : Nat} (hd : 0 ≤ d) {a0 : Nat} {x1 : Int32} {s0 : gH} {r : Int32} {s1 : gH} (h : fX12_refuses a0 x1 s0 = some (r, s1)) : gMt mX12_refuses d [vr a0, vi x1] s0 (some (vi r)) s1 :=
  gMt_of (rv := rvI) (by decide +kernel) (Nat.le_of_ble_eq_true rfl) ⟨_, rfl, rfl⟩ (fun _ => wX12_refuses hd) h
def gX12_feed_L22  (a0 : Nat) (x1 : Int32) (x2 : Int32) (x3 : Int32) (x4 : Int32) (x5 : Int32) : Nat → Int32 → gH → Option (Int32 × gH)
  | 0, _, _ => none
  | n + 1, x6, s0 =>
    if x6 < 20 then
      gjn (fun (z8 : Int32) (s9 : gH) =>
          (ggR s9 a0 12 0).bind fun v10 =>
          (ggI s9 a0 12 1).bind fun v11 =>
          (saI s9 v10 2 v11 ((z8 >>> ((8 * (3 - (gIrem x6 4))) &&& 31)) &&& 255)).bind fun s12 =>
          (ggI s12 a0 12 1).bind fun v13 =>
          (spI s12 a0 12 1 (v13 + 1)).bind fun s14 =>
          gX12_feed_L22 a0 x1 x2 x3 x4 x5 n (x6 + 1) s14
      ) fun j7 =>
      if x6 < 4 then
        j7 x1 s0
      else
        if x6 < 8 then
          j7 x2 s0
        else
          if x6 < 12 then
            j7 x3 s0
          else
            if x6 < 16 then
              j7 x4 s0
            else
              j7 x5 s0
    else
      (ggI s0 a0 12 1).bind fun v19 =>
      some (v19, s0)
set_option maxRecDepth 100000 in
set_option maxHeartbeats 4000000 in
theorem wX12_feed_L22 {X : Nat × (Nat → Int32)} {d : Nat} (hd : 1 ≤ d)  (a0 : Nat) (x1 : Int32) (x2 : Int32) (x3 : Int32) (x4 : Int32) (x5 : Int32) : ∀ (n : Nat) (x6 : Int32) (s0 : gH), gGo X rvI mX12_feed d 22 [(0, vr a0), (1, vi x1), (2, vi x2), (3, vi x3), (4, vi x4), (5, vi x5), (6, vi x6)] [] s0 (gX12_feed_L22 a0 x1 x2 x3 x4 x5 n x6 s0) := by
  intro n
  induction n with
  | zero => intros; exact go_none
  | succ n ih =>
    intro x6 s0
    show gGo _ _ _ _ _ _ _ _ (gX12_feed_L22 a0 x1 x2 x3 x4 x5 (n + 1) x6 s0)
    unfold gX12_feed_L22
    refine go_iload 6 dX12_feed_22 rfl ?_
    refine go_bipush (v := 20) dX12_feed_24 (by decide) ?_
    refine go_icmp_ge (tgt := 118) dX12_feed_26 (by decide) (fun h6 => ?_) (fun h6 => ?_)
    · refine go_iload 6 dX12_feed_29 rfl ?_
      refine go_iconst (v := 4) dX12_feed_31 (by decide) ?_
      refine go_gjn (P := fun j7 => ∀ (z8 : Int32) (s9 : gH), gGo X rvI mX12_feed d 75 [(0, vr a0), (1, vi x1), (2, vi x2), (3, vi x3), (4, vi x4), (5, vi x5), (6, vi x6)] [vi z8] s9 (j7 z8 s9)) (fun z8 s9 => ?_) (fun j7 hj7 => ?_)
      · refine go_istore (L' := [(7, vi z8), (0, vr a0), (1, vi x1), (2, vi x2), (3, vi x3), (4, vi x4), (5, vi x5), (6, vi x6)]) dX12_feed_75 (by decide) rfl ?_
        refine go_aload_n 1 dX12_feed_77 rfl rfl ?_
        refine go_getR gf_RX12_7 gcf_12 gft_12_0 dX12_feed_78 (fun v10 => ?_)
        refine go_aload_n 1 dX12_feed_81 rfl rfl ?_
        refine go_getI gf_RX12_97 gcf_12 gft_12_1 dX12_feed_82 (fun v11 => ?_)
        refine go_iload 0 dX12_feed_85 rfl ?_
        refine go_bipush (v := 8) dX12_feed_87 (by decide) ?_
        refine go_iconst (v := 3) dX12_feed_89 (by decide) ?_
        refine go_iload 7 dX12_feed_90 rfl ?_
        refine go_iconst (v := 4) dX12_feed_92 (by decide) ?_
        refine go_iremc dX12_feed_93 (by decide) ?_
        refine go_isub dX12_feed_94 ?_
        refine go_imul dX12_feed_95 ?_
        refine go_ishr dX12_feed_96 ?_
        refine go_sipush (v := 255) dX12_feed_97 (by decide) ?_
        refine go_iand dX12_feed_100 ?_
        refine go_iastore dX12_feed_101 (fun s12 _ => ?_)
        refine go_aload_n 1 dX12_feed_102 rfl rfl ?_
        refine go_dup dX12_feed_103 rfl ?_
        refine go_getI gf_RX12_97 gcf_12 gft_12_1 dX12_feed_104 (fun v13 => ?_)
        refine go_iconst (v := 1) dX12_feed_107 (by decide) ?_
        refine go_iadd dX12_feed_108 ?_
        refine go_putI gf_RX12_97 gcf_12 gpl_12_1 gft_12_1 dX12_feed_109 (fun s14 _ => ?_)
        refine go_iinc (v := 1) (L' := [(6, vi (x6 + 1)), (7, vi z8), (0, vr a0), (1, vi x1), (2, vi x2), (3, vi x3), (4, vi x4), (5, vi x5)]) 7 dX12_feed_112 rfl (by decide) (by decide) rfl ?_
        refine go_goto (tgt := 22) dX12_feed_115 (by decide) ?_
        exact go_sub [2, 3, 4, 5, 6, 7, 0] (ih (x6 + 1) s14) rfl
      · refine go_icmp_ge (tgt := 39) dX12_feed_32 (by decide) (fun h15 => ?_) (fun h15 => ?_)
        · refine go_iload_n 1 dX12_feed_35 rfl rfl ?_
          refine go_goto (tgt := 75) dX12_feed_36 (by decide) ?_
          exact go_sub [0, 1, 2, 3, 4, 5, 6] (hj7 x1 s0) rfl
        · refine go_iload 6 dX12_feed_39 rfl ?_
          refine go_bipush (v := 8) dX12_feed_41 (by decide) ?_
          refine go_icmp_ge (tgt := 50) dX12_feed_43 (by decide) (fun h16 => ?_) (fun h16 => ?_)
          · refine go_iload_n 2 dX12_feed_46 rfl rfl ?_
            refine go_goto (tgt := 75) dX12_feed_47 (by decide) ?_
            exact go_sub [0, 1, 2, 3, 4, 5, 6] (hj7 x2 s0) rfl
          · refine go_iload 6 dX12_feed_50 rfl ?_
            refine go_bipush (v := 12) dX12_feed_52 (by decide) ?_
            refine go_icmp_ge (tgt := 61) dX12_feed_54 (by decide) (fun h17 => ?_) (fun h17 => ?_)
            · refine go_iload_n 3 dX12_feed_57 rfl rfl ?_
              refine go_goto (tgt := 75) dX12_feed_58 (by decide) ?_
              exact go_sub [0, 1, 2, 3, 4, 5, 6] (hj7 x3 s0) rfl
            · refine go_iload 6 dX12_feed_61 rfl ?_
              refine go_bipush (v := 16) dX12_feed_63 (by decide) ?_
              refine go_icmp_ge (tgt := 73) dX12_feed_65 (by decide) (fun h18 => ?_) (fun h18 => ?_)
              · refine go_iload 4 dX12_feed_68 rfl ?_
                refine go_goto (tgt := 75) dX12_feed_70 (by decide) ?_
                exact go_sub [0, 1, 2, 3, 4, 5, 6] (hj7 x4 s0) rfl
              · refine go_iload 5 dX12_feed_73 rfl ?_
                exact go_sub [0, 1, 2, 3, 4, 5, 6] (hj7 x5 s0) rfl
    · refine go_aload_n 0 dX12_feed_118 rfl rfl ?_
      refine go_getI gf_RX12_97 gcf_12 gft_12_1 dX12_feed_119 (fun v19 => ?_)
      exact go_ret rfl dX12_feed_122
def fX12_feed (a0 : Nat) (x1 : Int32) (x2 : Int32) (x3 : Int32) (x4 : Int32) (x5 : Int32) (s0 : gH) : Option (Int32 × gH) :=
  (ggI s0 a0 12 1).bind fun v1 =>
  if 1600 < v1 + 20 then
    gb2 (gcv s0 a0 12 (fX12_refuses a0 0 s0)) fun r3 s4 =>
    some (r3, s4)
  else
    gX12_feed_L22
      a0 x1 x2 x3 x4 x5 20000 0 s0
set_option maxRecDepth 100000 in
set_option maxHeartbeats 4000000 in
theorem wX12_feed {X : Nat × (Nat → Int32)} {d : Nat} (hd : 1 ≤ d) {a0 : Nat} {x1 : Int32} {x2 : Int32} {x3 : Int32} {x4 : Int32} {x5 : Int32} {s0 : gH} : gGo X rvI mX12_feed d 0 [(0, vr a0), (1, vi x1), (2, vi x2), (3, vi x3), (4, vi x4), (5, vi x5)] [] s0 (fX12_feed a0 x1 x2 x3 x4 x5 s0) := by
  unfold fX12_feed
  refine go_aload_n 0 dX12_feed_0 rfl rfl ?_
  refine go_getI gf_RX12_97 gcf_12 gft_12_1 dX12_feed_1 (fun v1 => ?_)
  refine go_bipush (v := 20) dX12_feed_4 (by decide) ?_
  refine go_iadd dX12_feed_6 ?_
  refine go_sipush (v := 1600) dX12_feed_7 (by decide) ?_
  refine go_icmp_le (tgt := 19) dX12_feed_10 (by decide) (fun h2 => ?_) (fun h2 => ?_)
  · refine go_aload_n 0 dX12_feed_13 rfl rfl ?_
    refine go_iconst (v := 0) dX12_feed_14 (by decide) ?_
    refine go_callV_I (as := [vi 0]) gk_RX12_100 gmf_X12_refuses (by decide) rfl (by omega) rfl rfl (Nat.le_of_ble_eq_true rfl) dX12_feed_15 (fun _ _ h => cX12_refuses_c (by omega) h) (fun r3 s4 _ => ?_)
    exact go_ret rfl dX12_feed_18
  · refine go_iconst (v := 0) dX12_feed_19 (by decide) ?_
    refine go_istore (L' := [(6, vi 0), (0, vr a0), (1, vi x1), (2, vi x2), (3, vi x3), (4, vi x4), (5, vi x5)]) dX12_feed_20 (by decide) rfl ?_
    refine go_sub [1, 2, 3, 4, 5, 6, 0] (wX12_feed_L22 hd a0 x1 x2 x3 x4 x5 20000 0 s0) rfl
set_option maxRecDepth 100000 in
set_option maxHeartbeats 4000000 in
theorem cX12_feed_c {d : Nat} (hd : 1 ≤ d) {a0 : Nat} {x1 : Int32} {x2 : Int32} {x3 : Int32} {x4 : Int32} {x5 : Int32} {s0 : gH} {r : Int32} {s1 : gH} (h : fX12_feed a0 x1 x2 x3 x4 x5 s0 = some (r, s1)) : gMt mX12_feed d [vr a0, vi x1, vi x2, vi x3, vi x4, vi x5] s0 (some (vi r)) s1 :=
  gMt_of (rv := rvI) (by decide +kernel) (Nat.le_of_ble_eq_true rfl) ⟨_, rfl, rfl⟩ (fun _ => wX12_feed hd) h
def gX11_deny (a0 : Nat) (x1 : Int32) (s0 : gH) : Option (Int32 × gH) :=
  gb2 (gcv s0 a0 11 (fX11_refuse a0 x1 s0)) fun r1 s2 =>
  some (0, s2)
def fX11_deny (a0 : Nat) (x1 : Int32) (s0 : gH) : Option (Int32 × gH) := gzr (gX11_deny a0 x1 s0)
set_option maxRecDepth 100000 in
set_option maxHeartbeats 4000000 in
theorem wX11_deny {X : Nat × (Nat → Int32)} {d : Nat} (hd : 1 ≤ d) {a0 : Nat} {x1 : Int32} {s0 : gH} : gGo X rvI mX11_deny d 0 [(0, vr a0), (1, vi x1)] [] s0 (gX11_deny a0 x1 s0) := by
  unfold gX11_deny
  refine go_aload_n 0 dX11_deny_0 rfl rfl ?_
  refine go_iload_n 1 dX11_deny_1 rfl rfl ?_
  refine go_callV_I (as := [vi x1]) gk_RX11_78 gmf_X11_refuse (by decide) rfl (by omega) rfl rfl (Nat.le_of_ble_eq_true rfl) dX11_deny_2 (fun _ _ h => cX11_refuse_c (by omega) h) (fun r1 s2 _ => ?_)
  refine go_pop dX11_deny_5 rfl ?_
  refine go_iconst (v := 0) dX11_deny_6 (by decide) ?_
  exact go_ret rfl dX11_deny_7
set_option maxRecDepth 100000 in
set_option maxHeartbeats 4000000 in
theorem cX11_deny_c {d : Nat} (hd : 1 ≤ d) {a0 : Nat} {x1 : Int32} {s0 : gH} {r : Int32} {s1 : gH} (h : fX11_deny a0 x1 s0 = some (r, s1)) : gMt mX11_deny d [vr a0, vi x1] s0 (some (vi r)) s1 := by
  obtain ⟨h1, h2⟩ := gzr_some h
  exact gMt_of (rv := rvI) (by decide +kernel) (Nat.le_of_ble_eq_true rfl) ⟨_, rfl, gnarZ h2⟩ (fun _ => wX11_deny hd) h1
def gX11_end (a0 : Nat) (x1 : Int32) (s0 : gH) : Option (Int32 × gH) :=
  gjn (fun (s2 : gH) =>
      gb2 (gcv s2 a0 11 (fX11_deny a0 0 s2)) fun r3 s4 =>
      some (r3, s4)
  ) fun j1 =>
  if x1 < 0 then
    j1 s0
  else
    (ggR s0 a0 11 0).bind fun v6 =>
    (ggI s0 v6 10 1).bind fun v7 =>
    if v7 < x1 then
      j1 s0
    else
      (ggR s0 a0 11 0).bind fun v9 =>
      (spI s0 v9 10 1 x1).bind fun s10 =>
      some (1, s10)
def fX11_end (a0 : Nat) (x1 : Int32) (s0 : gH) : Option (Int32 × gH) := gzr (gX11_end a0 x1 s0)
set_option maxRecDepth 100000 in
set_option maxHeartbeats 4000000 in
theorem wX11_end {X : Nat × (Nat → Int32)} {d : Nat} (hd : 2 ≤ d) {a0 : Nat} {x1 : Int32} {s0 : gH} : gGo X rvI mX11_end d 0 [(0, vr a0), (1, vi x1)] [] s0 (gX11_end a0 x1 s0) := by
  unfold gX11_end
  refine go_iload_n 1 dX11_end_0 rfl rfl ?_
  refine go_gjn (P := fun j1 => ∀ (s2 : gH), gGo X rvI mX11_end d 15 [(0, vr a0)] [] s2 (j1 s2)) (fun s2 => ?_) (fun j1 hj1 => ?_)
  · refine go_aload_n 0 dX11_end_15 rfl rfl ?_
    refine go_iconst (v := 0) dX11_end_16 (by decide) ?_
    refine go_callV_I (as := [vi 0]) gk_RX11_86 gmf_X11_deny (by decide) rfl (by omega) rfl rfl (Nat.le_of_ble_eq_true rfl) dX11_end_17 (fun _ _ h => cX11_deny_c (by omega) h) (fun r3 s4 _ => ?_)
    exact go_ret rfl dX11_end_20
  · refine go_if_lt (tgt := 15) dX11_end_1 (by decide) (fun h5 => ?_) (fun h5 => ?_)
    · exact go_sub [0] (hj1 s0) rfl
    · refine go_iload_n 1 dX11_end_4 rfl rfl ?_
      refine go_aload_n 0 dX11_end_5 rfl rfl ?_
      refine go_getR gf_RX11_10 gcf_11 gft_11_0 dX11_end_6 (fun v6 => ?_)
      refine go_getI gf_RX11_75 gcf_10 gft_10_1 dX11_end_9 (fun v7 => ?_)
      refine go_icmp_le (tgt := 21) dX11_end_12 (by decide) (fun h8 => ?_) (fun h8 => ?_)
      · exact go_sub [0] (hj1 s0) rfl
      · refine go_aload_n 0 dX11_end_21 rfl rfl ?_
        refine go_getR gf_RX11_10 gcf_11 gft_11_0 dX11_end_22 (fun v9 => ?_)
        refine go_iload_n 1 dX11_end_25 rfl rfl ?_
        refine go_putI gf_RX11_75 gcf_10 gpl_10_1 gft_10_1 dX11_end_26 (fun s10 _ => ?_)
        refine go_iconst (v := 1) dX11_end_29 (by decide) ?_
        exact go_ret rfl dX11_end_30
set_option maxRecDepth 100000 in
set_option maxHeartbeats 4000000 in
theorem cX11_end_c {d : Nat} (hd : 2 ≤ d) {a0 : Nat} {x1 : Int32} {s0 : gH} {r : Int32} {s1 : gH} (h : fX11_end a0 x1 s0 = some (r, s1)) : gMt mX11_end d [vr a0, vi x1] s0 (some (vi r)) s1 := by
  obtain ⟨h1, h2⟩ := gzr_some h
  exact gMt_of (rv := rvI) (by decide +kernel) (Nat.le_of_ble_eq_true rfl) ⟨_, rfl, gnarZ h2⟩ (fun _ => wX11_end hd) h1
def gX12_isRefused (a0 : Nat) (x1 : Int32) (s0 : gH) : Option (Int32 × gH) :=
  (ggR s0 a0 12 9).bind fun v1 =>
  (gaI s0 v1 2 x1).bind fun v2 =>
  (saI s0 v1 2 x1 (v2 + 1)).bind fun s3 =>
  some (0, s3)
def fX12_isRefused (a0 : Nat) (x1 : Int32) (s0 : gH) : Option (Int32 × gH) := gzr (gX12_isRefused a0 x1 s0)
set_option maxRecDepth 100000 in
set_option maxHeartbeats 4000000 in
theorem wX12_isRefused {X : Nat × (Nat → Int32)} {d : Nat} (hd : 0 ≤ d) {a0 : Nat} {x1 : Int32} {s0 : gH} : gGo X rvI mX12_isRefused d 0 [(0, vr a0), (1, vi x1)] [] s0 (gX12_isRefused a0 x1 s0) := by
  unfold gX12_isRefused
  refine go_aload_n 0 dX12_isRefused_0 rfl rfl ?_
  refine go_getR gf_RX12_17 gcf_12 gft_12_9 dX12_isRefused_1 (fun v1 => ?_)
  refine go_iload_n 1 dX12_isRefused_4 rfl rfl ?_
  refine go_dup2 dX12_isRefused_5 rfl rfl ?_
  refine go_iaload dX12_isRefused_6 (fun v2 _ => ?_)
  refine go_iconst (v := 1) dX12_isRefused_7 (by decide) ?_
  refine go_iadd dX12_isRefused_8 ?_
  refine go_iastore dX12_isRefused_9 (fun s3 _ => ?_)
  refine go_iconst (v := 0) dX12_isRefused_10 (by decide) ?_
  exact go_ret rfl dX12_isRefused_11
set_option maxRecDepth 100000 in
set_option maxHeartbeats 4000000 in
theorem cX12_isRefused_c {d : Nat} (hd : 0 ≤ d) {a0 : Nat} {x1 : Int32} {s0 : gH} {r : Int32} {s1 : gH} (h : fX12_isRefused a0 x1 s0 = some (r, s1)) : gMt mX12_isRefused d [vr a0, vi x1] s0 (some (vi r)) s1 := by
  obtain ⟨h1, h2⟩ := gzr_some h
  exact gMt_of (rv := rvI) (by decide +kernel) (Nat.le_of_ble_eq_true rfl) ⟨_, rfl, gnarZ h2⟩ (fun _ => wX12_isRefused hd) h1
def gX12_end (a0 : Nat) (x1 : Int32) (s0 : gH) : Option (Int32 × gH) :=
  gjn (fun (s2 : gH) =>
      gb2 (gcv s2 a0 12 (fX12_isRefused a0 0 s2)) fun r3 s4 =>
      some (r3, s4)
  ) fun j1 =>
  if x1 < 0 then
    j1 s0
  else
    (ggI s0 a0 12 1).bind fun v6 =>
    if v6 < x1 then
      j1 s0
    else
      (spI s0 a0 12 1 x1).bind fun s8 =>
      some (1, s8)
def fX12_end (a0 : Nat) (x1 : Int32) (s0 : gH) : Option (Int32 × gH) := gzr (gX12_end a0 x1 s0)
set_option maxRecDepth 100000 in
set_option maxHeartbeats 4000000 in
theorem wX12_end {X : Nat × (Nat → Int32)} {d : Nat} (hd : 1 ≤ d) {a0 : Nat} {x1 : Int32} {s0 : gH} : gGo X rvI mX12_end d 0 [(0, vr a0), (1, vi x1)] [] s0 (gX12_end a0 x1 s0) := by
  unfold gX12_end
  refine go_iload_n 1 dX12_end_0 rfl rfl ?_
  refine go_gjn (P := fun j1 => ∀ (s2 : gH), gGo X rvI mX12_end d 12 [(0, vr a0)] [] s2 (j1 s2)) (fun s2 => ?_) (fun j1 hj1 => ?_)
  · refine go_aload_n 0 dX12_end_12 rfl rfl ?_
    refine go_iconst (v := 0) dX12_end_13 (by decide) ?_
    refine go_callV_I (as := [vi 0]) gk_RX12_104 gmf_X12_isRefused (by decide) rfl (by omega) rfl rfl (Nat.le_of_ble_eq_true rfl) dX12_end_14 (fun _ _ h => cX12_isRefused_c (by omega) h) (fun r3 s4 _ => ?_)
    exact go_ret rfl dX12_end_17
  · refine go_if_lt (tgt := 12) dX12_end_1 (by decide) (fun h5 => ?_) (fun h5 => ?_)
    · exact go_sub [0] (hj1 s0) rfl
    · refine go_iload_n 1 dX12_end_4 rfl rfl ?_
      refine go_aload_n 0 dX12_end_5 rfl rfl ?_
      refine go_getI gf_RX12_97 gcf_12 gft_12_1 dX12_end_6 (fun v6 => ?_)
      refine go_icmp_le (tgt := 18) dX12_end_9 (by decide) (fun h7 => ?_) (fun h7 => ?_)
      · exact go_sub [0] (hj1 s0) rfl
      · refine go_aload_n 0 dX12_end_18 rfl rfl ?_
        refine go_iload_n 1 dX12_end_19 rfl rfl ?_
        refine go_putI gf_RX12_97 gcf_12 gpl_12_1 gft_12_1 dX12_end_20 (fun s8 _ => ?_)
        refine go_iconst (v := 1) dX12_end_23 (by decide) ?_
        exact go_ret rfl dX12_end_24
set_option maxRecDepth 100000 in
set_option maxHeartbeats 4000000 in
theorem cX12_end_c {d : Nat} (hd : 1 ≤ d) {a0 : Nat} {x1 : Int32} {s0 : gH} {r : Int32} {s1 : gH} (h : fX12_end a0 x1 s0 = some (r, s1)) : gMt mX12_end d [vr a0, vi x1] s0 (some (vi r)) s1 := by
  obtain ⟨h1, h2⟩ := gzr_some h
  exact gMt_of (rv := rvI) (by decide +kernel) (Nat.le_of_ble_eq_true rfl) ⟨_, rfl, gnarZ h2⟩ (fun _ => wX12_end hd) h1
def fX1_clear (a0 : Nat) (s0 : gH) : Option (Unit × gH) :=
  (spI s0 a0 1 0 0).bind fun s1 =>
  (spI s1 a0 1 1 0).bind fun s2 =>
  (spI s2 a0 1 2 0).bind fun s3 =>
  some ((), s3)
set_option maxRecDepth 100000 in
set_option maxHeartbeats 4000000 in
theorem wX1_clear {X : Nat × (Nat → Int32)} {d : Nat} (hd : 0 ≤ d) {a0 : Nat} {s0 : gH} : gGo X rvU mX1_clear d 0 [(0, vr a0)] [] s0 (fX1_clear a0 s0) := by
  unfold fX1_clear
  refine go_aload_n 0 dX1_clear_0 rfl rfl ?_
  refine go_iconst (v := 0) dX1_clear_1 (by decide) ?_
  refine go_putI gf_RX1_28 gcf_1 gpl_1_0 gft_1_0 dX1_clear_2 (fun s1 _ => ?_)
  refine go_aload_n 0 dX1_clear_5 rfl rfl ?_
  refine go_iconst (v := 0) dX1_clear_6 (by decide) ?_
  refine go_putI gf_RX1_32 gcf_1 gpl_1_1 gft_1_1 dX1_clear_7 (fun s2 _ => ?_)
  refine go_aload_n 0 dX1_clear_10 rfl rfl ?_
  refine go_iconst (v := 0) dX1_clear_11 (by decide) ?_
  refine go_putI gf_RX1_35 gcf_1 gpl_1_2 gft_1_2 dX1_clear_12 (fun s3 _ => ?_)
  exact go_retv rfl dX1_clear_15
set_option maxRecDepth 100000 in
set_option maxHeartbeats 4000000 in
theorem cX1_clear_c {d : Nat} (hd : 0 ≤ d) {a0 : Nat} {s0 : gH} {r : Unit} {s1 : gH} (h : fX1_clear a0 s0 = some (r, s1)) : gMt mX1_clear d [vr a0] s0 none s1 :=
  gMt_of (rv := rvU) (by decide +kernel) (Nat.le_of_ble_eq_true rfl) rfl (fun _ => wX1_clear hd) h
def gX6_advance_L40 (k92 : gH → Option (Unit × gH)) (a0 : Nat) (x1 : Int32) (x2 : Int32) : Nat → gH → Option (Unit × gH)
  | 0, _ => none
  | n + 1, s0 =>
    (ggI s0 a0 6 5).bind fun v10 =>
    (ggI s0 a0 6 3).bind fun v11 =>
    if v10 < v11 then
      (ggR s0 a0 6 2).bind fun v13 =>
      (ggI s0 a0 6 5).bind fun v14 =>
      (gaI s0 v13 0 v14).bind fun v15 =>
      gjn (fun (s17 : gH) =>
          (ggI s17 a0 6 5).bind fun v18 =>
          (spI s17 a0 6 5 (v18 + 1)).bind fun s19 =>
          gX6_advance_L40 k92 a0 x1 x2 n s19
      ) fun j16 =>
      if v15 = 32 then
        j16 s0
      else
        (ggR s0 a0 6 2).bind fun v21 =>
        (ggI s0 a0 6 5).bind fun v22 =>
        (gaI s0 v21 0 v22).bind fun v23 =>
        if v23 = 10 then
          j16 s0
        else
          k92 s0
    else
      k92 s0
set_option maxRecDepth 100000 in
set_option maxHeartbeats 4000000 in
theorem wX6_advance_L40 {X : Nat × (Nat → Int32)} {d : Nat} (hd : 1 ≤ d) (k92 : gH → Option (Unit × gH)) (a0 : Nat) (x1 : Int32) (x2 : Int32) (hk92 : ∀ (s : gH), gGo X rvU mX6_advance d 92 [(0, vr a0), (1, vi x1), (2, vi x2)] [] s (k92 s)) : ∀ (n : Nat)  (s0 : gH), gGo X rvU mX6_advance d 40 [(0, vr a0), (1, vi x1), (2, vi x2)] [] s0 (gX6_advance_L40 k92 a0 x1 x2 n  s0) := by
  intro n
  induction n with
  | zero => intros; exact go_none
  | succ n ih =>
    intro  s0
    show gGo _ _ _ _ _ _ _ _ (gX6_advance_L40 k92 a0 x1 x2 (n + 1)  s0)
    unfold gX6_advance_L40
    refine go_aload_n 0 dX6_advance_40 rfl rfl ?_
    refine go_getI gf_RX6_80 gcf_6 gft_6_5 dX6_advance_41 (fun v10 => ?_)
    refine go_aload_n 0 dX6_advance_44 rfl rfl ?_
    refine go_getI gf_RX6_42 gcf_6 gft_6_3 dX6_advance_45 (fun v11 => ?_)
    refine go_icmp_ge (tgt := 92) dX6_advance_48 (by decide) (fun h12 => ?_) (fun h12 => ?_)
    · refine go_aload_n 0 dX6_advance_51 rfl rfl ?_
      refine go_getR gf_RX6_15 gcf_6 gft_6_2 dX6_advance_52 (fun v13 => ?_)
      refine go_aload_n 0 dX6_advance_55 rfl rfl ?_
      refine go_getI gf_RX6_80 gcf_6 gft_6_5 dX6_advance_56 (fun v14 => ?_)
      refine go_baload dX6_advance_59 (fun v15 _ => ?_)
      refine go_bipush (v := 32) dX6_advance_60 (by decide) ?_
      refine go_gjn (P := fun j16 => ∀ (s17 : gH), gGo X rvU mX6_advance d 79 [(0, vr a0), (1, vi x1), (2, vi x2)] [] s17 (j16 s17)) (fun s17 => ?_) (fun j16 hj16 => ?_)
      · refine go_aload_n 0 dX6_advance_79 rfl rfl ?_
        refine go_dup dX6_advance_80 rfl ?_
        refine go_getI gf_RX6_80 gcf_6 gft_6_5 dX6_advance_81 (fun v18 => ?_)
        refine go_iconst (v := 1) dX6_advance_84 (by decide) ?_
        refine go_iadd dX6_advance_85 ?_
        refine go_putI gf_RX6_80 gcf_6 gpl_6_5 gft_6_5 dX6_advance_86 (fun s19 _ => ?_)
        refine go_goto (tgt := 40) dX6_advance_89 (by decide) ?_
        exact go_sub [0, 1, 2] (ih s19) rfl
      · refine go_icmp_eq (tgt := 79) dX6_advance_62 (by decide) (fun h20 => ?_) (fun h20 => ?_)
        · exact go_sub [0, 1, 2] (hj16 s0) rfl
        · refine go_aload_n 0 dX6_advance_65 rfl rfl ?_
          refine go_getR gf_RX6_15 gcf_6 gft_6_2 dX6_advance_66 (fun v21 => ?_)
          refine go_aload_n 0 dX6_advance_69 rfl rfl ?_
          refine go_getI gf_RX6_80 gcf_6 gft_6_5 dX6_advance_70 (fun v22 => ?_)
          refine go_baload dX6_advance_73 (fun v23 _ => ?_)
          refine go_bipush (v := 10) dX6_advance_74 (by decide) ?_
          refine go_icmp_ne (tgt := 92) dX6_advance_76 (by decide) (fun h24 => ?_) (fun h24 => ?_)
          · exact go_sub [0, 1, 2] (hj16 s0) rfl
          · exact go_sub [0, 1, 2] (hk92 s0) rfl
    · exact go_sub [0, 1, 2] (hk92 s0) rfl
def gX6_advance_L100 (k152 : gH → Option (Unit × gH)) (a0 : Nat) (x1 : Int32) (x2 : Int32) : Nat → gH → Option (Unit × gH)
  | 0, _ => none
  | n + 1, s0 =>
    (ggI s0 a0 6 6).bind fun v29 =>
    (ggI s0 a0 6 3).bind fun v30 =>
    if v29 < v30 then
      (ggR s0 a0 6 2).bind fun v32 =>
      (ggI s0 a0 6 6).bind fun v33 =>
      (gaI s0 v32 0 v33).bind fun v34 =>
      if v34 < 97 then
        k152 s0
      else
        (ggR s0 a0 6 2).bind fun v36 =>
        (ggI s0 a0 6 6).bind fun v37 =>
        (gaI s0 v36 0 v37).bind fun v38 =>
        if 122 < v38 then
          k152 s0
        else
          (ggI s0 a0 6 6).bind fun v40 =>
          (spI s0 a0 6 6 (v40 + 1)).bind fun s41 =>
          gX6_advance_L100 k152 a0 x1 x2 n s41
    else
      k152 s0
set_option maxRecDepth 100000 in
set_option maxHeartbeats 4000000 in
theorem wX6_advance_L100 {X : Nat × (Nat → Int32)} {d : Nat} (hd : 1 ≤ d) (k152 : gH → Option (Unit × gH)) (a0 : Nat) (x1 : Int32) (x2 : Int32) (hk152 : ∀ (s : gH), gGo X rvU mX6_advance d 152 [(0, vr a0), (1, vi x1), (2, vi x2)] [] s (k152 s)) : ∀ (n : Nat)  (s0 : gH), gGo X rvU mX6_advance d 100 [(0, vr a0), (1, vi x1), (2, vi x2)] [] s0 (gX6_advance_L100 k152 a0 x1 x2 n  s0) := by
  intro n
  induction n with
  | zero => intros; exact go_none
  | succ n ih =>
    intro  s0
    show gGo _ _ _ _ _ _ _ _ (gX6_advance_L100 k152 a0 x1 x2 (n + 1)  s0)
    unfold gX6_advance_L100
    refine go_aload_n 0 dX6_advance_100 rfl rfl ?_
    refine go_getI gf_RX6_60 gcf_6 gft_6_6 dX6_advance_101 (fun v29 => ?_)
    refine go_aload_n 0 dX6_advance_104 rfl rfl ?_
    refine go_getI gf_RX6_42 gcf_6 gft_6_3 dX6_advance_105 (fun v30 => ?_)
    refine go_icmp_ge (tgt := 152) dX6_advance_108 (by decide) (fun h31 => ?_) (fun h31 => ?_)
    · refine go_aload_n 0 dX6_advance_111 rfl rfl ?_
      refine go_getR gf_RX6_15 gcf_6 gft_6_2 dX6_advance_112 (fun v32 => ?_)
      refine go_aload_n 0 dX6_advance_115 rfl rfl ?_
      refine go_getI gf_RX6_60 gcf_6 gft_6_6 dX6_advance_116 (fun v33 => ?_)
      refine go_baload dX6_advance_119 (fun v34 _ => ?_)
      refine go_bipush (v := 97) dX6_advance_120 (by decide) ?_
      refine go_icmp_lt (tgt := 152) dX6_advance_122 (by decide) (fun h35 => ?_) (fun h35 => ?_)
      · exact go_sub [0, 1, 2] (hk152 s0) rfl
      · refine go_aload_n 0 dX6_advance_125 rfl rfl ?_
        refine go_getR gf_RX6_15 gcf_6 gft_6_2 dX6_advance_126 (fun v36 => ?_)
        refine go_aload_n 0 dX6_advance_129 rfl rfl ?_
        refine go_getI gf_RX6_60 gcf_6 gft_6_6 dX6_advance_130 (fun v37 => ?_)
        refine go_baload dX6_advance_133 (fun v38 _ => ?_)
        refine go_bipush (v := 122) dX6_advance_134 (by decide) ?_
        refine go_icmp_gt (tgt := 152) dX6_advance_136 (by decide) (fun h39 => ?_) (fun h39 => ?_)
        · exact go_sub [0, 1, 2] (hk152 s0) rfl
        · refine go_aload_n 0 dX6_advance_139 rfl rfl ?_
          refine go_dup dX6_advance_140 rfl ?_
          refine go_getI gf_RX6_60 gcf_6 gft_6_6 dX6_advance_141 (fun v40 => ?_)
          refine go_iconst (v := 1) dX6_advance_144 (by decide) ?_
          refine go_iadd dX6_advance_145 ?_
          refine go_putI gf_RX6_60 gcf_6 gpl_6_6 gft_6_6 dX6_advance_146 (fun s41 _ => ?_)
          refine go_goto (tgt := 100) dX6_advance_149 (by decide) ?_
          exact go_sub [0, 1, 2] (ih s41) rfl
    · exact go_sub [0, 1, 2] (hk152 s0) rfl
def gX6_advance_L173 (k225 : gH → Option (Unit × gH)) (a0 : Nat) (x1 : Int32) (x2 : Int32) : Nat → gH → Option (Unit × gH)
  | 0, _ => none
  | n + 1, s0 =>
    (ggI s0 a0 6 6).bind fun v69 =>
    (ggI s0 a0 6 3).bind fun v70 =>
    if v69 < v70 then
      (ggR s0 a0 6 2).bind fun v72 =>
      (ggI s0 a0 6 6).bind fun v73 =>
      (gaI s0 v72 0 v73).bind fun v74 =>
      if v74 < 48 then
        k225 s0
      else
        (ggR s0 a0 6 2).bind fun v76 =>
        (ggI s0 a0 6 6).bind fun v77 =>
        (gaI s0 v76 0 v77).bind fun v78 =>
        if 57 < v78 then
          k225 s0
        else
          (ggI s0 a0 6 6).bind fun v80 =>
          (spI s0 a0 6 6 (v80 + 1)).bind fun s81 =>
          gX6_advance_L173 k225 a0 x1 x2 n s81
    else
      k225 s0
set_option maxRecDepth 100000 in
set_option maxHeartbeats 4000000 in
theorem wX6_advance_L173 {X : Nat × (Nat → Int32)} {d : Nat} (hd : 1 ≤ d) (k225 : gH → Option (Unit × gH)) (a0 : Nat) (x1 : Int32) (x2 : Int32) (hk225 : ∀ (s : gH), gGo X rvU mX6_advance d 225 [(0, vr a0), (1, vi x1), (2, vi x2)] [] s (k225 s)) : ∀ (n : Nat)  (s0 : gH), gGo X rvU mX6_advance d 173 [(0, vr a0), (1, vi x1), (2, vi x2)] [] s0 (gX6_advance_L173 k225 a0 x1 x2 n  s0) := by
  intro n
  induction n with
  | zero => intros; exact go_none
  | succ n ih =>
    intro  s0
    show gGo _ _ _ _ _ _ _ _ (gX6_advance_L173 k225 a0 x1 x2 (n + 1)  s0)
    unfold gX6_advance_L173
    refine go_aload_n 0 dX6_advance_173 rfl rfl ?_
    refine go_getI gf_RX6_60 gcf_6 gft_6_6 dX6_advance_174 (fun v69 => ?_)
    refine go_aload_n 0 dX6_advance_177 rfl rfl ?_
    refine go_getI gf_RX6_42 gcf_6 gft_6_3 dX6_advance_178 (fun v70 => ?_)
    refine go_icmp_ge (tgt := 225) dX6_advance_181 (by decide) (fun h71 => ?_) (fun h71 => ?_)
    · refine go_aload_n 0 dX6_advance_184 rfl rfl ?_
      refine go_getR gf_RX6_15 gcf_6 gft_6_2 dX6_advance_185 (fun v72 => ?_)
      refine go_aload_n 0 dX6_advance_188 rfl rfl ?_
      refine go_getI gf_RX6_60 gcf_6 gft_6_6 dX6_advance_189 (fun v73 => ?_)
      refine go_baload dX6_advance_192 (fun v74 _ => ?_)
      refine go_bipush (v := 48) dX6_advance_193 (by decide) ?_
      refine go_icmp_lt (tgt := 225) dX6_advance_195 (by decide) (fun h75 => ?_) (fun h75 => ?_)
      · exact go_sub [0, 1, 2] (hk225 s0) rfl
      · refine go_aload_n 0 dX6_advance_198 rfl rfl ?_
        refine go_getR gf_RX6_15 gcf_6 gft_6_2 dX6_advance_199 (fun v76 => ?_)
        refine go_aload_n 0 dX6_advance_202 rfl rfl ?_
        refine go_getI gf_RX6_60 gcf_6 gft_6_6 dX6_advance_203 (fun v77 => ?_)
        refine go_baload dX6_advance_206 (fun v78 _ => ?_)
        refine go_bipush (v := 57) dX6_advance_207 (by decide) ?_
        refine go_icmp_gt (tgt := 225) dX6_advance_209 (by decide) (fun h79 => ?_) (fun h79 => ?_)
        · exact go_sub [0, 1, 2] (hk225 s0) rfl
        · refine go_aload_n 0 dX6_advance_212 rfl rfl ?_
          refine go_dup dX6_advance_213 rfl ?_
          refine go_getI gf_RX6_60 gcf_6 gft_6_6 dX6_advance_214 (fun v80 => ?_)
          refine go_iconst (v := 1) dX6_advance_217 (by decide) ?_
          refine go_iadd dX6_advance_218 ?_
          refine go_putI gf_RX6_60 gcf_6 gpl_6_6 gft_6_6 dX6_advance_219 (fun s81 _ => ?_)
          refine go_goto (tgt := 173) dX6_advance_222 (by decide) ?_
          exact go_sub [0, 1, 2] (ih s81) rfl
    · exact go_sub [0, 1, 2] (hk225 s0) rfl
def fX6_advance (a0 : Nat) (s0 : gH) : Option (Unit × gH) :=
  (ggI s0 a0 6 0).bind fun v1 =>
  if v1 = 0 then
    (ggI s0 a0 6 4).bind fun v3 =>
    gjn (fun (z5 : Int32) (s6 : gH) =>
        (ggI s6 a0 6 6).bind fun v7 =>
        (spI s6 a0 6 5 v7).bind fun s8 =>
        gX6_advance_L40
          (fun s25 =>
            (ggI s25 a0 6 5).bind fun v26 =>
            (spI s25 a0 6 6 v26).bind fun s27 =>
            gX6_advance_L100
              (fun s42 =>
                (spI s42 a0 6 4 1).bind fun s43 =>
                (ggI s43 a0 6 6).bind fun v44 =>
                (ggI s43 a0 6 5).bind fun v45 =>
                gjn (fun (s47 : gH) =>
                    (ggI s47 a0 6 6).bind fun v48 =>
                    (ggI s47 a0 6 5).bind fun v49 =>
                    if v48 = v49 then
                      (ggI s47 a0 6 6).bind fun v51 =>
                      (ggI s47 a0 6 3).bind fun v52 =>
                      gjn (fun (z54 : Int32) (b55 : Nat) (s56 : gH) =>
                          (spI s56 b55 6 4 z54).bind fun s57 =>
                          (ggI s57 a0 6 3).bind fun v58 =>
                          (ggI s57 a0 6 6).bind fun v59 =>
                          (spI s57 a0 6 6 (gmin v58 (v59 + 1))).bind fun s60 =>
                          some ((), s60)
                      ) fun j53 =>
                      if v51 < v52 then
                        j53 3 a0 s47
                      else
                        j53 0 a0 s47
                    else
                      if z5 = 0 then
                        some ((), s47)
                      else
                        (ggI s47 a0 6 5).bind fun v63 =>
                        if v63 = v7 then
                          (spI s47 a0 6 4 4).bind fun s65 =>
                          some ((), s65)
                        else
                          some ((), s47)
                ) fun j46 =>
                if v44 = v45 then
                  (spI s43 a0 6 4 2).bind fun s67 =>
                  gX6_advance_L173
                    (fun s82 =>
                      j46 s82)
                    a0 z5 v7 20000 s67
                else
                  j46 s43)
              a0 z5 v7 20000 s27)
          a0 z5 v7 20000 s8
    ) fun j4 =>
    if v3 = 1 then
      j4 1 s0
    else
      (ggI s0 a0 6 4).bind fun v84 =>
      if v84 = 2 then
        j4 1 s0
      else
        j4 0 s0
  else
    some ((), s0)
set_option maxRecDepth 100000 in
set_option maxHeartbeats 4000000 in
theorem wX6_advance {X : Nat × (Nat → Int32)} {d : Nat} (hd : 1 ≤ d) {a0 : Nat} {s0 : gH} : gGo X rvU mX6_advance d 0 [(0, vr a0)] [] s0 (fX6_advance a0 s0) := by
  unfold fX6_advance
  refine go_aload_n 0 dX6_advance_0 rfl rfl ?_
  refine go_getI gf_RX6_54 gcf_6 gft_6_0 dX6_advance_1 (fun v1 => ?_)
  refine go_if_eq (tgt := 8) dX6_advance_4 (by decide) (fun h2 => ?_) (fun h2 => ?_)
  · refine go_aload_n 0 dX6_advance_8 rfl rfl ?_
    refine go_getI gf_RX6_57 gcf_6 gft_6_4 dX6_advance_9 (fun v3 => ?_)
    refine go_iconst (v := 1) dX6_advance_12 (by decide) ?_
    refine go_gjn (P := fun j4 => ∀ (z5 : Int32) (s6 : gH), gGo X rvU mX6_advance d 29 [(0, vr a0)] [vi z5] s6 (j4 z5 s6)) (fun z5 s6 => ?_) (fun j4 hj4 => ?_)
    · refine go_istore_n (L' := [(1, vi z5), (0, vr a0)]) dX6_advance_29 rfl (by decide) rfl ?_
      refine go_aload_n 1 dX6_advance_30 rfl rfl ?_
      refine go_getI gf_RX6_60 gcf_6 gft_6_6 dX6_advance_31 (fun v7 => ?_)
      refine go_istore_n (L' := [(2, vi v7), (1, vi z5), (0, vr a0)]) dX6_advance_34 rfl (by decide) rfl ?_
      refine go_aload_n 2 dX6_advance_35 rfl rfl ?_
      refine go_iload_n 0 dX6_advance_36 rfl rfl ?_
      refine go_putI gf_RX6_80 gcf_6 gpl_6_5 gft_6_5 dX6_advance_37 (fun s8 _ => ?_)
      refine go_sub [2, 1, 0] (wX6_advance_L40 hd _ a0 z5 v7 ?_ 20000 s8) rfl
      intro s25
      refine go_aload_n 0 dX6_advance_92 rfl rfl ?_
      refine go_aload_n 0 dX6_advance_93 rfl rfl ?_
      refine go_getI gf_RX6_80 gcf_6 gft_6_5 dX6_advance_94 (fun v26 => ?_)
      refine go_putI gf_RX6_60 gcf_6 gpl_6_6 gft_6_6 dX6_advance_97 (fun s27 _ => ?_)
      refine go_sub [0, 1, 2] (wX6_advance_L100 hd _ a0 z5 v7 ?_ 20000 s27) rfl
      intro s42
      refine go_aload_n 0 dX6_advance_152 rfl rfl ?_
      refine go_iconst (v := 1) dX6_advance_153 (by decide) ?_
      refine go_putI gf_RX6_57 gcf_6 gpl_6_4 gft_6_4 dX6_advance_154 (fun s43 _ => ?_)
      refine go_aload_n 0 dX6_advance_157 rfl rfl ?_
      refine go_getI gf_RX6_60 gcf_6 gft_6_6 dX6_advance_158 (fun v44 => ?_)
      refine go_aload_n 0 dX6_advance_161 rfl rfl ?_
      refine go_getI gf_RX6_80 gcf_6 gft_6_5 dX6_advance_162 (fun v45 => ?_)
      refine go_gjn (P := fun j46 => ∀ (s47 : gH), gGo X rvU mX6_advance d 225 [(0, vr a0), (1, vi z5), (2, vi v7)] [] s47 (j46 s47)) (fun s47 => ?_) (fun j46 hj46 => ?_)
      · refine go_aload_n 0 dX6_advance_225 rfl rfl ?_
        refine go_getI gf_RX6_60 gcf_6 gft_6_6 dX6_advance_226 (fun v48 => ?_)
        refine go_aload_n 0 dX6_advance_229 rfl rfl ?_
        refine go_getI gf_RX6_80 gcf_6 gft_6_5 dX6_advance_230 (fun v49 => ?_)
        refine go_icmp_ne (tgt := 276) dX6_advance_233 (by decide) (fun h50 => ?_) (fun h50 => ?_)
        · refine go_aload_n 0 dX6_advance_236 rfl rfl ?_
          refine go_aload_n 0 dX6_advance_237 rfl rfl ?_
          refine go_getI gf_RX6_60 gcf_6 gft_6_6 dX6_advance_238 (fun v51 => ?_)
          refine go_aload_n 0 dX6_advance_241 rfl rfl ?_
          refine go_getI gf_RX6_42 gcf_6 gft_6_3 dX6_advance_242 (fun v52 => ?_)
          refine go_gjn (P := fun j53 => ∀ (z54 : Int32) (b55 : Nat) (s56 : gH), gGo X rvU mX6_advance d 253 [(0, vr a0)] [vi z54, vr b55] s56 (j53 z54 b55 s56)) (fun z54 b55 s56 => ?_) (fun j53 hj53 => ?_)
          · refine go_putI gf_RX6_57 gcf_6 gpl_6_4 gft_6_4 dX6_advance_253 (fun s57 _ => ?_)
            refine go_aload_n 0 dX6_advance_256 rfl rfl ?_
            refine go_aload_n 0 dX6_advance_257 rfl rfl ?_
            refine go_getI gf_RX6_42 gcf_6 gft_6_3 dX6_advance_258 (fun v58 => ?_)
            refine go_aload_n 0 dX6_advance_261 rfl rfl ?_
            refine go_getI gf_RX6_60 gcf_6 gft_6_6 dX6_advance_262 (fun v59 => ?_)
            refine go_iconst (v := 1) dX6_advance_265 (by decide) ?_
            refine go_iadd dX6_advance_266 ?_
            refine go_mmin gk_RX6_36.1 gmm_min2 gmm_3 gmm_min4 (Nat.le_of_ble_eq_true rfl) dX6_advance_267 ?_
            refine go_putI gf_RX6_60 gcf_6 gpl_6_6 gft_6_6 dX6_advance_270 (fun s60 _ => ?_)
            refine go_goto (tgt := 293) dX6_advance_273 (by decide) ?_
            exact go_retv rfl dX6_advance_293
          · refine go_icmp_ge (tgt := 252) dX6_advance_245 (by decide) (fun h61 => ?_) (fun h61 => ?_)
            · refine go_iconst (v := 3) dX6_advance_248 (by decide) ?_
              refine go_goto (tgt := 253) dX6_advance_249 (by decide) ?_
              exact go_sub [0] (hj53 3 a0 s47) rfl
            · refine go_iconst (v := 0) dX6_advance_252 (by decide) ?_
              exact go_sub [0] (hj53 0 a0 s47) rfl
        · refine go_iload_n 1 dX6_advance_276 rfl rfl ?_
          refine go_if_eq (tgt := 293) dX6_advance_277 (by decide) (fun h62 => ?_) (fun h62 => ?_)
          · exact go_retv rfl dX6_advance_293
          · refine go_aload_n 0 dX6_advance_280 rfl rfl ?_
            refine go_getI gf_RX6_80 gcf_6 gft_6_5 dX6_advance_281 (fun v63 => ?_)
            refine go_iload_n 2 dX6_advance_284 rfl rfl ?_
            refine go_icmp_ne (tgt := 293) dX6_advance_285 (by decide) (fun h64 => ?_) (fun h64 => ?_)
            · refine go_aload_n 0 dX6_advance_288 rfl rfl ?_
              refine go_iconst (v := 4) dX6_advance_289 (by decide) ?_
              refine go_putI gf_RX6_57 gcf_6 gpl_6_4 gft_6_4 dX6_advance_290 (fun s65 _ => ?_)
              exact go_retv rfl dX6_advance_293
            · exact go_retv rfl dX6_advance_293
      · refine go_icmp_ne (tgt := 225) dX6_advance_165 (by decide) (fun h66 => ?_) (fun h66 => ?_)
        · refine go_aload_n 0 dX6_advance_168 rfl rfl ?_
          refine go_iconst (v := 2) dX6_advance_169 (by decide) ?_
          refine go_putI gf_RX6_57 gcf_6 gpl_6_4 gft_6_4 dX6_advance_170 (fun s67 _ => ?_)
          refine go_sub [0, 1, 2] (wX6_advance_L173 hd _ a0 z5 v7 ?_ 20000 s67) rfl
          intro s82
          exact go_sub [0, 1, 2] (hj46 s82) rfl
        · exact go_sub [0, 1, 2] (hj46 s43) rfl
    · refine go_icmp_eq (tgt := 24) dX6_advance_13 (by decide) (fun h83 => ?_) (fun h83 => ?_)
      · refine go_iconst (v := 1) dX6_advance_24 (by decide) ?_
        refine go_goto (tgt := 29) dX6_advance_25 (by decide) ?_
        exact go_sub [0] (hj4 1 s0) rfl
      · refine go_aload_n 0 dX6_advance_16 rfl rfl ?_
        refine go_getI gf_RX6_57 gcf_6 gft_6_4 dX6_advance_17 (fun v84 => ?_)
        refine go_iconst (v := 2) dX6_advance_20 (by decide) ?_
        refine go_icmp_ne (tgt := 28) dX6_advance_21 (by decide) (fun h85 => ?_) (fun h85 => ?_)
        · refine go_iconst (v := 1) dX6_advance_24 (by decide) ?_
          refine go_goto (tgt := 29) dX6_advance_25 (by decide) ?_
          exact go_sub [0] (hj4 1 s0) rfl
        · refine go_iconst (v := 0) dX6_advance_28 (by decide) ?_
          exact go_sub [0] (hj4 0 s0) rfl
  · exact go_retv rfl dX6_advance_7
set_option maxRecDepth 100000 in
set_option maxHeartbeats 4000000 in
theorem cX6_advance_c {d : Nat} (hd : 1 ≤ d) {a0 : Nat} {s0 : gH} {r : Unit} {s1 : gH} (h : fX6_advance a0 s0 = some (r, s1)) : gMt mX6_advance d [vr a0] s0 none s1 :=
  gMt_of (rv := rvU) (by decide +kernel) (Nat.le_of_ble_eq_true rfl) rfl (fun _ => wX6_advance hd) h
def gX6_isWord_L28  (a0 : Nat) (a1 : Nat) : Nat → Int32 → gH → Option (Int32 × gH)
  | 0, _, _ => none
  | n + 1, x2, s0 =>
    gb2 (gsv a1 (fJ0_length_8abf5 a1 s0)) fun r9 s10 =>
    if x2 < r9 then
      (ggI s10 a0 6 5).bind fun v12 =>
      (ggI s10 a0 6 3).bind fun v13 =>
      if v12 + x2 < v13 then
        (ggR s10 a0 6 2).bind fun v15 =>
        (ggI s10 a0 6 5).bind fun v16 =>
        (gaI s10 v15 0 (v16 + x2)).bind fun v17 =>
        gb2 (gsv a1 (fJ0_charAt_5068e a1 x2 s10)) fun r18 s19 =>
        if v17 = r18 then
          gX6_isWord_L28 a0 a1 n (x2 + 1) s19
        else
          some (0, s19)
      else
        some (1, s10)
    else
      some (1, s10)
set_option maxRecDepth 100000 in
set_option maxHeartbeats 4000000 in
theorem wX6_isWord_L28 {X : Nat × (Nat → Int32)} {d : Nat} (hd : 4 ≤ d)  (a0 : Nat) (a1 : Nat) : ∀ (n : Nat) (x2 : Int32) (s0 : gH), gGo X rvI mX6_isWord d 28 [(0, vr a0), (1, vr (10 + 2 * a1)), (2, vi x2)] [] s0 (gX6_isWord_L28 a0 a1 n x2 s0) := by
  intro n
  induction n with
  | zero => intros; exact go_none
  | succ n ih =>
    intro x2 s0
    show gGo _ _ _ _ _ _ _ _ (gX6_isWord_L28 a0 a1 (n + 1) x2 s0)
    unfold gX6_isWord_L28
    refine go_iload_n 2 dX6_isWord_28 rfl rfl ?_
    refine go_aload_n 1 dX6_isWord_29 rfl rfl ?_
    refine go_callVS_I (as := []) gk_RX6_252 rfl gmf_J0_length_8abf5 (by omega) rfl rfl (Nat.le_of_ble_eq_true rfl) dX6_isWord_30 (fun _ _ h => cJ0_length_8abf5_c (by omega) h) (fun r9 s10 _ => ?_)
    refine go_icmp_ge (tgt := 76) dX6_isWord_33 (by decide) (fun h11 => ?_) (fun h11 => ?_)
    · refine go_aload_n 0 dX6_isWord_36 rfl rfl ?_
      refine go_getI gf_RX6_80 gcf_6 gft_6_5 dX6_isWord_37 (fun v12 => ?_)
      refine go_iload_n 2 dX6_isWord_40 rfl rfl ?_
      refine go_iadd dX6_isWord_41 ?_
      refine go_aload_n 0 dX6_isWord_42 rfl rfl ?_
      refine go_getI gf_RX6_42 gcf_6 gft_6_3 dX6_isWord_43 (fun v13 => ?_)
      refine go_icmp_ge (tgt := 76) dX6_isWord_46 (by decide) (fun h14 => ?_) (fun h14 => ?_)
      · refine go_aload_n 0 dX6_isWord_49 rfl rfl ?_
        refine go_getR gf_RX6_15 gcf_6 gft_6_2 dX6_isWord_50 (fun v15 => ?_)
        refine go_aload_n 0 dX6_isWord_53 rfl rfl ?_
        refine go_getI gf_RX6_80 gcf_6 gft_6_5 dX6_isWord_54 (fun v16 => ?_)
        refine go_iload_n 2 dX6_isWord_57 rfl rfl ?_
        refine go_iadd dX6_isWord_58 ?_
        refine go_baload dX6_isWord_59 (fun v17 _ => ?_)
        refine go_aload_n 1 dX6_isWord_60 rfl rfl ?_
        refine go_iload_n 2 dX6_isWord_61 rfl rfl ?_
        refine go_callVS_I (as := [vi x2]) gk_RX6_256 rfl gmf_J0_charAt_5068e (by omega) rfl rfl (Nat.le_of_ble_eq_true rfl) dX6_isWord_62 (fun _ _ h => cJ0_charAt_5068e_c (by omega) h) (fun r18 s19 _ => ?_)
        refine go_icmp_eq (tgt := 70) dX6_isWord_65 (by decide) (fun h20 => ?_) (fun h20 => ?_)
        · refine go_iinc (v := 1) (L' := [(2, vi (x2 + 1)), (0, vr a0), (1, vr (10 + 2 * a1))]) 2 dX6_isWord_70 rfl (by decide) (by decide) rfl ?_
          refine go_goto (tgt := 28) dX6_isWord_73 (by decide) ?_
          exact go_sub [1, 2, 0] (ih (x2 + 1) s19) rfl
        · refine go_iconst (v := 0) dX6_isWord_68 (by decide) ?_
          exact go_ret rfl dX6_isWord_69
      · refine go_iconst (v := 1) dX6_isWord_76 (by decide) ?_
        exact go_ret rfl dX6_isWord_77
    · refine go_iconst (v := 1) dX6_isWord_76 (by decide) ?_
      exact go_ret rfl dX6_isWord_77
def gX6_isWord (a0 : Nat) (a1 : Nat) (s0 : gH) : Option (Int32 × gH) :=
  (ggI s0 a0 6 4).bind fun v1 =>
  if v1 = 1 then
    (ggI s0 a0 6 6).bind fun v3 =>
    (ggI s0 a0 6 5).bind fun v4 =>
    gb2 (gsv a1 (fJ0_length_8abf5 a1 s0)) fun r5 s6 =>
    if v3 - v4 = r5 then
      gX6_isWord_L28
        a0 a1 20000 0 s6
    else
      some (0, s6)
  else
    some (0, s0)
def fX6_isWord (a0 : Nat) (a1 : Nat) (s0 : gH) : Option (Int32 × gH) := gzr (gX6_isWord a0 a1 s0)
set_option maxRecDepth 100000 in
set_option maxHeartbeats 4000000 in
theorem wX6_isWord {X : Nat × (Nat → Int32)} {d : Nat} (hd : 4 ≤ d) {a0 : Nat} {a1 : Nat} {s0 : gH} : gGo X rvI mX6_isWord d 0 [(0, vr a0), (1, vr (10 + 2 * a1))] [] s0 (gX6_isWord a0 a1 s0) := by
  unfold gX6_isWord
  refine go_aload_n 0 dX6_isWord_0 rfl rfl ?_
  refine go_getI gf_RX6_57 gcf_6 gft_6_4 dX6_isWord_1 (fun v1 => ?_)
  refine go_iconst (v := 1) dX6_isWord_4 (by decide) ?_
  refine go_icmp_ne (tgt := 24) dX6_isWord_5 (by decide) (fun h2 => ?_) (fun h2 => ?_)
  · refine go_aload_n 0 dX6_isWord_8 rfl rfl ?_
    refine go_getI gf_RX6_60 gcf_6 gft_6_6 dX6_isWord_9 (fun v3 => ?_)
    refine go_aload_n 0 dX6_isWord_12 rfl rfl ?_
    refine go_getI gf_RX6_80 gcf_6 gft_6_5 dX6_isWord_13 (fun v4 => ?_)
    refine go_isub dX6_isWord_16 ?_
    refine go_aload_n 1 dX6_isWord_17 rfl rfl ?_
    refine go_callVS_I (as := []) gk_RX6_252 rfl gmf_J0_length_8abf5 (by omega) rfl rfl (Nat.le_of_ble_eq_true rfl) dX6_isWord_18 (fun _ _ h => cJ0_length_8abf5_c (by omega) h) (fun r5 s6 _ => ?_)
    refine go_icmp_eq (tgt := 26) dX6_isWord_21 (by decide) (fun h7 => ?_) (fun h7 => ?_)
    · refine go_iconst (v := 0) dX6_isWord_26 (by decide) ?_
      refine go_istore_n (L' := [(2, vi 0), (0, vr a0), (1, vr (10 + 2 * a1))]) dX6_isWord_27 rfl (by decide) rfl ?_
      refine go_sub [1, 2, 0] (wX6_isWord_L28 hd a0 a1 20000 0 s6) rfl
    · refine go_iconst (v := 0) dX6_isWord_24 (by decide) ?_
      exact go_ret rfl dX6_isWord_25
  · refine go_iconst (v := 0) dX6_isWord_24 (by decide) ?_
    exact go_ret rfl dX6_isWord_25
set_option maxRecDepth 100000 in
set_option maxHeartbeats 4000000 in
theorem cX6_isWord_c {d : Nat} (hd : 4 ≤ d) {a0 : Nat} {a1 : Nat} {s0 : gH} {r : Int32} {s1 : gH} (h : fX6_isWord a0 a1 s0 = some (r, s1)) : gMt mX6_isWord d [vr a0, vr (10 + 2 * a1)] s0 (some (vi r)) s1 := by
  obtain ⟨h1, h2⟩ := gzr_some h
  exact gMt_of (rv := rvI) (by decide +kernel) (Nat.le_of_ble_eq_true rfl) ⟨_, rfl, gnarZ h2⟩ (fun _ => wX6_isWord hd) h1
