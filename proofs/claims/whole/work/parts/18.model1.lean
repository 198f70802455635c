/-! what the code asks, by program: X10_init X10_thrown X10_is X10_lies X10_isBelow X10_isSize X10_above X10_named X10_item X10_isRedefined X10_isAside X10_tablesUp X10_mayBeTable X10_digitsOf X10_isPart X10_isClause X10_clause -/
theorem dX10_init_0 : decode cX10_init 0 = .ok (.aload_n 0, 1) := by decide +kernel
theorem dX10_init_1 : decode cX10_init 1 = .ok (.invokespecial 1, 3) := by decide +kernel
theorem dX10_init_4 : decode cX10_init 4 = .ok (.aload_n 0, 1) := by decide +kernel
theorem dX10_init_5 : decode cX10_init 5 = .ok (.bipush 121, 2) := by decide +kernel
theorem dX10_init_7 : decode cX10_init 7 = .ok (.newarray .int, 2) := by decide +kernel
theorem dX10_init_9 : decode cX10_init 9 = .ok (.putfield 7, 3) := by decide +kernel
theorem dX10_init_12 : decode cX10_init 12 = .ok (.aload_n 0, 1) := by decide +kernel
theorem dX10_init_13 : decode cX10_init 13 = .ok (.bipush 121, 2) := by decide +kernel
theorem dX10_init_15 : decode cX10_init 15 = .ok (.newarray .int, 2) := by decide +kernel
theorem dX10_init_17 : decode cX10_init 17 = .ok (.putfield 13, 3) := by decide +kernel
theorem dX10_init_20 : decode cX10_init 20 = .ok (.aload_n 0, 1) := by decide +kernel
theorem dX10_init_21 : decode cX10_init 21 = .ok (.bipush 121, 2) := by decide +kernel
theorem dX10_init_23 : decode cX10_init 23 = .ok (.newarray .int, 2) := by decide +kernel
theorem dX10_init_25 : decode cX10_init 25 = .ok (.putfield 16, 3) := by decide +kernel
theorem dX10_init_28 : decode cX10_init 28 = .ok (.aload_n 0, 1) := by decide +kernel
theorem dX10_init_29 : decode cX10_init 29 = .ok (.bipush 121, 2) := by decide +kernel
theorem dX10_init_31 : decode cX10_init 31 = .ok (.newarray .int, 2) := by decide +kernel
theorem dX10_init_33 : decode cX10_init 33 = .ok (.putfield 19, 3) := by decide +kernel
theorem dX10_init_36 : decode cX10_init 36 = .ok (.aload_n 0, 1) := by decide +kernel
theorem dX10_init_37 : decode cX10_init 37 = .ok (.bipush 121, 2) := by decide +kernel
theorem dX10_init_39 : decode cX10_init 39 = .ok (.newarray .int, 2) := by decide +kernel
theorem dX10_init_41 : decode cX10_init 41 = .ok (.putfield 22, 3) := by decide +kernel
theorem dX10_init_44 : decode cX10_init 44 = .ok (.aload_n 0, 1) := by decide +kernel
theorem dX10_init_45 : decode cX10_init 45 = .ok (.bipush 121, 2) := by decide +kernel
theorem dX10_init_47 : decode cX10_init 47 = .ok (.newarray .int, 2) := by decide +kernel
theorem dX10_init_49 : decode cX10_init 49 = .ok (.putfield 25, 3) := by decide +kernel
theorem dX10_init_52 : decode cX10_init 52 = .ok (.aload_n 0, 1) := by decide +kernel
theorem dX10_init_53 : decode cX10_init 53 = .ok (.bipush 121, 2) := by decide +kernel
theorem dX10_init_55 : decode cX10_init 55 = .ok (.newarray .int, 2) := by decide +kernel
theorem dX10_init_57 : decode cX10_init 57 = .ok (.putfield 28, 3) := by decide +kernel
theorem dX10_init_60 : decode cX10_init 60 = .ok (.aload_n 0, 1) := by decide +kernel
theorem dX10_init_61 : decode cX10_init 61 = .ok (.bipush 121, 2) := by decide +kernel
theorem dX10_init_63 : decode cX10_init 63 = .ok (.newarray .int, 2) := by decide +kernel
theorem dX10_init_65 : decode cX10_init 65 = .ok (.putfield 31, 3) := by decide +kernel
theorem dX10_init_68 : decode cX10_init 68 = .ok (.aload_n 0, 1) := by decide +kernel
theorem dX10_init_69 : decode cX10_init 69 = .ok (.bipush 121, 2) := by decide +kernel
theorem dX10_init_71 : decode cX10_init 71 = .ok (.newarray .int, 2) := by decide +kernel
theorem dX10_init_73 : decode cX10_init 73 = .ok (.putfield 34, 3) := by decide +kernel
theorem dX10_init_76 : decode cX10_init 76 = .ok (.aload_n 0, 1) := by decide +kernel
theorem dX10_init_77 : decode cX10_init 77 = .ok (.bipush 121, 2) := by decide +kernel
theorem dX10_init_79 : decode cX10_init 79 = .ok (.newarray .boolean, 2) := by decide +kernel
theorem dX10_init_81 : decode cX10_init 81 = .ok (.putfield 37, 3) := by decide +kernel
theorem dX10_init_84 : decode cX10_init 84 = .ok (.aload_n 0, 1) := by decide +kernel
theorem dX10_init_85 : decode cX10_init 85 = .ok (.bipush 121, 2) := by decide +kernel
theorem dX10_init_87 : decode cX10_init 87 = .ok (.newarray .boolean, 2) := by decide +kernel
theorem dX10_init_89 : decode cX10_init 89 = .ok (.putfield 41, 3) := by decide +kernel
theorem dX10_init_92 : decode cX10_init 92 = .ok (.aload_n 0, 1) := by decide +kernel
theorem dX10_init_93 : decode cX10_init 93 = .ok (.bipush 121, 2) := by decide +kernel
theorem dX10_init_95 : decode cX10_init 95 = .ok (.newarray .int, 2) := by decide +kernel
theorem dX10_init_97 : decode cX10_init 97 = .ok (.putfield 44, 3) := by decide +kernel
theorem dX10_init_100 : decode cX10_init 100 = .ok (.aload_n 0, 1) := by decide +kernel
theorem dX10_init_101 : decode cX10_init 101 = .ok (.bipush 121, 2) := by decide +kernel
theorem dX10_init_103 : decode cX10_init 103 = .ok (.newarray .int, 2) := by decide +kernel
theorem dX10_init_105 : decode cX10_init 105 = .ok (.putfield 47, 3) := by decide +kernel
theorem dX10_init_108 : decode cX10_init 108 = .ok (.aload_n 0, 1) := by decide +kernel
theorem dX10_init_109 : decode cX10_init 109 = .ok (.bipush 121, 2) := by decide +kernel
theorem dX10_init_111 : decode cX10_init 111 = .ok (.newarray .int, 2) := by decide +kernel
theorem dX10_init_113 : decode cX10_init 113 = .ok (.putfield 50, 3) := by decide +kernel
theorem dX10_init_116 : decode cX10_init 116 = .ok (.aload_n 0, 1) := by decide +kernel
theorem dX10_init_117 : decode cX10_init 117 = .ok (.bipush 121, 2) := by decide +kernel
theorem dX10_init_119 : decode cX10_init 119 = .ok (.newarray .int, 2) := by decide +kernel
theorem dX10_init_121 : decode cX10_init 121 = .ok (.putfield 53, 3) := by decide +kernel
theorem dX10_init_124 : decode cX10_init 124 = .ok (.aload_n 0, 1) := by decide +kernel
theorem dX10_init_125 : decode cX10_init 125 = .ok (.bipush 121, 2) := by decide +kernel
theorem dX10_init_127 : decode cX10_init 127 = .ok (.newarray .int, 2) := by decide +kernel
theorem dX10_init_129 : decode cX10_init 129 = .ok (.putfield 56, 3) := by decide +kernel
theorem dX10_init_132 : decode cX10_init 132 = .ok (.aload_n 0, 1) := by decide +kernel
theorem dX10_init_133 : decode cX10_init 133 = .ok (.bipush 121, 2) := by decide +kernel
theorem dX10_init_135 : decode cX10_init 135 = .ok (.newarray .int, 2) := by decide +kernel
theorem dX10_init_137 : decode cX10_init 137 = .ok (.putfield 59, 3) := by decide +kernel
theorem dX10_init_140 : decode cX10_init 140 = .ok (.aload_n 0, 1) := by decide +kernel
theorem dX10_init_141 : decode cX10_init 141 = .ok (.sipush 968, 3) := by decide +kernel
theorem dX10_init_144 : decode cX10_init 144 = .ok (.newarray .int, 2) := by decide +kernel
theorem dX10_init_146 : decode cX10_init 146 = .ok (.putfield 62, 3) := by decide +kernel
theorem dX10_init_149 : decode cX10_init 149 = .ok (.aload_n 0, 1) := by decide +kernel
theorem dX10_init_150 : decode cX10_init 150 = .ok (.sipush 968, 3) := by decide +kernel
theorem dX10_init_153 : decode cX10_init 153 = .ok (.newarray .int, 2) := by decide +kernel
theorem dX10_init_155 : decode cX10_init 155 = .ok (.putfield 65, 3) := by decide +kernel
theorem dX10_init_158 : decode cX10_init 158 = .ok (.aload_n 0, 1) := by decide +kernel
theorem dX10_init_159 : decode cX10_init 159 = .ok (.iconst 1, 1) := by decide +kernel
theorem dX10_init_160 : decode cX10_init 160 = .ok (.putfield 68, 3) := by decide +kernel
theorem dX10_init_163 : decode cX10_init 163 = .ok (.aload_n 0, 1) := by decide +kernel
theorem dX10_init_164 : decode cX10_init 164 = .ok (.sipush 20000, 3) := by decide +kernel
theorem dX10_init_167 : decode cX10_init 167 = .ok (.newarray .byte, 2) := by decide +kernel
theorem dX10_init_169 : decode cX10_init 169 = .ok (.putfield 72, 3) := by decide +kernel
theorem dX10_init_172 : decode cX10_init 172 = .ok (.aload_n 0, 1) := by decide +kernel
theorem dX10_init_173 : decode cX10_init 173 = .ok (.bipush 121, 2) := by decide +kernel
theorem dX10_init_175 : decode cX10_init 175 = .ok (.newarray .long, 2) := by decide +kernel
theorem dX10_init_177 : decode cX10_init 177 = .ok (.putfield 76, 3) := by decide +kernel
theorem dX10_init_180 : decode cX10_init 180 = .ok (.aload_n 0, 1) := by decide +kernel
theorem dX10_init_181 : decode cX10_init 181 = .ok (.bipush 121, 2) := by decide +kernel
theorem dX10_init_183 : decode cX10_init 183 = .ok (.newarray .long, 2) := by decide +kernel
theorem dX10_init_185 : decode cX10_init 185 = .ok (.putfield 80, 3) := by decide +kernel
theorem dX10_init_188 : decode cX10_init 188 = .ok (.aload_n 0, 1) := by decide +kernel
theorem dX10_init_189 : decode cX10_init 189 = .ok (.bipush 121, 2) := by decide +kernel
theorem dX10_init_191 : decode cX10_init 191 = .ok (.newarray .long, 2) := by decide +kernel
theorem dX10_init_193 : decode cX10_init 193 = .ok (.putfield 83, 3) := by decide +kernel
theorem dX10_init_196 : decode cX10_init 196 = .ok (.aload_n 0, 1) := by decide +kernel
theorem dX10_init_197 : decode cX10_init 197 = .ok (.bipush 121, 2) := by decide +kernel
theorem dX10_init_199 : decode cX10_init 199 = .ok (.newarray .long, 2) := by decide +kernel
theorem dX10_init_201 : decode cX10_init 201 = .ok (.putfield 86, 3) := by decide +kernel
theorem dX10_init_204 : decode cX10_init 204 = .ok (.aload_n 0, 1) := by decide +kernel
theorem dX10_init_205 : decode cX10_init 205 = .ok (.bipush 121, 2) := by decide +kernel
theorem dX10_init_207 : decode cX10_init 207 = .ok (.newarray .long, 2) := by decide +kernel
theorem dX10_init_209 : decode cX10_init 209 = .ok (.putfield 89, 3) := by decide +kernel
theorem dX10_init_212 : decode cX10_init 212 = .ok (.aload_n 0, 1) := by decide +kernel
theorem dX10_init_213 : decode cX10_init 213 = .ok (.bipush 121, 2) := by decide +kernel
theorem dX10_init_215 : decode cX10_init 215 = .ok (.newarray .int, 2) := by decide +kernel
theorem dX10_init_217 : decode cX10_init 217 = .ok (.putfield 92, 3) := by decide +kernel
theorem dX10_init_220 : decode cX10_init 220 = .ok (.aload_n 0, 1) := by decide +kernel
theorem dX10_init_221 : decode cX10_init 221 = .ok (.iconst 4, 1) := by decide +kernel
theorem dX10_init_222 : decode cX10_init 222 = .ok (.newarray .int, 2) := by decide +kernel
theorem dX10_init_224 : decode cX10_init 224 = .ok (.putfield 95, 3) := by decide +kernel
theorem dX10_init_227 : decode cX10_init 227 = .ok (.return_, 1) := by decide +kernel
def VX10_init_0 (g : jg) (a0 : Nat) (h : jh) (k n : Nat) (Q : jq) : Prop := (1 ≤ k) ∧ (121 ≤ n) ∧ ∀ h3 : jh, h3 = jmk h 20 121 → (jt h3 a0 = 9) ∧ ∀ h6 : jh, h6 = jsr h3 514 a0 (some (jz h)) → (1 ≤ (k - 1)) ∧ (121 ≤ (n - 121)) ∧ ∀ h10 : jh, h10 = jmk h6 20 121 → (jt h10 a0 = 9) ∧ ∀ h13 : jh, h13 = jsr h10 515 a0 (some (jz h6)) → (1 ≤ ((k - 1) - 1)) ∧ (121 ≤ ((n - 121) - 121)) ∧ ∀ h17 : jh, h17 = jmk h13 20 121 → (jt h17 a0 = 9) ∧ ∀ h20 : jh, h20 = jsr h17 516 a0 (some (jz h13)) → (1 ≤ (((k - 1) - 1) - 1)) ∧ (121 ≤ (((n - 121) - 121) - 121)) ∧ ∀ h24 : jh, h24 = jmk h20 20 121 → (jt h24 a0 = 9) ∧ ∀ h27 : jh, h27 = jsr h24 517 a0 (some (jz h20)) → (1 ≤ ((((k - 1) - 1) - 1) - 1)) ∧ (121 ≤ ((((n - 121) - 121) - 121) - 121)) ∧ ∀ h31 : jh, h31 = jmk h27 20 121 → (jt h31 a0 = 9) ∧ ∀ h34 : jh, h34 = jsr h31 518 a0 (some (jz h27)) → (1 ≤ (((((k - 1) - 1) - 1) - 1) - 1)) ∧ (121 ≤ (((((n - 121) - 121) - 121) - 121) - 121)) ∧ ∀ h38 : jh, h38 = jmk h34 20 121 → (jt h38 a0 = 9) ∧ ∀ h41 : jh, h41 = jsr h38 519 a0 (some (jz h34)) → (1 ≤ ((((((k - 1) - 1) - 1) - 1) - 1) - 1)) ∧ (121 ≤ ((((((n - 121) - 121) - 121) - 121) - 121) - 121)) ∧ ∀ h45 : jh, h45 = jmk h41 20 121 → (jt h45 a0 = 9) ∧ ∀ h48 : jh, h48 = jsr h45 520 a0 (some (jz h41)) → (1 ≤ (((((((k - 1) - 1) - 1) - 1) - 1) - 1) - 1)) ∧ (121 ≤ (((((((n - 121) - 121) - 121) - 121) - 121) - 121) - 121)) ∧ ∀ h52 : jh, h52 = jmk h48 20 121 → (jt h52 a0 = 9) ∧ ∀ h55 : jh, h55 = jsr h52 521 a0 (some (jz h48)) → (1 ≤ ((((((((k - 1) - 1) - 1) - 1) - 1) - 1) - 1) - 1)) ∧ (121 ≤ ((((((((n - 121) - 121) - 121) - 121) - 121) - 121) - 121) - 121)) ∧ ∀ h59 : jh, h59 = jmk h55 20 121 → (jt h59 a0 = 9) ∧ ∀ h62 : jh, h62 = jsr h59 522 a0 (some (jz h55)) → (1 ≤ (((((((((k - 1) - 1) - 1) - 1) - 1) - 1) - 1) - 1) - 1)) ∧ (121 ≤ (((((((((n - 121) - 121) - 121) - 121) - 121) - 121) - 121) - 121) - 121)) ∧ ∀ h66 : jh, h66 = jmk h62 24 121 → (jt h66 a0 = 9) ∧ ∀ h69 : jh, h69 = jsr h66 523 a0 (some (jz h62)) → (1 ≤ ((((((((((k - 1) - 1) - 1) - 1) - 1) - 1) - 1) - 1) - 1) - 1)) ∧ (121 ≤ ((((((((((n - 121) - 121) - 121) - 121) - 121) - 121) - 121) - 121) - 121) - 121)) ∧ ∀ h73 : jh, h73 = jmk h69 24 121 → (jt h73 a0 = 9) ∧ ∀ h76 : jh, h76 = jsr h73 524 a0 (some (jz h69)) → (1 ≤ (((((((((((k - 1) - 1) - 1) - 1) - 1) - 1) - 1) - 1) - 1) - 1) - 1)) ∧ (121 ≤ (((((((((((n - 121) - 121) - 121) - 121) - 121) - 121) - 121) - 121) - 121) - 121) - 121)) ∧ ∀ h80 : jh, h80 = jmk h76 20 121 → (jt h80 a0 = 9) ∧ ∀ h83 : jh, h83 = jsr h80 525 a0 (some (jz h76)) → (1 ≤ ((((((((((((k - 1) - 1) - 1) - 1) - 1) - 1) - 1) - 1) - 1) - 1) - 1) - 1)) ∧ (121 ≤ ((((((((((((n - 121) - 121) - 121) - 121) - 121) - 121) - 121) - 121) - 121) - 121) - 121) - 121)) ∧ ∀ h87 : jh, h87 = jmk h83 20 121 → (jt h87 a0 = 9) ∧ ∀ h90 : jh, h90 = jsr h87 526 a0 (some (jz h83)) → (1 ≤ (((((((((((((k - 1) - 1) - 1) - 1) - 1) - 1) - 1) - 1) - 1) - 1) - 1) - 1) - 1)) ∧ (121 ≤ (((((((((((((n - 121) - 121) - 121) - 121) - 121) - 121) - 121) - 121) - 121) - 121) - 121) - 121) - 121)) ∧ ∀ h94 : jh, h94 = jmk h90 20 121 → (jt h94 a0 = 9) ∧ ∀ h97 : jh, h97 = jsr h94 527 a0 (some (jz h90)) → (1 ≤ ((((((((((((((k - 1) - 1) - 1) - 1) - 1) - 1) - 1) - 1) - 1) - 1) - 1) - 1) - 1) - 1)) ∧ (121 ≤ ((((((((((((((n - 121) - 121) - 121) - 121) - 121) - 121) - 121) - 121) - 121) - 121) - 121) - 121) - 121) - 121)) ∧ ∀ h101 : jh, h101 = jmk h97 20 121 → (jt h101 a0 = 9) ∧ ∀ h104 : jh, h104 = jsr h101 528 a0 (some (jz h97)) → (1 ≤ (((((((((((((((k - 1) - 1) - 1) - 1) - 1) - 1) - 1) - 1) - 1) - 1) - 1) - 1) - 1) - 1) - 1)) ∧ (121 ≤ (((((((((((((((n - 121) - 121) - 121) - 121) - 121) - 121) - 121) - 121) - 121) - 121) - 121) - 121) - 121) - 121) - 121)) ∧ ∀ h108 : jh, h108 = jmk h104 20 121 → (jt h108 a0 = 9) ∧ ∀ h111 : jh, h111 = jsr h108 529 a0 (some (jz h104)) → (1 ≤ ((((((((((((((((k - 1) - 1) - 1) - 1) - 1) - 1) - 1) - 1) - 1) - 1) - 1) - 1) - 1) - 1) - 1) - 1)) ∧ (121 ≤ ((((((((((((((((n - 121) - 121) - 121) - 121) - 121) - 121) - 121) - 121) - 121) - 121) - 121) - 121) - 121) - 121) - 121) - 121)) ∧ ∀ h115 : jh, h115 = jmk h111 20 121 → (jt h115 a0 = 9) ∧ ∀ h118 : jh, h118 = jsr h115 530 a0 (some (jz h111)) → (1 ≤ (((((((((((((((((k - 1) - 1) - 1) - 1) - 1) - 1) - 1) - 1) - 1) - 1) - 1) - 1) - 1) - 1) - 1) - 1) - 1)) ∧ (968 ≤ (((((((((((((((((n - 121) - 121) - 121) - 121) - 121) - 121) - 121) - 121) - 121) - 121) - 121) - 121) - 121) - 121) - 121) - 121) - 121)) ∧ ∀ h122 : jh, h122 = jmk h118 20 968 → (jt h122 a0 = 9) ∧ ∀ h125 : jh, h125 = jsr h122 531 a0 (some (jz h118)) → (1 ≤ ((((((((((((((((((k - 1) - 1) - 1) - 1) - 1) - 1) - 1) - 1) - 1) - 1) - 1) - 1) - 1) - 1) - 1) - 1) - 1) - 1)) ∧ (968 ≤ ((((((((((((((((((n - 121) - 121) - 121) - 121) - 121) - 121) - 121) - 121) - 121) - 121) - 121) - 121) - 121) - 121) - 121) - 121) - 121) - 968)) ∧ ∀ h129 : jh, h129 = jmk h125 20 968 → (jt h129 a0 = 9) ∧ ∀ h132 : jh, h132 = jsr h129 532 a0 (some (jz h125)) → ∀ h134 : jh, h134 = jsi h132 534 a0 (1) → (1 ≤ (((((((((((((((((((k - 1) - 1) - 1) - 1) - 1) - 1) - 1) - 1) - 1) - 1) - 1) - 1) - 1) - 1) - 1) - 1) - 1) - 1) - 1)) ∧ (20000 ≤ (((((((((((((((((((n - 121) - 121) - 121) - 121) - 121) - 121) - 121) - 121) - 121) - 121) - 121) - 121) - 121) - 121) - 121) - 121) - 121) - 968) - 968)) ∧ ∀ h138 : jh, h138 = jmk h134 21 20000 → (jt h138 a0 = 9) ∧ ∀ h141 : jh, h141 = jsr h138 538 a0 (some (jz h134)) → (1 ≤ ((((((((((((((((((((k - 1) - 1) - 1) - 1) - 1) - 1) - 1) - 1) - 1) - 1) - 1) - 1) - 1) - 1) - 1) - 1) - 1) - 1) - 1) - 1)) ∧ (121 ≤ ((((((((((((((((((((n - 121) - 121) - 121) - 121) - 121) - 121) - 121) - 121) - 121) - 121) - 121) - 121) - 121) - 121) - 121) - 121) - 121) - 968) - 968) - 20000)) ∧ ∀ h145 : jh, h145 = jmk h141 22 121 → (jt h145 a0 = 9) ∧ ∀ h148 : jh, h148 = jsr h145 539 a0 (some (jz h141)) → (1 ≤ (((((((((((((((((((((k - 1) - 1) - 1) - 1) - 1) - 1) - 1) - 1) - 1) - 1) - 1) - 1) - 1) - 1) - 1) - 1) - 1) - 1) - 1) - 1) - 1)) ∧ (121 ≤ (((((((((((((((((((((n - 121) - 121) - 121) - 121) - 121) - 121) - 121) - 121) - 121) - 121) - 121) - 121) - 121) - 121) - 121) - 121) - 121) - 968) - 968) - 20000) - 121)) ∧ ∀ h152 : jh, h152 = jmk h148 22 121 → (jt h152 a0 = 9) ∧ ∀ h155 : jh, h155 = jsr h152 540 a0 (some (jz h148)) → (1 ≤ ((((((((((((((((((((((k - 1) - 1) - 1) - 1) - 1) - 1) - 1) - 1) - 1) - 1) - 1) - 1) - 1) - 1) - 1) - 1) - 1) - 1) - 1) - 1) - 1) - 1)) ∧ (121 ≤ ((((((((((((((((((((((n - 121) - 121) - 121) - 121) - 121) - 121) - 121) - 121) - 121) - 121) - 121) - 121) - 121) - 121) - 121) - 121) - 121) - 968) - 968) - 20000) - 121) - 121)) ∧ ∀ h159 : jh, h159 = jmk h155 22 121 → (jt h159 a0 = 9) ∧ ∀ h162 : jh, h162 = jsr h159 541 a0 (some (jz h155)) → (1 ≤ (((((((((((((((((((((((k - 1) - 1) - 1) - 1) - 1) - 1) - 1) - 1) - 1) - 1) - 1) - 1) - 1) - 1) - 1) - 1) - 1) - 1) - 1) - 1) - 1) - 1) - 1)) ∧ (121 ≤ (((((((((((((((((((((((n - 121) - 121) - 121) - 121) - 121) - 121) - 121) - 121) - 121) - 121) - 121) - 121) - 121) - 121) - 121) - 121) - 121) - 968) - 968) - 20000) - 121) - 121) - 121)) ∧ ∀ h166 : jh, h166 = jmk h162 22 121 → (jt h166 a0 = 9) ∧ ∀ h169 : jh, h169 = jsr h166 542 a0 (some (jz h162)) → (1 ≤ ((((((((((((((((((((((((k - 1) - 1) - 1) - 1) - 1) - 1) - 1) - 1) - 1) - 1) - 1) - 1) - 1) - 1) - 1) - 1) - 1) - 1) - 1) - 1) - 1) - 1) - 1) - 1)) ∧ (121 ≤ ((((((((((((((((((((((((n - 121) - 121) - 121) - 121) - 121) - 121) - 121) - 121) - 121) - 121) - 121) - 121) - 121) - 121) - 121) - 121) - 121) - 968) - 968) - 20000) - 121) - 121) - 121) - 121)) ∧ ∀ h173 : jh, h173 = jmk h169 22 121 → (jt h173 a0 = 9) ∧ ∀ h176 : jh, h176 = jsr h173 543 a0 (some (jz h169)) → (1 ≤ (((((((((((((((((((((((((k - 1) - 1) - 1) - 1) - 1) - 1) - 1) - 1) - 1) - 1) - 1) - 1) - 1) - 1) - 1) - 1) - 1) - 1) - 1) - 1) - 1) - 1) - 1) - 1) - 1)) ∧ (121 ≤ (((((((((((((((((((((((((n - 121) - 121) - 121) - 121) - 121) - 121) - 121) - 121) - 121) - 121) - 121) - 121) - 121) - 121) - 121) - 121) - 121) - 968) - 968) - 20000) - 121) - 121) - 121) - 121) - 121)) ∧ ∀ h180 : jh, h180 = jmk h176 20 121 → (jt h180 a0 = 9) ∧ ∀ h183 : jh, h183 = jsr h180 544 a0 (some (jz h176)) → (1 ≤ ((((((((((((((((((((((((((k - 1) - 1) - 1) - 1) - 1) - 1) - 1) - 1) - 1) - 1) - 1) - 1) - 1) - 1) - 1) - 1) - 1) - 1) - 1) - 1) - 1) - 1) - 1) - 1) - 1) - 1)) ∧ (4 ≤ ((((((((((((((((((((((((((n - 121) - 121) - 121) - 121) - 121) - 121) - 121) - 121) - 121) - 121) - 121) - 121) - 121) - 121) - 121) - 121) - 121) - 968) - 968) - 20000) - 121) - 121) - 121) - 121) - 121) - 121)) ∧ ∀ h187 : jh, h187 = jmk h183 20 4 → (jt h187 a0 = 9) ∧ ∀ h190 : jh, h190 = jsr h187 545 a0 (some (jz h183)) → Q (.inl none) h190
set_option maxRecDepth 20000 in
theorem vX10_init_0 {g : jg} {a0 : Nat} {h : jh} {k n : Nat} {Q : jq} (hv : VX10_init_0 g a0 h k n Q) : jG g mX10_init 0 [(0, .inr (.inr (some (a0))))] [] h k n Q := by
  unfold VX10_init_0 at hv
  refine jg_aload_n dX10_init_0 rfl (List.Mem.head _) ?_
  refine jg_objInit dX10_init_1 jsn ol_X10_init oi_i oi_c (by decide) (by decide) ?_
  refine jg_aload_n dX10_init_4 rfl (List.Mem.head _) ?_
  refine jg_bipush (v := 121) dX10_init_5 (by decide) ?_
  obtain ⟨f1, hv⟩ := hv
  obtain ⟨f2, hv⟩ := hv
  obtain ⟨h3, e4⟩ : ∃ z : jh, z = jmk h 20 121 := ⟨_, rfl⟩
  replace hv := hv h3 e4
  refine jp_newI dX10_init_7 ja_int (by decide) (by decide) f1 f2 e4 ?_
  obtain ⟨f5, hv⟩ := hv
  obtain ⟨h6, e7⟩ : ∃ z : jh, z = jsr h3 514 a0 (some (jz h)) := ⟨_, rfl⟩
  replace hv := hv h6 e7
  refine jp_putr dX10_init_9 (jfp.fin fl_RX10_7 (fun q hq => by cases hq; exact ⟨rfl, rfl⟩) rfl) rfl jsn f5 e7 ?_
  refine jg_aload_n dX10_init_12 rfl (List.Mem.head _) ?_
  refine jg_bipush (v := 121) dX10_init_13 (by decide) ?_
  obtain ⟨f8, hv⟩ := hv
  obtain ⟨f9, hv⟩ := hv
  obtain ⟨h10, e11⟩ : ∃ z : jh, z = jmk h6 20 121 := ⟨_, rfl⟩
  replace hv := hv h10 e11
  refine jp_newI dX10_init_15 ja_int (by decide) (by decide) f8 f9 e11 ?_
  obtain ⟨f12, hv⟩ := hv
  obtain ⟨h13, e14⟩ : ∃ z : jh, z = jsr h10 515 a0 (some (jz h6)) := ⟨_, rfl⟩
  replace hv := hv h13 e14
  refine jp_putr dX10_init_17 (jfp.fin fl_RX10_13 (fun q hq => by cases hq; exact ⟨rfl, rfl⟩) rfl) rfl jsn f12 e14 ?_
  refine jg_aload_n dX10_init_20 rfl (List.Mem.head _) ?_
  refine jg_bipush (v := 121) dX10_init_21 (by decide) ?_
  obtain ⟨f15, hv⟩ := hv
  obtain ⟨f16, hv⟩ := hv
  obtain ⟨h17, e18⟩ : ∃ z : jh, z = jmk h13 20 121 := ⟨_, rfl⟩
  replace hv := hv h17 e18
  refine jp_newI dX10_init_23 ja_int (by decide) (by decide) f15 f16 e18 ?_
  obtain ⟨f19, hv⟩ := hv
  obtain ⟨h20, e21⟩ : ∃ z : jh, z = jsr h17 516 a0 (some (jz h13)) := ⟨_, rfl⟩
  replace hv := hv h20 e21
  refine jp_putr dX10_init_25 (jfp.fin fl_RX10_16 (fun q hq => by cases hq; exact ⟨rfl, rfl⟩) rfl) rfl jsn f19 e21 ?_
  refine jg_aload_n dX10_init_28 rfl (List.Mem.head _) ?_
  refine jg_bipush (v := 121) dX10_init_29 (by decide) ?_
  obtain ⟨f22, hv⟩ := hv
  obtain ⟨f23, hv⟩ := hv
  obtain ⟨h24, e25⟩ : ∃ z : jh, z = jmk h20 20 121 := ⟨_, rfl⟩
  replace hv := hv h24 e25
  refine jp_newI dX10_init_31 ja_int (by decide) (by decide) f22 f23 e25 ?_
  obtain ⟨f26, hv⟩ := hv
  obtain ⟨h27, e28⟩ : ∃ z : jh, z = jsr h24 517 a0 (some (jz h20)) := ⟨_, rfl⟩
  replace hv := hv h27 e28
  refine jp_putr dX10_init_33 (jfp.fin fl_RX10_19 (fun q hq => by cases hq; exact ⟨rfl, rfl⟩) rfl) rfl jsn f26 e28 ?_
  refine jg_aload_n dX10_init_36 rfl (List.Mem.head _) ?_
  refine jg_bipush (v := 121) dX10_init_37 (by decide) ?_
  obtain ⟨f29, hv⟩ := hv
  obtain ⟨f30, hv⟩ := hv
  obtain ⟨h31, e32⟩ : ∃ z : jh, z = jmk h27 20 121 := ⟨_, rfl⟩
  replace hv := hv h31 e32
  refine jp_newI dX10_init_39 ja_int (by decide) (by decide) f29 f30 e32 ?_
  obtain ⟨f33, hv⟩ := hv
  obtain ⟨h34, e35⟩ : ∃ z : jh, z = jsr h31 518 a0 (some (jz h27)) := ⟨_, rfl⟩
  replace hv := hv h34 e35
  refine jp_putr dX10_init_41 (jfp.fin fl_RX10_22 (fun q hq => by cases hq; exact ⟨rfl, rfl⟩) rfl) rfl jsn f33 e35 ?_
  refine jg_aload_n dX10_init_44 rfl (List.Mem.head _) ?_
  refine jg_bipush (v := 121) dX10_init_45 (by decide) ?_
  obtain ⟨f36, hv⟩ := hv
  obtain ⟨f37, hv⟩ := hv
  obtain ⟨h38, e39⟩ : ∃ z : jh, z = jmk h34 20 121 := ⟨_, rfl⟩
  replace hv := hv h38 e39
  refine jp_newI dX10_init_47 ja_int (by decide) (by decide) f36 f37 e39 ?_
  obtain ⟨f40, hv⟩ := hv
  obtain ⟨h41, e42⟩ : ∃ z : jh, z = jsr h38 519 a0 (some (jz h34)) := ⟨_, rfl⟩
  replace hv := hv h41 e42
  refine jp_putr dX10_init_49 (jfp.fin fl_RX10_25 (fun q hq => by cases hq; exact ⟨rfl, rfl⟩) rfl) rfl jsn f40 e42 ?_
  refine jg_aload_n dX10_init_52 rfl (List.Mem.head _) ?_
  refine jg_bipush (v := 121) dX10_init_53 (by decide) ?_
  obtain ⟨f43, hv⟩ := hv
  obtain ⟨f44, hv⟩ := hv
  obtain ⟨h45, e46⟩ : ∃ z : jh, z = jmk h41 20 121 := ⟨_, rfl⟩
  replace hv := hv h45 e46
  refine jp_newI dX10_init_55 ja_int (by decide) (by decide) f43 f44 e46 ?_
  obtain ⟨f47, hv⟩ := hv
  obtain ⟨h48, e49⟩ : ∃ z : jh, z = jsr h45 520 a0 (some (jz h41)) := ⟨_, rfl⟩
  replace hv := hv h48 e49
  refine jp_putr dX10_init_57 (jfp.fin fl_RX10_28 (fun q hq => by cases hq; exact ⟨rfl, rfl⟩) rfl) rfl jsn f47 e49 ?_
  refine jg_aload_n dX10_init_60 rfl (List.Mem.head _) ?_
  refine jg_bipush (v := 121) dX10_init_61 (by decide) ?_
  obtain ⟨f50, hv⟩ := hv
  obtain ⟨f51, hv⟩ := hv
  obtain ⟨h52, e53⟩ : ∃ z : jh, z = jmk h48 20 121 := ⟨_, rfl⟩
  replace hv := hv h52 e53
  refine jp_newI dX10_init_63 ja_int (by decide) (by decide) f50 f51 e53 ?_
  obtain ⟨f54, hv⟩ := hv
  obtain ⟨h55, e56⟩ : ∃ z : jh, z = jsr h52 521 a0 (some (jz h48)) := ⟨_, rfl⟩
  replace hv := hv h55 e56
  refine jp_putr dX10_init_65 (jfp.fin fl_RX10_31 (fun q hq => by cases hq; exact ⟨rfl, rfl⟩) rfl) rfl jsn f54 e56 ?_
  refine jg_aload_n dX10_init_68 rfl (List.Mem.head _) ?_
  refine jg_bipush (v := 121) dX10_init_69 (by decide) ?_
  obtain ⟨f57, hv⟩ := hv
  obtain ⟨f58, hv⟩ := hv
  obtain ⟨h59, e60⟩ : ∃ z : jh, z = jmk h55 20 121 := ⟨_, rfl⟩
  replace hv := hv h59 e60
  refine jp_newI dX10_init_71 ja_int (by decide) (by decide) f57 f58 e60 ?_
  obtain ⟨f61, hv⟩ := hv
  obtain ⟨h62, e63⟩ : ∃ z : jh, z = jsr h59 522 a0 (some (jz h55)) := ⟨_, rfl⟩
  replace hv := hv h62 e63
  refine jp_putr dX10_init_73 (jfp.fin fl_RX10_34 (fun q hq => by cases hq; exact ⟨rfl, rfl⟩) rfl) rfl jsn f61 e63 ?_
  refine jg_aload_n dX10_init_76 rfl (List.Mem.head _) ?_
  refine jg_bipush (v := 121) dX10_init_77 (by decide) ?_
  obtain ⟨f64, hv⟩ := hv
  obtain ⟨f65, hv⟩ := hv
  obtain ⟨h66, e67⟩ : ∃ z : jh, z = jmk h62 24 121 := ⟨_, rfl⟩
  replace hv := hv h66 e67
  refine jp_newZ dX10_init_79 ja_boolean (by decide) (by decide) f64 f65 e67 ?_
  obtain ⟨f68, hv⟩ := hv
  obtain ⟨h69, e70⟩ : ∃ z : jh, z = jsr h66 523 a0 (some (jz h62)) := ⟨_, rfl⟩
  replace hv := hv h69 e70
  refine jp_putr dX10_init_81 (jfp.fin fl_RX10_37 (fun q hq => by cases hq; exact ⟨rfl, rfl⟩) rfl) rfl jsn f68 e70 ?_
  refine jg_aload_n dX10_init_84 rfl (List.Mem.head _) ?_
  refine jg_bipush (v := 121) dX10_init_85 (by decide) ?_
  obtain ⟨f71, hv⟩ := hv
  obtain ⟨f72, hv⟩ := hv
  obtain ⟨h73, e74⟩ : ∃ z : jh, z = jmk h69 24 121 := ⟨_, rfl⟩
  replace hv := hv h73 e74
  refine jp_newZ dX10_init_87 ja_boolean (by decide) (by decide) f71 f72 e74 ?_
  obtain ⟨f75, hv⟩ := hv
  obtain ⟨h76, e77⟩ : ∃ z : jh, z = jsr h73 524 a0 (some (jz h69)) := ⟨_, rfl⟩
  replace hv := hv h76 e77
  refine jp_putr dX10_init_89 (jfp.fin fl_RX10_41 (fun q hq => by cases hq; exact ⟨rfl, rfl⟩) rfl) rfl jsn f75 e77 ?_
  refine jg_aload_n dX10_init_92 rfl (List.Mem.head _) ?_
  refine jg_bipush (v := 121) dX10_init_93 (by decide) ?_
  obtain ⟨f78, hv⟩ := hv
  obtain ⟨f79, hv⟩ := hv
  obtain ⟨h80, e81⟩ : ∃ z : jh, z = jmk h76 20 121 := ⟨_, rfl⟩
  replace hv := hv h80 e81
  refine jp_newI dX10_init_95 ja_int (by decide) (by decide) f78 f79 e81 ?_
  obtain ⟨f82, hv⟩ := hv
  obtain ⟨h83, e84⟩ : ∃ z : jh, z = jsr h80 525 a0 (some (jz h76)) := ⟨_, rfl⟩
  replace hv := hv h83 e84
  refine jp_putr dX10_init_97 (jfp.fin fl_RX10_44 (fun q hq => by cases hq; exact ⟨rfl, rfl⟩) rfl) rfl jsn f82 e84 ?_
  refine jg_aload_n dX10_init_100 rfl (List.Mem.head _) ?_
  refine jg_bipush (v := 121) dX10_init_101 (by decide) ?_
  obtain ⟨f85, hv⟩ := hv
  obtain ⟨f86, hv⟩ := hv
  obtain ⟨h87, e88⟩ : ∃ z : jh, z = jmk h83 20 121 := ⟨_, rfl⟩
  replace hv := hv h87 e88
  refine jp_newI dX10_init_103 ja_int (by decide) (by decide) f85 f86 e88 ?_
  obtain ⟨f89, hv⟩ := hv
  obtain ⟨h90, e91⟩ : ∃ z : jh, z = jsr h87 526 a0 (some (jz h83)) := ⟨_, rfl⟩
  replace hv := hv h90 e91
  refine jp_putr dX10_init_105 (jfp.fin fl_RX10_47 (fun q hq => by cases hq; exact ⟨rfl, rfl⟩) rfl) rfl jsn f89 e91 ?_
  refine jg_aload_n dX10_init_108 rfl (List.Mem.head _) ?_
  refine jg_bipush (v := 121) dX10_init_109 (by decide) ?_
  obtain ⟨f92, hv⟩ := hv
  obtain ⟨f93, hv⟩ := hv
  obtain ⟨h94, e95⟩ : ∃ z : jh, z = jmk h90 20 121 := ⟨_, rfl⟩
  replace hv := hv h94 e95
  refine jp_newI dX10_init_111 ja_int (by decide) (by decide) f92 f93 e95 ?_
  obtain ⟨f96, hv⟩ := hv
  obtain ⟨h97, e98⟩ : ∃ z : jh, z = jsr h94 527 a0 (some (jz h90)) := ⟨_, rfl⟩
  replace hv := hv h97 e98
  refine jp_putr dX10_init_113 (jfp.fin fl_RX10_50 (fun q hq => by cases hq; exact ⟨rfl, rfl⟩) rfl) rfl jsn f96 e98 ?_
  refine jg_aload_n dX10_init_116 rfl (List.Mem.head _) ?_
  refine jg_bipush (v := 121) dX10_init_117 (by decide) ?_
  obtain ⟨f99, hv⟩ := hv
  obtain ⟨f100, hv⟩ := hv
  obtain ⟨h101, e102⟩ : ∃ z : jh, z = jmk h97 20 121 := ⟨_, rfl⟩
  replace hv := hv h101 e102
  refine jp_newI dX10_init_119 ja_int (by decide) (by decide) f99 f100 e102 ?_
  obtain ⟨f103, hv⟩ := hv
  obtain ⟨h104, e105⟩ : ∃ z : jh, z = jsr h101 528 a0 (some (jz h97)) := ⟨_, rfl⟩
  replace hv := hv h104 e105
  refine jp_putr dX10_init_121 (jfp.fin fl_RX10_53 (fun q hq => by cases hq; exact ⟨rfl, rfl⟩) rfl) rfl jsn f103 e105 ?_
  refine jg_aload_n dX10_init_124 rfl (List.Mem.head _) ?_
  refine jg_bipush (v := 121) dX10_init_125 (by decide) ?_
  obtain ⟨f106, hv⟩ := hv
  obtain ⟨f107, hv⟩ := hv
  obtain ⟨h108, e109⟩ : ∃ z : jh, z = jmk h104 20 121 := ⟨_, rfl⟩
  replace hv := hv h108 e109
  refine jp_newI dX10_init_127 ja_int (by decide) (by decide) f106 f107 e109 ?_
  obtain ⟨f110, hv⟩ := hv
  obtain ⟨h111, e112⟩ : ∃ z : jh, z = jsr h108 529 a0 (some (jz h104)) := ⟨_, rfl⟩
  replace hv := hv h111 e112
  refine jp_putr dX10_init_129 (jfp.fin fl_RX10_56 (fun q hq => by cases hq; exact ⟨rfl, rfl⟩) rfl) rfl jsn f110 e112 ?_
  refine jg_aload_n dX10_init_132 rfl (List.Mem.head _) ?_
  refine jg_bipush (v := 121) dX10_init_133 (by decide) ?_
  obtain ⟨f113, hv⟩ := hv
  obtain ⟨f114, hv⟩ := hv
  obtain ⟨h115, e116⟩ : ∃ z : jh, z = jmk h111 20 121 := ⟨_, rfl⟩
  replace hv := hv h115 e116
  refine jp_newI dX10_init_135 ja_int (by decide) (by decide) f113 f114 e116 ?_
  obtain ⟨f117, hv⟩ := hv
  obtain ⟨h118, e119⟩ : ∃ z : jh, z = jsr h115 530 a0 (some (jz h111)) := ⟨_, rfl⟩
  replace hv := hv h118 e119
  refine jp_putr dX10_init_137 (jfp.fin fl_RX10_59 (fun q hq => by cases hq; exact ⟨rfl, rfl⟩) rfl) rfl jsn f117 e119 ?_
  refine jg_aload_n dX10_init_140 rfl (List.Mem.head _) ?_
  refine jg_sipush (v := 968) dX10_init_141 (by decide) ?_
  obtain ⟨f120, hv⟩ := hv
  obtain ⟨f121, hv⟩ := hv
  obtain ⟨h122, e123⟩ : ∃ z : jh, z = jmk h118 20 968 := ⟨_, rfl⟩
  replace hv := hv h122 e123
  refine jp_newI dX10_init_144 ja_int (by decide) (by decide) f120 f121 e123 ?_
  obtain ⟨f124, hv⟩ := hv
  obtain ⟨h125, e126⟩ : ∃ z : jh, z = jsr h122 531 a0 (some (jz h118)) := ⟨_, rfl⟩
  replace hv := hv h125 e126
  refine jp_putr dX10_init_146 (jfp.fin fl_RX10_62 (fun q hq => by cases hq; exact ⟨rfl, rfl⟩) rfl) rfl jsn f124 e126 ?_
  refine jg_aload_n dX10_init_149 rfl (List.Mem.head _) ?_
  refine jg_sipush (v := 968) dX10_init_150 (by decide) ?_
  obtain ⟨f127, hv⟩ := hv
  obtain ⟨f128, hv⟩ := hv
  obtain ⟨h129, e130⟩ : ∃ z : jh, z = jmk h125 20 968 := ⟨_, rfl⟩
  replace hv := hv h129 e130
  refine jp_newI dX10_init_153 ja_int (by decide) (by decide) f127 f128 e130 ?_
  obtain ⟨f131, hv⟩ := hv
  obtain ⟨h132, e133⟩ : ∃ z : jh, z = jsr h129 532 a0 (some (jz h125)) := ⟨_, rfl⟩
  replace hv := hv h132 e133
  refine jp_putr dX10_init_155 (jfp.fin fl_RX10_65 (fun q hq => by cases hq; exact ⟨rfl, rfl⟩) rfl) rfl jsn f131 e133 ?_
  refine jg_aload_n dX10_init_158 rfl (List.Mem.head _) ?_
  refine jg_iconst (v := 1) dX10_init_159 (by decide) ?_
  obtain ⟨h134, e135⟩ : ∃ z : jh, z = jsi h132 534 a0 (1) := ⟨_, rfl⟩
  replace hv := hv h134 e135
  refine jp_putz dX10_init_160 (jfp.nf fl_RX10_68 (fun q hq => by cases hq; rfl)) rfl jsn ((congrArg (fun z => jt z a0) e133).trans f131) (by decide) e135 ?_
  refine jg_aload_n dX10_init_163 rfl (List.Mem.head _) ?_
  refine jg_sipush (v := 20000) dX10_init_164 (by decide) ?_
  obtain ⟨f136, hv⟩ := hv
  obtain ⟨f137, hv⟩ := hv
  obtain ⟨h138, e139⟩ : ∃ z : jh, z = jmk h134 21 20000 := ⟨_, rfl⟩
  replace hv := hv h138 e139
  refine jp_newB dX10_init_167 ja_byte (by decide) (by decide) f136 f137 e139 ?_
  obtain ⟨f140, hv⟩ := hv
  obtain ⟨h141, e142⟩ : ∃ z : jh, z = jsr h138 538 a0 (some (jz h134)) := ⟨_, rfl⟩
  replace hv := hv h141 e142
  refine jp_putr dX10_init_169 (jfp.fin fl_RX10_72 (fun q hq => by cases hq; exact ⟨rfl, rfl⟩) rfl) rfl jsn f140 e142 ?_
  refine jg_aload_n dX10_init_172 rfl (List.Mem.head _) ?_
  refine jg_bipush (v := 121) dX10_init_173 (by decide) ?_
  obtain ⟨f143, hv⟩ := hv
  obtain ⟨f144, hv⟩ := hv
  obtain ⟨h145, e146⟩ : ∃ z : jh, z = jmk h141 22 121 := ⟨_, rfl⟩
  replace hv := hv h145 e146
  refine jp_newJ dX10_init_175 ja_long (by decide) (by decide) f143 f144 e146 ?_
  obtain ⟨f147, hv⟩ := hv
  obtain ⟨h148, e149⟩ : ∃ z : jh, z = jsr h145 539 a0 (some (jz h141)) := ⟨_, rfl⟩
  replace hv := hv h148 e149
  refine jp_putr dX10_init_177 (jfp.fin fl_RX10_76 (fun q hq => by cases hq; exact ⟨rfl, rfl⟩) rfl) rfl jsn f147 e149 ?_
  refine jg_aload_n dX10_init_180 rfl (List.Mem.head _) ?_
  refine jg_bipush (v := 121) dX10_init_181 (by decide) ?_
  obtain ⟨f150, hv⟩ := hv
  obtain ⟨f151, hv⟩ := hv
  obtain ⟨h152, e153⟩ : ∃ z : jh, z = jmk h148 22 121 := ⟨_, rfl⟩
  replace hv := hv h152 e153
  refine jp_newJ dX10_init_183 ja_long (by decide) (by decide) f150 f151 e153 ?_
  obtain ⟨f154, hv⟩ := hv
  obtain ⟨h155, e156⟩ : ∃ z : jh, z = jsr h152 540 a0 (some (jz h148)) := ⟨_, rfl⟩
  replace hv := hv h155 e156
  refine jp_putr dX10_init_185 (jfp.fin fl_RX10_80 (fun q hq => by cases hq; exact ⟨rfl, rfl⟩) rfl) rfl jsn f154 e156 ?_
  refine jg_aload_n dX10_init_188 rfl (List.Mem.head _) ?_
  refine jg_bipush (v := 121) dX10_init_189 (by decide) ?_
  obtain ⟨f157, hv⟩ := hv
  obtain ⟨f158, hv⟩ := hv
  obtain ⟨h159, e160⟩ : ∃ z : jh, z = jmk h155 22 121 := ⟨_, rfl⟩
  replace hv := hv h159 e160
  refine jp_newJ dX10_init_191 ja_long (by decide) (by decide) f157 f158 e160 ?_
  obtain ⟨f161, hv⟩ := hv
  obtain ⟨h162, e163⟩ : ∃ z : jh, z = jsr h159 541 a0 (some (jz h155)) := ⟨_, rfl⟩
  replace hv := hv h162 e163
  refine jp_putr dX10_init_193 (jfp.fin fl_RX10_83 (fun q hq => by cases hq; exact ⟨rfl, rfl⟩) rfl) rfl jsn f161 e163 ?_
  refine jg_aload_n dX10_init_196 rfl (List.Mem.head _) ?_
  refine jg_bipush (v := 121) dX10_init_197 (by decide) ?_
  obtain ⟨f164, hv⟩ := hv
  obtain ⟨f165, hv⟩ := hv
  obtain ⟨h166, e167⟩ : ∃ z : jh, z = jmk h162 22 121 := ⟨_, rfl⟩
  replace hv := hv h166 e167
  refine jp_newJ dX10_init_199 ja_long (by decide) (by decide) f164 f165 e167 ?_
  obtain ⟨f168, hv⟩ := hv
  obtain ⟨h169, e170⟩ : ∃ z : jh, z = jsr h166 542 a0 (some (jz h162)) := ⟨_, rfl⟩
  replace hv := hv h169 e170
  refine jp_putr dX10_init_201 (jfp.fin fl_RX10_86 (fun q hq => by cases hq; exact ⟨rfl, rfl⟩) rfl) rfl jsn f168 e170 ?_
  refine jg_aload_n dX10_init_204 rfl (List.Mem.head _) ?_
  refine jg_bipush (v := 121) dX10_init_205 (by decide) ?_
  obtain ⟨f171, hv⟩ := hv
  obtain ⟨f172, hv⟩ := hv
  obtain ⟨h173, e174⟩ : ∃ z : jh, z = jmk h169 22 121 := ⟨_, rfl⟩
  replace hv := hv h173 e174
  refine jp_newJ dX10_init_207 ja_long (by decide) (by decide) f171 f172 e174 ?_
  obtain ⟨f175, hv⟩ := hv
  obtain ⟨h176, e177⟩ : ∃ z : jh, z = jsr h173 543 a0 (some (jz h169)) := ⟨_, rfl⟩
  replace hv := hv h176 e177
  refine jp_putr dX10_init_209 (jfp.fin fl_RX10_89 (fun q hq => by cases hq; exact ⟨rfl, rfl⟩) rfl) rfl jsn f175 e177 ?_
  refine jg_aload_n dX10_init_212 rfl (List.Mem.head _) ?_
  refine jg_bipush (v := 121) dX10_init_213 (by decide) ?_
  obtain ⟨f178, hv⟩ := hv
  obtain ⟨f179, hv⟩ := hv
  obtain ⟨h180, e181⟩ : ∃ z : jh, z = jmk h176 20 121 := ⟨_, rfl⟩
  replace hv := hv h180 e181
  refine jp_newI dX10_init_215 ja_int (by decide) (by decide) f178 f179 e181 ?_
  obtain ⟨f182, hv⟩ := hv
  obtain ⟨h183, e184⟩ : ∃ z : jh, z = jsr h180 544 a0 (some (jz h176)) := ⟨_, rfl⟩
  replace hv := hv h183 e184
  refine jp_putr dX10_init_217 (jfp.fin fl_RX10_92 (fun q hq => by cases hq; exact ⟨rfl, rfl⟩) rfl) rfl jsn f182 e184 ?_
  refine jg_aload_n dX10_init_220 rfl (List.Mem.head _) ?_
  refine jg_iconst (v := 4) dX10_init_221 (by decide) ?_
  obtain ⟨f185, hv⟩ := hv
  obtain ⟨f186, hv⟩ := hv
  obtain ⟨h187, e188⟩ : ∃ z : jh, z = jmk h183 20 4 := ⟨_, rfl⟩
  replace hv := hv h187 e188
  refine jp_newI dX10_init_222 ja_int (by decide) (by decide) f185 f186 e188 ?_
  obtain ⟨f189, hv⟩ := hv
  obtain ⟨h190, e191⟩ : ∃ z : jh, z = jsr h187 545 a0 (some (jz h183)) := ⟨_, rfl⟩
  replace hv := hv h190 e191
  refine jp_putr dX10_init_224 (jfp.fin fl_RX10_95 (fun q hq => by cases hq; exact ⟨rfl, rfl⟩) rfl) rfl jsn f189 e191 ?_
  exact jg_vret dX10_init_227 rfl hv
theorem eX10_init {g : jg} {a0 : Nat} {h : jh} {mc ms : Nat} {Q : jq} (hv : VX10_init_0 g a0 h mc ms Q) : jM g mX10_init [.inr (.inr (some (a0)))] h mc ms Q := jM.of (by decide) (Nat.le_of_ble_eq_true rfl) (lv := [(0, .inr (.inr (some (a0))))]) rfl (vX10_init_0 hv)
theorem dX10_thrown_0 : decode cX10_thrown 0 = .ok (.aload_n 0, 1) := by decide +kernel
theorem dX10_thrown_1 : decode cX10_thrown 1 = .ok (.getfield 98, 3) := by decide +kernel
theorem dX10_thrown_4 : decode cX10_thrown 4 = .ok (.ireturn, 1) := by decide +kernel
def VX10_thrown_0 (g : jg) (a0 : Nat) (h : jh) (k n : Nat) (Q : jq) : Prop := (jt h a0 = 9) ∧ Q (.inl (some (.inl (ji h 512 a0)))) h
set_option maxRecDepth 20000 in
theorem vX10_thrown_0 {g : jg} {a0 : Nat} {h : jh} {k n : Nat} {Q : jq} (hv : VX10_thrown_0 g a0 h k n Q) : jG g mX10_thrown 0 [(0, .inr (.inr (some (a0))))] [] h k n Q := by
  unfold VX10_thrown_0 at hv
  refine jg_aload_n dX10_thrown_0 rfl (List.Mem.head _) ?_
  obtain ⟨f1, hv⟩ := hv
  refine jg_geti dX10_thrown_1 fl_RX10_98 rfl jsn f1 ?_
  exact jg_iret dX10_thrown_4 rfl hv
theorem eX10_thrown {g : jg} {a0 : Nat} {h : jh} {mc ms : Nat} {Q : jq} (hv : VX10_thrown_0 g a0 h mc ms Q) : jM g mX10_thrown [.inr (.inr (some (a0)))] h mc ms Q := jM.of (by decide) (Nat.le_of_ble_eq_true rfl) (lv := [(0, .inr (.inr (some (a0))))]) rfl (vX10_thrown_0 hv)
theorem dX10_is_0 : decode cX10_is 0 = .ok (.iload_n 1, 1) := by decide +kernel
theorem dX10_is_1 : decode cX10_is 1 = .ok (.iconst 1, 1) := by decide +kernel
theorem dX10_is_2 : decode cX10_is 2 = .ok (.if_icmp .lt 15, 3) := by decide +kernel
theorem dX10_is_5 : decode cX10_is 5 = .ok (.iload_n 1, 1) := by decide +kernel
theorem dX10_is_6 : decode cX10_is 6 = .ok (.aload_n 0, 1) := by decide +kernel
theorem dX10_is_7 : decode cX10_is 7 = .ok (.getfield 102, 3) := by decide +kernel
theorem dX10_is_10 : decode cX10_is 10 = .ok (.if_icmp .gt 7, 3) := by decide +kernel
theorem dX10_is_13 : decode cX10_is 13 = .ok (.iconst 1, 1) := by decide +kernel
theorem dX10_is_14 : decode cX10_is 14 = .ok (.goto 4, 3) := by decide +kernel
theorem dX10_is_17 : decode cX10_is 17 = .ok (.iconst 0, 1) := by decide +kernel
theorem dX10_is_18 : decode cX10_is 18 = .ok (.ireturn, 1) := by decide +kernel
def VX10_is_0 (g : jg) (a0 : Nat) (x1 : Int32) (h : jh) (k n : Nat) (Q : jq) : Prop := (((x1) < (1) → Q (.inl (some (.inl (0)))) h) ∧ (¬ (x1) < (1) → (jt h a0 = 9) ∧ (((ji h 513 a0) < (x1) → Q (.inl (some (.inl (0)))) h) ∧ (¬ (ji h 513 a0) < (x1) → Q (.inl (some (.inl (1)))) h))))
set_option maxRecDepth 20000 in
theorem vX10_is_0 {g : jg} {a0 : Nat} {x1 : Int32} {h : jh} {k n : Nat} {Q : jq} (hv : VX10_is_0 g a0 x1 h k n Q) : jG g mX10_is 0 [(0, .inr (.inr (some (a0)))), (1, .inl (x1))] [] h k n Q := by
  unfold VX10_is_0 at hv
  refine jg_iload_n dX10_is_0 rfl (List.Mem.tail _ (List.Mem.head _)) ?_
  refine jg_iconst (v := 1) dX10_is_1 (by decide) ?_
  refine jg_icmp_lt (tgt := 17) dX10_is_2 (by decide) (fun c1 => ?_) (fun c1 => ?_)
  · replace hv := hv.1 c1
    refine jg_iconst (v := 0) dX10_is_17 (by decide) ?_
    exact jg_bret dX10_is_18 rfl (by decide) hv
  · replace hv := hv.2 c1
    refine jg_iload_n dX10_is_5 rfl (List.Mem.tail _ (List.Mem.head _)) ?_
    refine jg_aload_n dX10_is_6 rfl (List.Mem.head _) ?_
    obtain ⟨f2, hv⟩ := hv
    refine jg_geti dX10_is_7 fl_RX10_102 rfl jsn f2 ?_
    refine jg_icmp_gt (tgt := 17) dX10_is_10 (by decide) (fun c3 => ?_) (fun c3 => ?_)
    · replace hv := hv.1 c3
      refine jg_iconst (v := 0) dX10_is_17 (by decide) ?_
      exact jg_bret dX10_is_18 rfl (by decide) hv
    · replace hv := hv.2 c3
      refine jg_iconst (v := 1) dX10_is_13 (by decide) ?_
      refine jg_goto (tgt := 18) dX10_is_14 (by decide) ?_
      exact jg_bret dX10_is_18 rfl (by decide) hv
theorem eX10_is {g : jg} {a0 : Nat} {x1 : Int32} {h : jh} {mc ms : Nat} {Q : jq} (hv : VX10_is_0 g a0 x1 h mc ms Q) : jM g mX10_is [.inr (.inr (some (a0))), .inl (x1)] h mc ms Q := jM.of (by decide) (Nat.le_of_ble_eq_true rfl) (lv := [(0, .inr (.inr (some (a0)))), (1, .inl (x1))]) rfl (vX10_is_0 hv)
theorem dX10_lies_0 : decode cX10_lies 0 = .ok (.aload_n 0, 1) := by decide +kernel
theorem dX10_lies_1 : decode cX10_lies 1 = .ok (.getfield 7, 3) := by decide +kernel
theorem dX10_lies_4 : decode cX10_lies 4 = .ok (.iload_n 1, 1) := by decide +kernel
theorem dX10_lies_5 : decode cX10_lies 5 = .ok (.iaload, 1) := by decide +kernel
theorem dX10_lies_6 : decode cX10_lies 6 = .ok (.bipush 50, 2) := by decide +kernel
theorem dX10_lies_8 : decode cX10_lies 8 = .ok (.if_icmp .lt 14, 3) := by decide +kernel
theorem dX10_lies_11 : decode cX10_lies 11 = .ok (.aload_n 0, 1) := by decide +kernel
theorem dX10_lies_12 : decode cX10_lies 12 = .ok (.getfield 7, 3) := by decide +kernel
theorem dX10_lies_15 : decode cX10_lies 15 = .ok (.iload_n 1, 1) := by decide +kernel
theorem dX10_lies_16 : decode cX10_lies 16 = .ok (.iaload, 1) := by decide +kernel
theorem dX10_lies_17 : decode cX10_lies 17 = .ok (.bipush 77, 2) := by decide +kernel
theorem dX10_lies_19 : decode cX10_lies 19 = .ok (.if_icmp .ne 7, 3) := by decide +kernel
theorem dX10_lies_22 : decode cX10_lies 22 = .ok (.iconst 1, 1) := by decide +kernel
theorem dX10_lies_23 : decode cX10_lies 23 = .ok (.goto 4, 3) := by decide +kernel
theorem dX10_lies_26 : decode cX10_lies 26 = .ok (.iconst 0, 1) := by decide +kernel
theorem dX10_lies_27 : decode cX10_lies 27 = .ok (.ireturn, 1) := by decide +kernel
def VX10_lies_0 (g : jg) (a0 : Nat) (x1 : Int32) (h : jh) (k n : Nat) (Q : jq) : Prop := (jt h a0 = 9) ∧ (¬ (jr h 514 a0) = none) ∧ (jt h (jd (jr h 514 a0)) = 20) ∧ (vp_in (x1) (jn h (jd (jr h 514 a0)))) ∧ (((jI h (jd (jr h 514 a0)) (x1 : Int32).toNatClampNeg) < (50) → Q (.inl (some (.inl (1)))) h) ∧ (¬ (jI h (jd (jr h 514 a0)) (x1 : Int32).toNatClampNeg) < (50) → ((¬ (jI h (jd (jr h 514 a0)) (x1 : Int32).toNatClampNeg) = (77) → Q (.inl (some (.inl (0)))) h) ∧ ((jI h (jd (jr h 514 a0)) (x1 : Int32).toNatClampNeg) = (77) → Q (.inl (some (.inl (1)))) h))))
set_option maxRecDepth 20000 in
theorem vX10_lies_0 {g : jg} {a0 : Nat} {x1 : Int32} {h : jh} {k n : Nat} {Q : jq} (hv : VX10_lies_0 g a0 x1 h k n Q) : jG g mX10_lies 0 [(0, .inr (.inr (some (a0)))), (1, .inl (x1))] [] h k n Q := by
  unfold VX10_lies_0 at hv
  refine jg_aload_n dX10_lies_0 rfl (List.Mem.head _) ?_
  obtain ⟨f1, hv⟩ := hv
  refine jg_getr dX10_lies_1 fl_RX10_7 rfl jsn f1 ?_
  refine jg_iload_n dX10_lies_4 rfl (List.Mem.tail _ (List.Mem.head _)) ?_
  obtain ⟨f2, hv⟩ := hv
  obtain ⟨f3, hv⟩ := hv
  obtain ⟨f4, hv⟩ := hv
  refine jg_iald dX10_lies_5 f2 f3 f4 ?_
  refine jg_bipush (v := 50) dX10_lies_6 (by decide) ?_
  refine jg_icmp_lt (tgt := 22) dX10_lies_8 (by decide) (fun c5 => ?_) (fun c5 => ?_)
  · replace hv := hv.1 c5
    refine jg_iconst (v := 1) dX10_lies_22 (by decide) ?_
    refine jg_goto (tgt := 27) dX10_lies_23 (by decide) ?_
    exact jg_bret dX10_lies_27 rfl (by decide) hv
  · replace hv := hv.2 c5
    refine jg_aload_n dX10_lies_11 rfl (List.Mem.head _) ?_
    refine jg_getr dX10_lies_12 fl_RX10_7 rfl jsn f1 ?_
    refine jg_iload_n dX10_lies_15 rfl (List.Mem.tail _ (List.Mem.head _)) ?_
    refine jg_iald dX10_lies_16 f2 f3 f4 ?_
    refine jg_bipush (v := 77) dX10_lies_17 (by decide) ?_
    refine jg_icmp_ne (tgt := 26) dX10_lies_19 (by decide) (fun c6 => ?_) (fun c6 => ?_)
    · replace hv := hv.1 c6
      refine jg_iconst (v := 0) dX10_lies_26 (by decide) ?_
      exact jg_bret dX10_lies_27 rfl (by decide) hv
    · replace hv := hv.2 c6
      refine jg_iconst (v := 1) dX10_lies_22 (by decide) ?_
      refine jg_goto (tgt := 27) dX10_lies_23 (by decide) ?_
      exact jg_bret dX10_lies_27 rfl (by decide) hv
theorem eX10_lies {g : jg} {a0 : Nat} {x1 : Int32} {h : jh} {mc ms : Nat} {Q : jq} (hv : VX10_lies_0 g a0 x1 h mc ms Q) : jM g mX10_lies [.inr (.inr (some (a0))), .inl (x1)] h mc ms Q := jM.of (by decide) (Nat.le_of_ble_eq_true rfl) (lv := [(0, .inr (.inr (some (a0)))), (1, .inl (x1))]) rfl (vX10_lies_0 hv)
theorem dX10_isBelow_0 : decode cX10_isBelow 0 = .ok (.aload_n 0, 1) := by decide +kernel
theorem dX10_isBelow_1 : decode cX10_isBelow 1 = .ok (.getfield 19, 3) := by decide +kernel
theorem dX10_isBelow_4 : decode cX10_isBelow 4 = .ok (.iload_n 1, 1) := by decide +kernel
theorem dX10_isBelow_5 : decode cX10_isBelow 5 = .ok (.iaload, 1) := by decide +kernel
theorem dX10_isBelow_6 : decode cX10_isBelow 6 = .ok (.istore_n 3, 1) := by decide +kernel
theorem dX10_isBelow_7 : decode cX10_isBelow 7 = .ok (.iload_n 3, 1) := by decide +kernel
theorem dX10_isBelow_8 : decode cX10_isBelow 8 = .ok (.ifCond .le 18, 3) := by decide +kernel
theorem dX10_isBelow_11 : decode cX10_isBelow 11 = .ok (.iload_n 3, 1) := by decide +kernel
theorem dX10_isBelow_12 : decode cX10_isBelow 12 = .ok (.iload_n 2, 1) := by decide +kernel
theorem dX10_isBelow_13 : decode cX10_isBelow 13 = .ok (.if_icmp .eq 13, 3) := by decide +kernel
theorem dX10_isBelow_16 : decode cX10_isBelow 16 = .ok (.aload_n 0, 1) := by decide +kernel
theorem dX10_isBelow_17 : decode cX10_isBelow 17 = .ok (.getfield 19, 3) := by decide +kernel
theorem dX10_isBelow_20 : decode cX10_isBelow 20 = .ok (.iload_n 3, 1) := by decide +kernel
theorem dX10_isBelow_21 : decode cX10_isBelow 21 = .ok (.iaload, 1) := by decide +kernel
theorem dX10_isBelow_22 : decode cX10_isBelow 22 = .ok (.istore_n 3, 1) := by decide +kernel
theorem dX10_isBelow_23 : decode cX10_isBelow 23 = .ok (.goto (-16), 3) := by decide +kernel
theorem dX10_isBelow_26 : decode cX10_isBelow 26 = .ok (.iload_n 3, 1) := by decide +kernel
theorem dX10_isBelow_27 : decode cX10_isBelow 27 = .ok (.iload_n 2, 1) := by decide +kernel
theorem dX10_isBelow_28 : decode cX10_isBelow 28 = .ok (.if_icmp .ne 7, 3) := by decide +kernel
theorem dX10_isBelow_31 : decode cX10_isBelow 31 = .ok (.iconst 1, 1) := by decide +kernel
theorem dX10_isBelow_32 : decode cX10_isBelow 32 = .ok (.goto 4, 3) := by decide +kernel
theorem dX10_isBelow_35 : decode cX10_isBelow 35 = .ok (.iconst 0, 1) := by decide +kernel
theorem dX10_isBelow_36 : decode cX10_isBelow 36 = .ok (.ireturn, 1) := by decide +kernel
def VX10_isBelow_7 (g : jg) (a0 : Nat) (x2 : Int32) (x3 : Int32) (h : jh) (k n : Nat) (Q : jq) : Prop := (((x3) ≤ 0 → ((¬ (x3) = (x2) → Q (.inl (some (.inl (0)))) h) ∧ ((x3) = (x2) → Q (.inl (some (.inl (1)))) h))) ∧ (¬ (x3) ≤ 0 → (((x3) = (x2) → ((¬ (x3) = (x2) → Q (.inl (some (.inl (0)))) h) ∧ ((x3) = (x2) → Q (.inl (some (.inl (1)))) h))) ∧ (¬ (x3) = (x2) → (jt h a0 = 9) ∧ (¬ (jr h 517 a0) = none) ∧ (jt h (jd (jr h 517 a0)) = 20) ∧ (vp_in (x3) (jn h (jd (jr h 517 a0)))) ∧ jG g mX10_isBelow 7 [(0, .inr (.inr (some (a0)))), (2, .inl (x2)), (3, .inl (jI h (jd (jr h 517 a0)) (x3 : Int32).toNatClampNeg))] [] h k n Q))))
set_option maxRecDepth 20000 in
theorem vX10_isBelow_7 {g : jg} {a0 : Nat} {x2 : Int32} {x3 : Int32} {h : jh} {k n : Nat} {Q : jq} (hv : VX10_isBelow_7 g a0 x2 x3 h k n Q) : jG g mX10_isBelow 7 [(0, .inr (.inr (some (a0)))), (2, .inl (x2)), (3, .inl (x3))] [] h k n Q := by
  unfold VX10_isBelow_7 at hv
  refine jg_iload_n dX10_isBelow_7 rfl (List.Mem.tail _ (List.Mem.tail _ (List.Mem.head _))) ?_
  refine jg_if_le (tgt := 26) dX10_isBelow_8 (by decide) (fun c1 => ?_) (fun c1 => ?_)
  · replace hv := hv.1 c1
    refine jg_iload_n dX10_isBelow_26 rfl (List.Mem.tail _ (List.Mem.tail _ (List.Mem.head _))) ?_
    refine jg_iload_n dX10_isBelow_27 rfl (List.Mem.tail _ (List.Mem.head _)) ?_
    refine jg_icmp_ne (tgt := 35) dX10_isBelow_28 (by decide) (fun c2 => ?_) (fun c2 => ?_)
    · replace hv := hv.1 c2
      refine jg_iconst (v := 0) dX10_isBelow_35 (by decide) ?_
      exact jg_bret dX10_isBelow_36 rfl (by decide) hv
    · replace hv := hv.2 c2
      refine jg_iconst (v := 1) dX10_isBelow_31 (by decide) ?_
      refine jg_goto (tgt := 36) dX10_isBelow_32 (by decide) ?_
      exact jg_bret dX10_isBelow_36 rfl (by decide) hv
  · replace hv := hv.2 c1
    refine jg_iload_n dX10_isBelow_11 rfl (List.Mem.tail _ (List.Mem.tail _ (List.Mem.head _))) ?_
    refine jg_iload_n dX10_isBelow_12 rfl (List.Mem.tail _ (List.Mem.head _)) ?_
    refine jg_icmp_eq (tgt := 26) dX10_isBelow_13 (by decide) (fun c3 => ?_) (fun c3 => ?_)
    · replace hv := hv.1 c3
      refine jg_iload_n dX10_isBelow_26 rfl (List.Mem.tail _ (List.Mem.tail _ (List.Mem.head _))) ?_
      refine jg_iload_n dX10_isBelow_27 rfl (List.Mem.tail _ (List.Mem.head _)) ?_
      refine jg_icmp_ne (tgt := 35) dX10_isBelow_28 (by decide) (fun c4 => ?_) (fun c4 => ?_)
      · replace hv := hv.1 c4
        refine jg_iconst (v := 0) dX10_isBelow_35 (by decide) ?_
        exact jg_bret dX10_isBelow_36 rfl (by decide) hv
      · replace hv := hv.2 c4
        refine jg_iconst (v := 1) dX10_isBelow_31 (by decide) ?_
        refine jg_goto (tgt := 36) dX10_isBelow_32 (by decide) ?_
        exact jg_bret dX10_isBelow_36 rfl (by decide) hv
    · replace hv := hv.2 c3
      refine jg_aload_n dX10_isBelow_16 rfl (List.Mem.head _) ?_
      obtain ⟨f5, hv⟩ := hv
      refine jg_getr dX10_isBelow_17 fl_RX10_19 rfl jsn f5 ?_
      refine jg_iload_n dX10_isBelow_20 rfl (List.Mem.tail _ (List.Mem.tail _ (List.Mem.head _))) ?_
      obtain ⟨f6, hv⟩ := hv
      obtain ⟨f7, hv⟩ := hv
      obtain ⟨f8, hv⟩ := hv
      refine jg_iald dX10_isBelow_21 f6 f7 f8 ?_
      refine jg_istore_n (lv' := [(3, .inl (jI h (jd (jr h 517 a0)) (x3 : Int32).toNatClampNeg)), (0, .inr (.inr (some (a0)))), (2, .inl (x2))]) dX10_isBelow_22 rfl (by decide) rfl ?_
      refine jg_goto (tgt := 7) dX10_isBelow_23 (by decide) ?_
      refine jG.sub (lv' := [(0, .inr (.inr (some (a0)))), (2, .inl (x2)), (3, .inl (jI h (jd (jr h 517 a0)) (x3 : Int32).toNatClampNeg))]) (by simp) ?_
      exact hv
def VX10_isBelow_0 (g : jg) (a0 : Nat) (x1 : Int32) (x2 : Int32) (h : jh) (k n : Nat) (Q : jq) : Prop := (jt h a0 = 9) ∧ (¬ (jr h 517 a0) = none) ∧ (jt h (jd (jr h 517 a0)) = 20) ∧ (vp_in (x1) (jn h (jd (jr h 517 a0)))) ∧ jG g mX10_isBelow 7 [(0, .inr (.inr (some (a0)))), (2, .inl (x2)), (3, .inl (jI h (jd (jr h 517 a0)) (x1 : Int32).toNatClampNeg))] [] h k n Q
set_option maxRecDepth 20000 in
theorem vX10_isBelow_0 {g : jg} {a0 : Nat} {x1 : Int32} {x2 : Int32} {h : jh} {k n : Nat} {Q : jq} (hv : VX10_isBelow_0 g a0 x1 x2 h k n Q) : jG g mX10_isBelow 0 [(0, .inr (.inr (some (a0)))), (1, .inl (x1)), (2, .inl (x2))] [] h k n Q := by
  unfold VX10_isBelow_0 at hv
  refine jg_aload_n dX10_isBelow_0 rfl (List.Mem.head _) ?_
  obtain ⟨f9, hv⟩ := hv
  refine jg_getr dX10_isBelow_1 fl_RX10_19 rfl jsn f9 ?_
  refine jg_iload_n dX10_isBelow_4 rfl (List.Mem.tail _ (List.Mem.head _)) ?_
  obtain ⟨f10, hv⟩ := hv
  obtain ⟨f11, hv⟩ := hv
  obtain ⟨f12, hv⟩ := hv
  refine jg_iald dX10_isBelow_5 f10 f11 f12 ?_
  refine jg_istore_n (lv' := [(3, .inl (jI h (jd (jr h 517 a0)) (x1 : Int32).toNatClampNeg)), (0, .inr (.inr (some (a0)))), (1, .inl (x1)), (2, .inl (x2))]) dX10_isBelow_6 rfl (by decide) rfl ?_
  refine jG.sub (lv' := [(0, .inr (.inr (some (a0)))), (2, .inl (x2)), (3, .inl (jI h (jd (jr h 517 a0)) (x1 : Int32).toNatClampNeg))]) (by simp) ?_
  exact hv
theorem eX10_isBelow {g : jg} {a0 : Nat} {x1 : Int32} {x2 : Int32} {h : jh} {mc ms : Nat} {Q : jq} (hv : VX10_isBelow_0 g a0 x1 x2 h mc ms Q) : jM g mX10_isBelow [.inr (.inr (some (a0))), .inl (x1), .inl (x2)] h mc ms Q := jM.of (by decide) (Nat.le_of_ble_eq_true rfl) (lv := [(0, .inr (.inr (some (a0)))), (1, .inl (x1)), (2, .inl (x2))]) rfl (vX10_isBelow_0 hv)
theorem dX10_isSize_0 : decode cX10_isSize 0 = .ok (.iload_n 0, 1) := by decide +kernel
theorem dX10_isSize_1 : decode cX10_isSize 1 = .ok (.iconst 1, 1) := by decide +kernel
theorem dX10_isSize_2 : decode cX10_isSize 2 = .ok (.if_icmp .ne 21, 3) := by decide +kernel
theorem dX10_isSize_5 : decode cX10_isSize 5 = .ok (.iload_n 1, 1) := by decide +kernel
theorem dX10_isSize_6 : decode cX10_isSize 6 = .ok (.iconst 1, 1) := by decide +kernel
theorem dX10_isSize_7 : decode cX10_isSize 7 = .ok (.if_icmp .lt 14, 3) := by decide +kernel
theorem dX10_isSize_10 : decode cX10_isSize 10 = .ok (.iload_n 1, 1) := by decide +kernel
theorem dX10_isSize_11 : decode cX10_isSize 11 = .ok (.sipush 200, 3) := by decide +kernel
theorem dX10_isSize_14 : decode cX10_isSize 14 = .ok (.if_icmp .gt 7, 3) := by decide +kernel
theorem dX10_isSize_17 : decode cX10_isSize 17 = .ok (.iconst 1, 1) := by decide +kernel
theorem dX10_isSize_18 : decode cX10_isSize 18 = .ok (.goto 4, 3) := by decide +kernel
theorem dX10_isSize_21 : decode cX10_isSize 21 = .ok (.iconst 0, 1) := by decide +kernel
theorem dX10_isSize_22 : decode cX10_isSize 22 = .ok (.ireturn, 1) := by decide +kernel
theorem dX10_isSize_23 : decode cX10_isSize 23 = .ok (.iload_n 0, 1) := by decide +kernel
theorem dX10_isSize_24 : decode cX10_isSize 24 = .ok (.iconst 2, 1) := by decide +kernel
theorem dX10_isSize_25 : decode cX10_isSize 25 = .ok (.if_icmp .ne 20, 3) := by decide +kernel
theorem dX10_isSize_28 : decode cX10_isSize 28 = .ok (.iload_n 1, 1) := by decide +kernel
theorem dX10_isSize_29 : decode cX10_isSize 29 = .ok (.iconst 1, 1) := by decide +kernel
theorem dX10_isSize_30 : decode cX10_isSize 30 = .ok (.if_icmp .lt 13, 3) := by decide +kernel
theorem dX10_isSize_33 : decode cX10_isSize 33 = .ok (.iload_n 1, 1) := by decide +kernel
theorem dX10_isSize_34 : decode cX10_isSize 34 = .ok (.bipush 100, 2) := by decide +kernel
theorem dX10_isSize_36 : decode cX10_isSize 36 = .ok (.if_icmp .gt 7, 3) := by decide +kernel
theorem dX10_isSize_39 : decode cX10_isSize 39 = .ok (.iconst 1, 1) := by decide +kernel
theorem dX10_isSize_40 : decode cX10_isSize 40 = .ok (.goto 4, 3) := by decide +kernel
theorem dX10_isSize_43 : decode cX10_isSize 43 = .ok (.iconst 0, 1) := by decide +kernel
theorem dX10_isSize_44 : decode cX10_isSize 44 = .ok (.ireturn, 1) := by decide +kernel
theorem dX10_isSize_45 : decode cX10_isSize 45 = .ok (.iload_n 0, 1) := by decide +kernel
theorem dX10_isSize_46 : decode cX10_isSize 46 = .ok (.iconst 3, 1) := by decide +kernel
theorem dX10_isSize_47 : decode cX10_isSize 47 = .ok (.if_icmp .lt 28, 3) := by decide +kernel
theorem dX10_isSize_50 : decode cX10_isSize 50 = .ok (.iload_n 0, 1) := by decide +kernel
theorem dX10_isSize_51 : decode cX10_isSize 51 = .ok (.bipush 8, 2) := by decide +kernel
theorem dX10_isSize_53 : decode cX10_isSize 53 = .ok (.if_icmp .gt 22, 3) := by decide +kernel
theorem dX10_isSize_56 : decode cX10_isSize 56 = .ok (.iload_n 1, 1) := by decide +kernel
theorem dX10_isSize_57 : decode cX10_isSize 57 = .ok (.iconst 1, 1) := by decide +kernel
theorem dX10_isSize_58 : decode cX10_isSize 58 = .ok (.if_icmp .lt 13, 3) := by decide +kernel
theorem dX10_isSize_61 : decode cX10_isSize 61 = .ok (.iload_n 1, 1) := by decide +kernel
theorem dX10_isSize_62 : decode cX10_isSize 62 = .ok (.bipush 18, 2) := by decide +kernel
theorem dX10_isSize_64 : decode cX10_isSize 64 = .ok (.if_icmp .gt 7, 3) := by decide +kernel
theorem dX10_isSize_67 : decode cX10_isSize 67 = .ok (.iconst 1, 1) := by decide +kernel
theorem dX10_isSize_68 : decode cX10_isSize 68 = .ok (.goto 16, 3) := by decide +kernel
theorem dX10_isSize_71 : decode cX10_isSize 71 = .ok (.iconst 0, 1) := by decide +kernel
theorem dX10_isSize_72 : decode cX10_isSize 72 = .ok (.goto 12, 3) := by decide +kernel
theorem dX10_isSize_75 : decode cX10_isSize 75 = .ok (.iload_n 1, 1) := by decide +kernel
theorem dX10_isSize_76 : decode cX10_isSize 76 = .ok (.ifCond .ne 7, 3) := by decide +kernel
theorem dX10_isSize_79 : decode cX10_isSize 79 = .ok (.iconst 1, 1) := by decide +kernel
theorem dX10_isSize_80 : decode cX10_isSize 80 = .ok (.goto 4, 3) := by decide +kernel
theorem dX10_isSize_83 : decode cX10_isSize 83 = .ok (.iconst 0, 1) := by decide +kernel
theorem dX10_isSize_84 : decode cX10_isSize 84 = .ok (.ireturn, 1) := by decide +kernel
def VX10_isSize_0 (g : jg) (x0 : Int32) (x1 : Int32) (h : jh) (k n : Nat) (Q : jq) : Prop := ((¬ (x0) = (1) → ((¬ (x0) = (2) → (((x0) < (3) → ((¬ (x1) = 0 → Q (.inl (some (.inl (0)))) h) ∧ ((x1) = 0 → Q (.inl (some (.inl (1)))) h))) ∧ (¬ (x0) < (3) → (((8 : Int32) < (x0) → ((¬ (x1) = 0 → Q (.inl (some (.inl (0)))) h) ∧ ((x1) = 0 → Q (.inl (some (.inl (1)))) h))) ∧ (¬ (8 : Int32) < (x0) → (((x1) < (1) → Q (.inl (some (.inl (0)))) h) ∧ (¬ (x1) < (1) → (((18 : Int32) < (x1) → Q (.inl (some (.inl (0)))) h) ∧ (¬ (18 : Int32) < (x1) → Q (.inl (some (.inl (1)))) h))))))))) ∧ ((x0) = (2) → (((x1) < (1) → Q (.inl (some (.inl (0)))) h) ∧ (¬ (x1) < (1) → (((100 : Int32) < (x1) → Q (.inl (some (.inl (0)))) h) ∧ (¬ (100 : Int32) < (x1) → Q (.inl (some (.inl (1)))) h))))))) ∧ ((x0) = (1) → (((x1) < (1) → Q (.inl (some (.inl (0)))) h) ∧ (¬ (x1) < (1) → (((200 : Int32) < (x1) → Q (.inl (some (.inl (0)))) h) ∧ (¬ (200 : Int32) < (x1) → Q (.inl (some (.inl (1)))) h))))))
set_option maxRecDepth 20000 in
theorem vX10_isSize_0 {g : jg} {x0 : Int32} {x1 : Int32} {h : jh} {k n : Nat} {Q : jq} (hv : VX10_isSize_0 g x0 x1 h k n Q) : jG g mX10_isSize 0 [(0, .inl (x0)), (1, .inl (x1))] [] h k n Q := by
  unfold VX10_isSize_0 at hv
  refine jg_iload_n dX10_isSize_0 rfl (List.Mem.head _) ?_
  refine jg_iconst (v := 1) dX10_isSize_1 (by decide) ?_
  refine jg_icmp_ne (tgt := 23) dX10_isSize_2 (by decide) (fun c1 => ?_) (fun c1 => ?_)
  · replace hv := hv.1 c1
    refine jg_iload_n dX10_isSize_23 rfl (List.Mem.head _) ?_
    refine jg_iconst (v := 2) dX10_isSize_24 (by decide) ?_
    refine jg_icmp_ne (tgt := 45) dX10_isSize_25 (by decide) (fun c2 => ?_) (fun c2 => ?_)
    · replace hv := hv.1 c2
      refine jg_iload_n dX10_isSize_45 rfl (List.Mem.head _) ?_
      refine jg_iconst (v := 3) dX10_isSize_46 (by decide) ?_
      refine jg_icmp_lt (tgt := 75) dX10_isSize_47 (by decide) (fun c3 => ?_) (fun c3 => ?_)
      · replace hv := hv.1 c3
        refine jg_iload_n dX10_isSize_75 rfl (List.Mem.tail _ (List.Mem.head _)) ?_
        refine jg_if_ne (tgt := 83) dX10_isSize_76 (by decide) (fun c4 => ?_) (fun c4 => ?_)
        · replace hv := hv.1 c4
          refine jg_iconst (v := 0) dX10_isSize_83 (by decide) ?_
          exact jg_bret dX10_isSize_84 rfl (by decide) hv
        · replace hv := hv.2 c4
          refine jg_iconst (v := 1) dX10_isSize_79 (by decide) ?_
          refine jg_goto (tgt := 84) dX10_isSize_80 (by decide) ?_
          exact jg_bret dX10_isSize_84 rfl (by decide) hv
      · replace hv := hv.2 c3
        refine jg_iload_n dX10_isSize_50 rfl (List.Mem.head _) ?_
        refine jg_bipush (v := 8) dX10_isSize_51 (by decide) ?_
        refine jg_icmp_gt (tgt := 75) dX10_isSize_53 (by decide) (fun c5 => ?_) (fun c5 => ?_)
        · replace hv := hv.1 c5
          refine jg_iload_n dX10_isSize_75 rfl (List.Mem.tail _ (List.Mem.head _)) ?_
          refine jg_if_ne (tgt := 83) dX10_isSize_76 (by decide) (fun c6 => ?_) (fun c6 => ?_)
          · replace hv := hv.1 c6
            refine jg_iconst (v := 0) dX10_isSize_83 (by decide) ?_
            exact jg_bret dX10_isSize_84 rfl (by decide) hv
          · replace hv := hv.2 c6
            refine jg_iconst (v := 1) dX10_isSize_79 (by decide) ?_
            refine jg_goto (tgt := 84) dX10_isSize_80 (by decide) ?_
            exact jg_bret dX10_isSize_84 rfl (by decide) hv
        · replace hv := hv.2 c5
          refine jg_iload_n dX10_isSize_56 rfl (List.Mem.tail _ (List.Mem.head _)) ?_
          refine jg_iconst (v := 1) dX10_isSize_57 (by decide) ?_
          refine jg_icmp_lt (tgt := 71) dX10_isSize_58 (by decide) (fun c7 => ?_) (fun c7 => ?_)
          · replace hv := hv.1 c7
            refine jg_iconst (v := 0) dX10_isSize_71 (by decide) ?_
            refine jg_goto (tgt := 84) dX10_isSize_72 (by decide) ?_
            exact jg_bret dX10_isSize_84 rfl (by decide) hv
          · replace hv := hv.2 c7
            refine jg_iload_n dX10_isSize_61 rfl (List.Mem.tail _ (List.Mem.head _)) ?_
            refine jg_bipush (v := 18) dX10_isSize_62 (by decide) ?_
            refine jg_icmp_gt (tgt := 71) dX10_isSize_64 (by decide) (fun c8 => ?_) (fun c8 => ?_)
            · replace hv := hv.1 c8
              refine jg_iconst (v := 0) dX10_isSize_71 (by decide) ?_
              refine jg_goto (tgt := 84) dX10_isSize_72 (by decide) ?_
              exact jg_bret dX10_isSize_84 rfl (by decide) hv
            · replace hv := hv.2 c8
              refine jg_iconst (v := 1) dX10_isSize_67 (by decide) ?_
              refine jg_goto (tgt := 84) dX10_isSize_68 (by decide) ?_
              exact jg_bret dX10_isSize_84 rfl (by decide) hv
    · replace hv := hv.2 c2
      refine jg_iload_n dX10_isSize_28 rfl (List.Mem.tail _ (List.Mem.head _)) ?_
      refine jg_iconst (v := 1) dX10_isSize_29 (by decide) ?_
      refine jg_icmp_lt (tgt := 43) dX10_isSize_30 (by decide) (fun c9 => ?_) (fun c9 => ?_)
      · replace hv := hv.1 c9
        refine jg_iconst (v := 0) dX10_isSize_43 (by decide) ?_
        exact jg_bret dX10_isSize_44 rfl (by decide) hv
      · replace hv := hv.2 c9
        refine jg_iload_n dX10_isSize_33 rfl (List.Mem.tail _ (List.Mem.head _)) ?_
        refine jg_bipush (v := 100) dX10_isSize_34 (by decide) ?_
        refine jg_icmp_gt (tgt := 43) dX10_isSize_36 (by decide) (fun c10 => ?_) (fun c10 => ?_)
        · replace hv := hv.1 c10
          refine jg_iconst (v := 0) dX10_isSize_43 (by decide) ?_
          exact jg_bret dX10_isSize_44 rfl (by decide) hv
        · replace hv := hv.2 c10
          refine jg_iconst (v := 1) dX10_isSize_39 (by decide) ?_
          refine jg_goto (tgt := 44) dX10_isSize_40 (by decide) ?_
          exact jg_bret dX10_isSize_44 rfl (by decide) hv
  · replace hv := hv.2 c1
    refine jg_iload_n dX10_isSize_5 rfl (List.Mem.tail _ (List.Mem.head _)) ?_
    refine jg_iconst (v := 1) dX10_isSize_6 (by decide) ?_
    refine jg_icmp_lt (tgt := 21) dX10_isSize_7 (by decide) (fun c11 => ?_) (fun c11 => ?_)
    · replace hv := hv.1 c11
      refine jg_iconst (v := 0) dX10_isSize_21 (by decide) ?_
      exact jg_bret dX10_isSize_22 rfl (by decide) hv
    · replace hv := hv.2 c11
      refine jg_iload_n dX10_isSize_10 rfl (List.Mem.tail _ (List.Mem.head _)) ?_
      refine jg_sipush (v := 200) dX10_isSize_11 (by decide) ?_
      refine jg_icmp_gt (tgt := 21) dX10_isSize_14 (by decide) (fun c12 => ?_) (fun c12 => ?_)
      · replace hv := hv.1 c12
        refine jg_iconst (v := 0) dX10_isSize_21 (by decide) ?_
        exact jg_bret dX10_isSize_22 rfl (by decide) hv
      · replace hv := hv.2 c12
        refine jg_iconst (v := 1) dX10_isSize_17 (by decide) ?_
        refine jg_goto (tgt := 22) dX10_isSize_18 (by decide) ?_
        exact jg_bret dX10_isSize_22 rfl (by decide) hv
theorem eX10_isSize {g : jg} {x0 : Int32} {x1 : Int32} {h : jh} {mc ms : Nat} {Q : jq} (hv : VX10_isSize_0 g x0 x1 h mc ms Q) : jM g mX10_isSize [.inl (x0), .inl (x1)] h mc ms Q := jM.of (by decide) (Nat.le_of_ble_eq_true rfl) (lv := [(0, .inl (x0)), (1, .inl (x1))]) rfl (vX10_isSize_0 hv)
theorem dX10_above_0 : decode cX10_above 0 = .ok (.aload_n 0, 1) := by decide +kernel
theorem dX10_above_1 : decode cX10_above 1 = .ok (.getfield 102, 3) := by decide +kernel
theorem dX10_above_4 : decode cX10_above 4 = .ok (.ifCond .eq 21, 3) := by decide +kernel
theorem dX10_above_7 : decode cX10_above 7 = .ok (.aload_n 0, 1) := by decide +kernel
theorem dX10_above_8 : decode cX10_above 8 = .ok (.getfield 7, 3) := by decide +kernel
theorem dX10_above_11 : decode cX10_above 11 = .ok (.aload_n 0, 1) := by decide +kernel
theorem dX10_above_12 : decode cX10_above 12 = .ok (.getfield 22, 3) := by decide +kernel
theorem dX10_above_15 : decode cX10_above 15 = .ok (.aload_n 0, 1) := by decide +kernel
theorem dX10_above_16 : decode cX10_above 16 = .ok (.getfield 102, 3) := by decide +kernel
theorem dX10_above_19 : decode cX10_above 19 = .ok (.iaload, 1) := by decide +kernel
theorem dX10_above_20 : decode cX10_above 20 = .ok (.iaload, 1) := by decide +kernel
theorem dX10_above_21 : decode cX10_above 21 = .ok (.iconst 1, 1) := by decide +kernel
theorem dX10_above_22 : decode cX10_above 22 = .ok (.if_icmp .eq 5, 3) := by decide +kernel
theorem dX10_above_25 : decode cX10_above 25 = .ok (.iconst 0, 1) := by decide +kernel
theorem dX10_above_26 : decode cX10_above 26 = .ok (.ireturn, 1) := by decide +kernel
theorem dX10_above_27 : decode cX10_above 27 = .ok (.aload_n 0, 1) := by decide +kernel
theorem dX10_above_28 : decode cX10_above 28 = .ok (.getfield 102, 3) := by decide +kernel
theorem dX10_above_31 : decode cX10_above 31 = .ok (.istore_n 2, 1) := by decide +kernel
theorem dX10_above_32 : decode cX10_above 32 = .ok (.iload_n 2, 1) := by decide +kernel
theorem dX10_above_33 : decode cX10_above 33 = .ok (.aload_n 0, 1) := by decide +kernel
theorem dX10_above_34 : decode cX10_above 34 = .ok (.getfield 22, 3) := by decide +kernel
theorem dX10_above_37 : decode cX10_above 37 = .ok (.aload_n 0, 1) := by decide +kernel
theorem dX10_above_38 : decode cX10_above 38 = .ok (.getfield 102, 3) := by decide +kernel
theorem dX10_above_41 : decode cX10_above 41 = .ok (.iaload, 1) := by decide +kernel
theorem dX10_above_42 : decode cX10_above 42 = .ok (.if_icmp .lt 43, 3) := by decide +kernel
theorem dX10_above_45 : decode cX10_above 45 = .ok (.aload_n 0, 1) := by decide +kernel
theorem dX10_above_46 : decode cX10_above 46 = .ok (.getfield 7, 3) := by decide +kernel
theorem dX10_above_49 : decode cX10_above 49 = .ok (.iload_n 2, 1) := by decide +kernel
theorem dX10_above_50 : decode cX10_above 50 = .ok (.iaload, 1) := by decide +kernel
theorem dX10_above_51 : decode cX10_above 51 = .ok (.bipush 49, 2) := by decide +kernel
theorem dX10_above_53 : decode cX10_above 53 = .ok (.if_icmp .gt 13, 3) := by decide +kernel
theorem dX10_above_56 : decode cX10_above 56 = .ok (.aload_n 0, 1) := by decide +kernel
theorem dX10_above_57 : decode cX10_above 57 = .ok (.getfield 7, 3) := by decide +kernel
theorem dX10_above_60 : decode cX10_above 60 = .ok (.iload_n 2, 1) := by decide +kernel
theorem dX10_above_61 : decode cX10_above 61 = .ok (.iaload, 1) := by decide +kernel
theorem dX10_above_62 : decode cX10_above 62 = .ok (.iload_n 1, 1) := by decide +kernel
theorem dX10_above_63 : decode cX10_above 63 = .ok (.if_icmp .lt 22, 3) := by decide +kernel
theorem dX10_above_66 : decode cX10_above 66 = .ok (.aload_n 0, 1) := by decide +kernel
theorem dX10_above_67 : decode cX10_above 67 = .ok (.getfield 7, 3) := by decide +kernel
theorem dX10_above_70 : decode cX10_above 70 = .ok (.iload_n 2, 1) := by decide +kernel
theorem dX10_above_71 : decode cX10_above 71 = .ok (.iaload, 1) := by decide +kernel
theorem dX10_above_72 : decode cX10_above 72 = .ok (.bipush 66, 2) := by decide +kernel
theorem dX10_above_74 : decode cX10_above 74 = .ok (.if_icmp .ne 5, 3) := by decide +kernel
theorem dX10_above_77 : decode cX10_above 77 = .ok (.iconst 0, 1) := by decide +kernel
theorem dX10_above_78 : decode cX10_above 78 = .ok (.ireturn, 1) := by decide +kernel
theorem dX10_above_79 : decode cX10_above 79 = .ok (.iinc 2 (-1), 3) := by decide +kernel
theorem dX10_above_82 : decode cX10_above 82 = .ok (.goto (-50), 3) := by decide +kernel
theorem dX10_above_85 : decode cX10_above 85 = .ok (.iload_n 2, 1) := by decide +kernel
theorem dX10_above_86 : decode cX10_above 86 = .ok (.aload_n 0, 1) := by decide +kernel
theorem dX10_above_87 : decode cX10_above 87 = .ok (.getfield 22, 3) := by decide +kernel
theorem dX10_above_90 : decode cX10_above 90 = .ok (.aload_n 0, 1) := by decide +kernel
theorem dX10_above_91 : decode cX10_above 91 = .ok (.getfield 102, 3) := by decide +kernel
theorem dX10_above_94 : decode cX10_above 94 = .ok (.iaload, 1) := by decide +kernel
theorem dX10_above_95 : decode cX10_above 95 = .ok (.if_icmp .lt 12, 3) := by decide +kernel
theorem dX10_above_98 : decode cX10_above 98 = .ok (.aload_n 0, 1) := by decide +kernel
theorem dX10_above_99 : decode cX10_above 99 = .ok (.getfield 13, 3) := by decide +kernel
theorem dX10_above_102 : decode cX10_above 102 = .ok (.iload_n 2, 1) := by decide +kernel
theorem dX10_above_103 : decode cX10_above 103 = .ok (.iaload, 1) := by decide +kernel
theorem dX10_above_104 : decode cX10_above 104 = .ok (.ifCond .eq 5, 3) := by decide +kernel
theorem dX10_above_107 : decode cX10_above 107 = .ok (.iconst 0, 1) := by decide +kernel
theorem dX10_above_108 : decode cX10_above 108 = .ok (.ireturn, 1) := by decide +kernel
theorem dX10_above_109 : decode cX10_above 109 = .ok (.iload_n 2, 1) := by decide +kernel
theorem dX10_above_110 : decode cX10_above 110 = .ok (.iconst 1, 1) := by decide +kernel
theorem dX10_above_111 : decode cX10_above 111 = .ok (.iadd, 1) := by decide +kernel
theorem dX10_above_112 : decode cX10_above 112 = .ok (.istore_n 3, 1) := by decide +kernel
theorem dX10_above_113 : decode cX10_above 113 = .ok (.iload_n 3, 1) := by decide +kernel
theorem dX10_above_114 : decode cX10_above 114 = .ok (.aload_n 0, 1) := by decide +kernel
theorem dX10_above_115 : decode cX10_above 115 = .ok (.getfield 102, 3) := by decide +kernel
theorem dX10_above_118 : decode cX10_above 118 = .ok (.if_icmp .gt 39, 3) := by decide +kernel
theorem dX10_above_121 : decode cX10_above 121 = .ok (.aload_n 0, 1) := by decide +kernel
theorem dX10_above_122 : decode cX10_above 122 = .ok (.iload_n 3, 1) := by decide +kernel
theorem dX10_above_123 : decode cX10_above 123 = .ok (.invokevirtual 105, 3) := by decide +kernel
theorem dX10_above_126 : decode cX10_above 126 = .ok (.ifCond .eq 25, 3) := by decide +kernel
theorem dX10_above_129 : decode cX10_above 129 = .ok (.aload_n 0, 1) := by decide +kernel
theorem dX10_above_130 : decode cX10_above 130 = .ok (.getfield 19, 3) := by decide +kernel
theorem dX10_above_133 : decode cX10_above 133 = .ok (.iload_n 3, 1) := by decide +kernel
theorem dX10_above_134 : decode cX10_above 134 = .ok (.iaload, 1) := by decide +kernel
theorem dX10_above_135 : decode cX10_above 135 = .ok (.iload_n 2, 1) := by decide +kernel
theorem dX10_above_136 : decode cX10_above 136 = .ok (.if_icmp .ne 15, 3) := by decide +kernel
theorem dX10_above_139 : decode cX10_above 139 = .ok (.aload_n 0, 1) := by decide +kernel
theorem dX10_above_140 : decode cX10_above 140 = .ok (.getfield 7, 3) := by decide +kernel
theorem dX10_above_143 : decode cX10_above 143 = .ok (.iload_n 3, 1) := by decide +kernel
theorem dX10_above_144 : decode cX10_above 144 = .ok (.iaload, 1) := by decide +kernel
theorem dX10_above_145 : decode cX10_above 145 = .ok (.iload_n 1, 1) := by decide +kernel
theorem dX10_above_146 : decode cX10_above 146 = .ok (.if_icmp .eq 5, 3) := by decide +kernel
theorem dX10_above_149 : decode cX10_above 149 = .ok (.iconst 0, 1) := by decide +kernel
theorem dX10_above_150 : decode cX10_above 150 = .ok (.ireturn, 1) := by decide +kernel
theorem dX10_above_151 : decode cX10_above 151 = .ok (.iinc 3 1, 3) := by decide +kernel
theorem dX10_above_154 : decode cX10_above 154 = .ok (.goto (-41), 3) := by decide +kernel
theorem dX10_above_157 : decode cX10_above 157 = .ok (.iload_n 2, 1) := by decide +kernel
theorem dX10_above_158 : decode cX10_above 158 = .ok (.ireturn, 1) := by decide +kernel
def VX10_above_113 (g : jg) (a0 : Nat) (x1 : Int32) (x2 : Int32) (x3 : Int32) (h : jh) (k n : Nat) (Q : jq) : Prop := (jt h a0 = 9) ∧ (((ji h 513 a0) < (x3) → Q (.inl (some (.inl (x2)))) h) ∧ (¬ (ji h 513 a0) < (x3) → jM g mX10_lies [.inr (.inr (some a0)), .inl (x3)] h 0 0 (jki (fun (r3 : Int32) (h4 : jh) => (((r3) = 0 → jG g mX10_above 113 [(0, .inr (.inr (some (a0)))), (1, .inl (x1)), (2, .inl (x2)), (3, .inl ((x3) + 1))] [] h4 k n Q) ∧ (¬ (r3) = 0 → (jt h4 a0 = 9) ∧ (¬ (jr h4 517 a0) = none) ∧ (jt h4 (jd (jr h4 517 a0)) = 20) ∧ (vp_in (x3) (jn h4 (jd (jr h4 517 a0)))) ∧ ((¬ (jI h4 (jd (jr h4 517 a0)) (x3 : Int32).toNatClampNeg) = (x2) → jG g mX10_above 113 [(0, .inr (.inr (some (a0)))), (1, .inl (x1)), (2, .inl (x2)), (3, .inl ((x3) + 1))] [] h4 k n Q) ∧ ((jI h4 (jd (jr h4 517 a0)) (x3 : Int32).toNatClampNeg) = (x2) → (¬ (jr h4 514 a0) = none) ∧ (jt h4 (jd (jr h4 514 a0)) = 20) ∧ (vp_in (x3) (jn h4 (jd (jr h4 514 a0)))) ∧ (((jI h4 (jd (jr h4 514 a0)) (x3 : Int32).toNatClampNeg) = (x1) → jG g mX10_above 113 [(0, .inr (.inr (some (a0)))), (1, .inl (x1)), (2, .inl (x2)), (3, .inl ((x3) + 1))] [] h4 k n Q) ∧ (¬ (jI h4 (jd (jr h4 514 a0)) (x3 : Int32).toNatClampNeg) = (x1) → Q (.inl (some (.inl (0)))) h4))))))) (fun e h9 => Q (.inr e) h9))))
set_option maxRecDepth 20000 in
theorem vX10_above_113 {g : jg} {a0 : Nat} {x1 : Int32} {x2 : Int32} {x3 : Int32} {h : jh} {k n : Nat} {Q : jq} (hv : VX10_above_113 g a0 x1 x2 x3 h k n Q) : jG g mX10_above 113 [(0, .inr (.inr (some (a0)))), (1, .inl (x1)), (2, .inl (x2)), (3, .inl (x3))] [] h k n Q := by
  unfold VX10_above_113 at hv
  refine jg_iload_n dX10_above_113 rfl (List.Mem.tail _ (List.Mem.tail _ (List.Mem.tail _ (List.Mem.head _)))) ?_
  refine jg_aload_n dX10_above_114 rfl (List.Mem.head _) ?_
  obtain ⟨f1, hv⟩ := hv
  refine jg_geti dX10_above_115 fl_RX10_102 rfl jsn f1 ?_
  refine jg_icmp_gt (tgt := 157) dX10_above_118 (by decide) (fun c2 => ?_) (fun c2 => ?_)
  · replace hv := hv.1 c2
    refine jg_iload_n dX10_above_157 rfl (List.Mem.tail _ (List.Mem.tail _ (List.Mem.head _))) ?_
    exact jg_iret dX10_above_158 rfl hv
  · replace hv := hv.2 c2
    refine jg_aload_n dX10_above_121 rfl (List.Mem.head _) ?_
    refine jg_iload_n dX10_above_122 rfl (List.Mem.tail _ (List.Mem.tail _ (List.Mem.tail _ (List.Mem.head _)))) ?_
    refine jp_callV mX10_lies [.inl (x3)] [] dX10_above_123 rfl cl_RX10_105 ⟨⟨by decide, by decide⟩, by decide⟩ jsn f1 (Nat.zero_le _) (Nat.zero_le _) (jM.mono (jki_k (fun r3 h4 hv => ?_)) hv)
    refine jg_if_eq (tgt := 151) dX10_above_126 (by decide) (fun c5 => ?_) (fun c5 => ?_)
    · replace hv := hv.1 c5
      refine jg_iinc (v := (x3) + 1) (lv' := [(3, .inl ((x3) + 1)), (0, .inr (.inr (some (a0)))), (1, .inl (x1)), (2, .inl (x2))]) dX10_above_151 (List.Mem.tail _ (List.Mem.tail _ (List.Mem.tail _ (List.Mem.head _)))) rfl (by decide) rfl ?_
      refine jg_goto (tgt := 113) dX10_above_154 (by decide) ?_
      refine jG.sub (lv' := [(0, .inr (.inr (some (a0)))), (1, .inl (x1)), (2, .inl (x2)), (3, .inl ((x3) + 1))]) (by simp) ?_
      exact hv
    · replace hv := hv.2 c5
      refine jg_aload_n dX10_above_129 rfl (List.Mem.head _) ?_
      obtain ⟨f6, hv⟩ := hv
      refine jg_getr dX10_above_130 fl_RX10_19 rfl jsn f6 ?_
      refine jg_iload_n dX10_above_133 rfl (List.Mem.tail _ (List.Mem.tail _ (List.Mem.tail _ (List.Mem.head _)))) ?_
      obtain ⟨f7, hv⟩ := hv
      obtain ⟨f8, hv⟩ := hv
      obtain ⟨f9, hv⟩ := hv
      refine jg_iald dX10_above_134 f7 f8 f9 ?_
      refine jg_iload_n dX10_above_135 rfl (List.Mem.tail _ (List.Mem.tail _ (List.Mem.head _))) ?_
      refine jg_icmp_ne (tgt := 151) dX10_above_136 (by decide) (fun c10 => ?_) (fun c10 => ?_)
      · replace hv := hv.1 c10
        refine jg_iinc (v := (x3) + 1) (lv' := [(3, .inl ((x3) + 1)), (0, .inr (.inr (some (a0)))), (1, .inl (x1)), (2, .inl (x2))]) dX10_above_151 (List.Mem.tail _ (List.Mem.tail _ (List.Mem.tail _ (List.Mem.head _)))) rfl (by decide) rfl ?_
        refine jg_goto (tgt := 113) dX10_above_154 (by decide) ?_
        refine jG.sub (lv' := [(0, .inr (.inr (some (a0)))), (1, .inl (x1)), (2, .inl (x2)), (3, .inl ((x3) + 1))]) (by simp) ?_
        exact hv
      · replace hv := hv.2 c10
        refine jg_aload_n dX10_above_139 rfl (List.Mem.head _) ?_
        refine jg_getr dX10_above_140 fl_RX10_7 rfl jsn f6 ?_
        refine jg_iload_n dX10_above_143 rfl (List.Mem.tail _ (List.Mem.tail _ (List.Mem.tail _ (List.Mem.head _)))) ?_
        obtain ⟨f11, hv⟩ := hv
        obtain ⟨f12, hv⟩ := hv
        obtain ⟨f13, hv⟩ := hv
        refine jg_iald dX10_above_144 f11 f12 f13 ?_
        refine jg_iload_n dX10_above_145 rfl (List.Mem.tail _ (List.Mem.head _)) ?_
        refine jg_icmp_eq (tgt := 151) dX10_above_146 (by decide) (fun c14 => ?_) (fun c14 => ?_)
        · replace hv := hv.1 c14
          refine jg_iinc (v := (x3) + 1) (lv' := [(3, .inl ((x3) + 1)), (0, .inr (.inr (some (a0)))), (1, .inl (x1)), (2, .inl (x2))]) dX10_above_151 (List.Mem.tail _ (List.Mem.tail _ (List.Mem.tail _ (List.Mem.head _)))) rfl (by decide) rfl ?_
          refine jg_goto (tgt := 113) dX10_above_154 (by decide) ?_
          refine jG.sub (lv' := [(0, .inr (.inr (some (a0)))), (1, .inl (x1)), (2, .inl (x2)), (3, .inl ((x3) + 1))]) (by simp) ?_
          exact hv
        · replace hv := hv.2 c14
          refine jg_iconst (v := 0) dX10_above_149 (by decide) ?_
          exact jg_iret dX10_above_150 rfl hv
def VX10_above_85 (g : jg) (a0 : Nat) (x1 : Int32) (x2 : Int32) (h : jh) (k n : Nat) (Q : jq) : Prop := (jt h a0 = 9) ∧ (¬ (jr h 518 a0) = none) ∧ (jt h (jd (jr h 518 a0)) = 20) ∧ (vp_in (ji h 513 a0) (jn h (jd (jr h 518 a0)))) ∧ (((x2) < (jI h (jd (jr h 518 a0)) (ji h 513 a0 : Int32).toNatClampNeg) → Q (.inl (some (.inl (0)))) h) ∧ (¬ (x2) < (jI h (jd (jr h 518 a0)) (ji h 513 a0 : Int32).toNatClampNeg) → (¬ (jr h 515 a0) = none) ∧ (jt h (jd (jr h 515 a0)) = 20) ∧ (vp_in (x2) (jn h (jd (jr h 515 a0)))) ∧ (((jI h (jd (jr h 515 a0)) (x2 : Int32).toNatClampNeg) = 0 → jG g mX10_above 113 [(0, .inr (.inr (some (a0)))), (1, .inl (x1)), (2, .inl (x2)), (3, .inl ((x2) + (1)))] [] h k n Q) ∧ (¬ (jI h (jd (jr h 515 a0)) (x2 : Int32).toNatClampNeg) = 0 → Q (.inl (some (.inl (0)))) h))))
set_option maxRecDepth 20000 in
theorem vX10_above_85 {g : jg} {a0 : Nat} {x1 : Int32} {x2 : Int32} {h : jh} {k n : Nat} {Q : jq} (hv : VX10_above_85 g a0 x1 x2 h k n Q) : jG g mX10_above 85 [(0, .inr (.inr (some (a0)))), (1, .inl (x1)), (2, .inl (x2))] [] h k n Q := by
  unfold VX10_above_85 at hv
  refine jg_iload_n dX10_above_85 rfl (List.Mem.tail _ (List.Mem.tail _ (List.Mem.head _))) ?_
  refine jg_aload_n dX10_above_86 rfl (List.Mem.head _) ?_
  obtain ⟨f15, hv⟩ := hv
  refine jg_getr dX10_above_87 fl_RX10_22 rfl jsn f15 ?_
  refine jg_aload_n dX10_above_90 rfl (List.Mem.head _) ?_
  refine jg_geti dX10_above_91 fl_RX10_102 rfl jsn f15 ?_
  obtain ⟨f16, hv⟩ := hv
  obtain ⟨f17, hv⟩ := hv
  obtain ⟨f18, hv⟩ := hv
  refine jg_iald dX10_above_94 f16 f17 f18 ?_
  refine jg_icmp_lt (tgt := 107) dX10_above_95 (by decide) (fun c19 => ?_) (fun c19 => ?_)
  · replace hv := hv.1 c19
    refine jg_iconst (v := 0) dX10_above_107 (by decide) ?_
    exact jg_iret dX10_above_108 rfl hv
  · replace hv := hv.2 c19
    refine jg_aload_n dX10_above_98 rfl (List.Mem.head _) ?_
    refine jg_getr dX10_above_99 fl_RX10_13 rfl jsn f15 ?_
    refine jg_iload_n dX10_above_102 rfl (List.Mem.tail _ (List.Mem.tail _ (List.Mem.head _))) ?_
    obtain ⟨f20, hv⟩ := hv
    obtain ⟨f21, hv⟩ := hv
    obtain ⟨f22, hv⟩ := hv
    refine jg_iald dX10_above_103 f20 f21 f22 ?_
    refine jg_if_eq (tgt := 109) dX10_above_104 (by decide) (fun c23 => ?_) (fun c23 => ?_)
    · replace hv := hv.1 c23
      refine jg_iload_n dX10_above_109 rfl (List.Mem.tail _ (List.Mem.tail _ (List.Mem.head _))) ?_
      refine jg_iconst (v := 1) dX10_above_110 (by decide) ?_
      refine jg_iadd dX10_above_111 ?_
      refine jg_istore_n (lv' := [(3, .inl ((x2) + (1))), (0, .inr (.inr (some (a0)))), (1, .inl (x1)), (2, .inl (x2))]) dX10_above_112 rfl (by decide) rfl ?_
      refine jG.sub (lv' := [(0, .inr (.inr (some (a0)))), (1, .inl (x1)), (2, .inl (x2)), (3, .inl ((x2) + (1)))]) (by simp) ?_
      exact hv
    · replace hv := hv.2 c23
      refine jg_iconst (v := 0) dX10_above_107 (by decide) ?_
      exact jg_iret dX10_above_108 rfl hv
def VX10_above_66 (g : jg) (a0 : Nat) (x1 : Int32) (x2 : Int32) (h : jh) (k n : Nat) (Q : jq) : Prop := (jt h a0 = 9) ∧ (¬ (jr h 514 a0) = none) ∧ (jt h (jd (jr h 514 a0)) = 20) ∧ (vp_in (x2) (jn h (jd (jr h 514 a0)))) ∧ ((¬ (jI h (jd (jr h 514 a0)) (x2 : Int32).toNatClampNeg) = (66) → jG g mX10_above 32 [(0, .inr (.inr (some (a0)))), (1, .inl (x1)), (2, .inl ((x2) + (-1)))] [] h k n Q) ∧ ((jI h (jd (jr h 514 a0)) (x2 : Int32).toNatClampNeg) = (66) → Q (.inl (some (.inl (0)))) h))
set_option maxRecDepth 20000 in
theorem vX10_above_66 {g : jg} {a0 : Nat} {x1 : Int32} {x2 : Int32} {h : jh} {k n : Nat} {Q : jq} (hv : VX10_above_66 g a0 x1 x2 h k n Q) : jG g mX10_above 66 [(0, .inr (.inr (some (a0)))), (1, .inl (x1)), (2, .inl (x2))] [] h k n Q := by
  unfold VX10_above_66 at hv
  refine jg_aload_n dX10_above_66 rfl (List.Mem.head _) ?_
  obtain ⟨f24, hv⟩ := hv
  refine jg_getr dX10_above_67 fl_RX10_7 rfl jsn f24 ?_
  refine jg_iload_n dX10_above_70 rfl (List.Mem.tail _ (List.Mem.tail _ (List.Mem.head _))) ?_
  obtain ⟨f25, hv⟩ := hv
  obtain ⟨f26, hv⟩ := hv
  obtain ⟨f27, hv⟩ := hv
  refine jg_iald dX10_above_71 f25 f26 f27 ?_
  refine jg_bipush (v := 66) dX10_above_72 (by decide) ?_
  refine jg_icmp_ne (tgt := 79) dX10_above_74 (by decide) (fun c28 => ?_) (fun c28 => ?_)
  · replace hv := hv.1 c28
    refine jg_iinc (v := (x2) + (-1)) (lv' := [(2, .inl ((x2) + (-1))), (0, .inr (.inr (some (a0)))), (1, .inl (x1))]) dX10_above_79 (List.Mem.tail _ (List.Mem.tail _ (List.Mem.head _))) rfl (by decide) rfl ?_
    refine jg_goto (tgt := 32) dX10_above_82 (by decide) ?_
    refine jG.sub (lv' := [(0, .inr (.inr (some (a0)))), (1, .inl (x1)), (2, .inl ((x2) + (-1)))]) (by simp) ?_
    exact hv
  · replace hv := hv.2 c28
    refine jg_iconst (v := 0) dX10_above_77 (by decide) ?_
    exact jg_iret dX10_above_78 rfl hv
def VX10_above_32 (g : jg) (a0 : Nat) (x1 : Int32) (x2 : Int32) (h : jh) (k n : Nat) (Q : jq) : Prop := (jt h a0 = 9) ∧ (¬ (jr h 518 a0) = none) ∧ (jt h (jd (jr h 518 a0)) = 20) ∧ (vp_in (ji h 513 a0) (jn h (jd (jr h 518 a0)))) ∧ (((x2) < (jI h (jd (jr h 518 a0)) (ji h 513 a0 : Int32).toNatClampNeg) → VX10_above_85 g (a0) (x1) (x2) h k n Q) ∧ (¬ (x2) < (jI h (jd (jr h 518 a0)) (ji h 513 a0 : Int32).toNatClampNeg) → (¬ (jr h 514 a0) = none) ∧ (jt h (jd (jr h 514 a0)) = 20) ∧ (vp_in (x2) (jn h (jd (jr h 514 a0)))) ∧ (((49 : Int32) < (jI h (jd (jr h 514 a0)) (x2 : Int32).toNatClampNeg) → VX10_above_66 g (a0) (x1) (x2) h k n Q) ∧ (¬ (49 : Int32) < (jI h (jd (jr h 514 a0)) (x2 : Int32).toNatClampNeg) → (((jI h (jd (jr h 514 a0)) (x2 : Int32).toNatClampNeg) < (x1) → VX10_above_85 g (a0) (x1) (x2) h k n Q) ∧ (¬ (jI h (jd (jr h 514 a0)) (x2 : Int32).toNatClampNeg) < (x1) → VX10_above_66 g (a0) (x1) (x2) h k n Q))))))
set_option maxRecDepth 20000 in
theorem vX10_above_32 {g : jg} {a0 : Nat} {x1 : Int32} {x2 : Int32} {h : jh} {k n : Nat} {Q : jq} (hv : VX10_above_32 g a0 x1 x2 h k n Q) : jG g mX10_above 32 [(0, .inr (.inr (some (a0)))), (1, .inl (x1)), (2, .inl (x2))] [] h k n Q := by
  unfold VX10_above_32 at hv
  refine jg_iload_n dX10_above_32 rfl (List.Mem.tail _ (List.Mem.tail _ (List.Mem.head _))) ?_
  refine jg_aload_n dX10_above_33 rfl (List.Mem.head _) ?_
  obtain ⟨f29, hv⟩ := hv
  refine jg_getr dX10_above_34 fl_RX10_22 rfl jsn f29 ?_
  refine jg_aload_n dX10_above_37 rfl (List.Mem.head _) ?_
  refine jg_geti dX10_above_38 fl_RX10_102 rfl jsn f29 ?_
  obtain ⟨f30, hv⟩ := hv
  obtain ⟨f31, hv⟩ := hv
  obtain ⟨f32, hv⟩ := hv
  refine jg_iald dX10_above_41 f30 f31 f32 ?_
  refine jg_icmp_lt (tgt := 85) dX10_above_42 (by decide) (fun c33 => ?_) (fun c33 => ?_)
  · replace hv := hv.1 c33
    exact vX10_above_85 hv
  · replace hv := hv.2 c33
    refine jg_aload_n dX10_above_45 rfl (List.Mem.head _) ?_
    refine jg_getr dX10_above_46 fl_RX10_7 rfl jsn f29 ?_
    refine jg_iload_n dX10_above_49 rfl (List.Mem.tail _ (List.Mem.tail _ (List.Mem.head _))) ?_
    obtain ⟨f34, hv⟩ := hv
    obtain ⟨f35, hv⟩ := hv
    obtain ⟨f36, hv⟩ := hv
    refine jg_iald dX10_above_50 f34 f35 f36 ?_
    refine jg_bipush (v := 49) dX10_above_51 (by decide) ?_
    refine jg_icmp_gt (tgt := 66) dX10_above_53 (by decide) (fun c37 => ?_) (fun c37 => ?_)
    · replace hv := hv.1 c37
      exact vX10_above_66 hv
    · replace hv := hv.2 c37
      refine jg_aload_n dX10_above_56 rfl (List.Mem.head _) ?_
      refine jg_getr dX10_above_57 fl_RX10_7 rfl jsn f29 ?_
      refine jg_iload_n dX10_above_60 rfl (List.Mem.tail _ (List.Mem.tail _ (List.Mem.head _))) ?_
      refine jg_iald dX10_above_61 f34 f35 f36 ?_
      refine jg_iload_n dX10_above_62 rfl (List.Mem.tail _ (List.Mem.head _)) ?_
      refine jg_icmp_lt (tgt := 85) dX10_above_63 (by decide) (fun c38 => ?_) (fun c38 => ?_)
      · replace hv := hv.1 c38
        exact vX10_above_85 hv
      · replace hv := hv.2 c38
        exact vX10_above_66 hv
def VX10_above_0 (g : jg) (a0 : Nat) (x1 : Int32) (h : jh) (k n : Nat) (Q : jq) : Prop := (jt h a0 = 9) ∧ (((ji h 513 a0) = 0 → Q (.inl (some (.inl (0)))) h) ∧ (¬ (ji h 513 a0) = 0 → (¬ (jr h 518 a0) = none) ∧ (jt h (jd (jr h 518 a0)) = 20) ∧ (vp_in (ji h 513 a0) (jn h (jd (jr h 518 a0)))) ∧ (¬ (jr h 514 a0) = none) ∧ (jt h (jd (jr h 514 a0)) = 20) ∧ (vp_in (jI h (jd (jr h 518 a0)) (ji h 513 a0 : Int32).toNatClampNeg) (jn h (jd (jr h 514 a0)))) ∧ (((jI h (jd (jr h 514 a0)) (jI h (jd (jr h 518 a0)) (ji h 513 a0 : Int32).toNatClampNeg : Int32).toNatClampNeg) = (1) → jG g mX10_above 32 [(0, .inr (.inr (some (a0)))), (1, .inl (x1)), (2, .inl (ji h 513 a0))] [] h k n Q) ∧ (¬ (jI h (jd (jr h 514 a0)) (jI h (jd (jr h 518 a0)) (ji h 513 a0 : Int32).toNatClampNeg : Int32).toNatClampNeg) = (1) → Q (.inl (some (.inl (0)))) h))))
set_option maxRecDepth 20000 in
theorem vX10_above_0 {g : jg} {a0 : Nat} {x1 : Int32} {h : jh} {k n : Nat} {Q : jq} (hv : VX10_above_0 g a0 x1 h k n Q) : jG g mX10_above 0 [(0, .inr (.inr (some (a0)))), (1, .inl (x1))] [] h k n Q := by
  unfold VX10_above_0 at hv
  refine jg_aload_n dX10_above_0 rfl (List.Mem.head _) ?_
  obtain ⟨f39, hv⟩ := hv
  refine jg_geti dX10_above_1 fl_RX10_102 rfl jsn f39 ?_
  refine jg_if_eq (tgt := 25) dX10_above_4 (by decide) (fun c40 => ?_) (fun c40 => ?_)
  · replace hv := hv.1 c40
    refine jg_iconst (v := 0) dX10_above_25 (by decide) ?_
    exact jg_iret dX10_above_26 rfl hv
  · replace hv := hv.2 c40
    refine jg_aload_n dX10_above_7 rfl (List.Mem.head _) ?_
    refine jg_getr dX10_above_8 fl_RX10_7 rfl jsn f39 ?_
    refine jg_aload_n dX10_above_11 rfl (List.Mem.head _) ?_
    refine jg_getr dX10_above_12 fl_RX10_22 rfl jsn f39 ?_
    refine jg_aload_n dX10_above_15 rfl (List.Mem.head _) ?_
    refine jg_geti dX10_above_16 fl_RX10_102 rfl jsn f39 ?_
    obtain ⟨f41, hv⟩ := hv
    obtain ⟨f42, hv⟩ := hv
    obtain ⟨f43, hv⟩ := hv
    refine jg_iald dX10_above_19 f41 f42 f43 ?_
    obtain ⟨f44, hv⟩ := hv
    obtain ⟨f45, hv⟩ := hv
    obtain ⟨f46, hv⟩ := hv
    refine jg_iald dX10_above_20 f44 f45 f46 ?_
    refine jg_iconst (v := 1) dX10_above_21 (by decide) ?_
    refine jg_icmp_eq (tgt := 27) dX10_above_22 (by decide) (fun c47 => ?_) (fun c47 => ?_)
    · replace hv := hv.1 c47
      refine jg_aload_n dX10_above_27 rfl (List.Mem.head _) ?_
      refine jg_geti dX10_above_28 fl_RX10_102 rfl jsn f39 ?_
      refine jg_istore_n (lv' := [(2, .inl (ji h 513 a0)), (0, .inr (.inr (some (a0)))), (1, .inl (x1))]) dX10_above_31 rfl (by decide) rfl ?_
      refine jG.sub (lv' := [(0, .inr (.inr (some (a0)))), (1, .inl (x1)), (2, .inl (ji h 513 a0))]) (by simp) ?_
      exact hv
    · replace hv := hv.2 c47
      refine jg_iconst (v := 0) dX10_above_25 (by decide) ?_
      exact jg_iret dX10_above_26 rfl hv
theorem eX10_above {g : jg} {a0 : Nat} {x1 : Int32} {h : jh} {mc ms : Nat} {Q : jq} (hv : VX10_above_0 g a0 x1 h mc ms Q) : jM g mX10_above [.inr (.inr (some (a0))), .inl (x1)] h mc ms Q := jM.of (by decide) (Nat.le_of_ble_eq_true rfl) (lv := [(0, .inr (.inr (some (a0)))), (1, .inl (x1))]) rfl (vX10_above_0 hv)
theorem dX10_named_0 : decode cX10_named 0 = .ok (.aload_n 0, 1) := by decide +kernel
theorem dX10_named_1 : decode cX10_named 1 = .ok (.getfield 102, 3) := by decide +kernel
theorem dX10_named_4 : decode cX10_named 4 = .ok (.istore_n 1, 1) := by decide +kernel
theorem dX10_named_5 : decode cX10_named 5 = .ok (.iload_n 1, 1) := by decide +kernel
theorem dX10_named_6 : decode cX10_named 6 = .ok (.ifCond .le 20, 3) := by decide +kernel
theorem dX10_named_9 : decode cX10_named 9 = .ok (.aload_n 0, 1) := by decide +kernel
theorem dX10_named_10 : decode cX10_named 10 = .ok (.getfield 7, 3) := by decide +kernel
theorem dX10_named_13 : decode cX10_named 13 = .ok (.iload_n 1, 1) := by decide +kernel
theorem dX10_named_14 : decode cX10_named 14 = .ok (.iaload, 1) := by decide +kernel
theorem dX10_named_15 : decode cX10_named 15 = .ok (.bipush 88, 2) := by decide +kernel
theorem dX10_named_17 : decode cX10_named 17 = .ok (.if_icmp .ne 9, 3) := by decide +kernel
theorem dX10_named_20 : decode cX10_named 20 = .ok (.iinc 1 (-1), 3) := by decide +kernel
theorem dX10_named_23 : decode cX10_named 23 = .ok (.goto (-18), 3) := by decide +kernel
theorem dX10_named_26 : decode cX10_named 26 = .ok (.iload_n 1, 1) := by decide +kernel
theorem dX10_named_27 : decode cX10_named 27 = .ok (.ifCond .le 28, 3) := by decide +kernel
theorem dX10_named_30 : decode cX10_named 30 = .ok (.aload_n 0, 1) := by decide +kernel
theorem dX10_named_31 : decode cX10_named 31 = .ok (.getfield 13, 3) := by decide +kernel
theorem dX10_named_34 : decode cX10_named 34 = .ok (.iload_n 1, 1) := by decide +kernel
theorem dX10_named_35 : decode cX10_named 35 = .ok (.iaload, 1) := by decide +kernel
theorem dX10_named_36 : decode cX10_named 36 = .ok (.iconst 3, 1) := by decide +kernel
theorem dX10_named_37 : decode cX10_named 37 = .ok (.if_icmp .lt 18, 3) := by decide +kernel
theorem dX10_named_40 : decode cX10_named 40 = .ok (.aload_n 0, 1) := by decide +kernel
theorem dX10_named_41 : decode cX10_named 41 = .ok (.getfield 13, 3) := by decide +kernel
theorem dX10_named_44 : decode cX10_named 44 = .ok (.iload_n 1, 1) := by decide +kernel
theorem dX10_named_45 : decode cX10_named 45 = .ok (.iaload, 1) := by decide +kernel
theorem dX10_named_46 : decode cX10_named 46 = .ok (.bipush 8, 2) := by decide +kernel
theorem dX10_named_48 : decode cX10_named 48 = .ok (.if_icmp .gt 7, 3) := by decide +kernel
theorem dX10_named_51 : decode cX10_named 51 = .ok (.iload_n 1, 1) := by decide +kernel
theorem dX10_named_52 : decode cX10_named 52 = .ok (.goto 4, 3) := by decide +kernel
theorem dX10_named_55 : decode cX10_named 55 = .ok (.iconst 0, 1) := by decide +kernel
theorem dX10_named_56 : decode cX10_named 56 = .ok (.ireturn, 1) := by decide +kernel
def VX10_named_26 (g : jg) (a0 : Nat) (x1 : Int32) (h : jh) (k n : Nat) (Q : jq) : Prop := (((x1) ≤ 0 → Q (.inl (some (.inl (0)))) h) ∧ (¬ (x1) ≤ 0 → (jt h a0 = 9) ∧ (¬ (jr h 515 a0) = none) ∧ (jt h (jd (jr h 515 a0)) = 20) ∧ (vp_in (x1) (jn h (jd (jr h 515 a0)))) ∧ (((jI h (jd (jr h 515 a0)) (x1 : Int32).toNatClampNeg) < (3) → Q (.inl (some (.inl (0)))) h) ∧ (¬ (jI h (jd (jr h 515 a0)) (x1 : Int32).toNatClampNeg) < (3) → (((8 : Int32) < (jI h (jd (jr h 515 a0)) (x1 : Int32).toNatClampNeg) → Q (.inl (some (.inl (0)))) h) ∧ (¬ (8 : Int32) < (jI h (jd (jr h 515 a0)) (x1 : Int32).toNatClampNeg) → Q (.inl (some (.inl (x1)))) h))))))
set_option maxRecDepth 20000 in
theorem vX10_named_26 {g : jg} {a0 : Nat} {x1 : Int32} {h : jh} {k n : Nat} {Q : jq} (hv : VX10_named_26 g a0 x1 h k n Q) : jG g mX10_named 26 [(0, .inr (.inr (some (a0)))), (1, .inl (x1))] [] h k n Q := by
  unfold VX10_named_26 at hv
  refine jg_iload_n dX10_named_26 rfl (List.Mem.tail _ (List.Mem.head _)) ?_
  refine jg_if_le (tgt := 55) dX10_named_27 (by decide) (fun c1 => ?_) (fun c1 => ?_)
  · replace hv := hv.1 c1
    refine jg_iconst (v := 0) dX10_named_55 (by decide) ?_
    exact jg_iret dX10_named_56 rfl hv
  · replace hv := hv.2 c1
    refine jg_aload_n dX10_named_30 rfl (List.Mem.head _) ?_
    obtain ⟨f2, hv⟩ := hv
    refine jg_getr dX10_named_31 fl_RX10_13 rfl jsn f2 ?_
    refine jg_iload_n dX10_named_34 rfl (List.Mem.tail _ (List.Mem.head _)) ?_
    obtain ⟨f3, hv⟩ := hv
    obtain ⟨f4, hv⟩ := hv
    obtain ⟨f5, hv⟩ := hv
    refine jg_iald dX10_named_35 f3 f4 f5 ?_
    refine jg_iconst (v := 3) dX10_named_36 (by decide) ?_
    refine jg_icmp_lt (tgt := 55) dX10_named_37 (by decide) (fun c6 => ?_) (fun c6 => ?_)
    · replace hv := hv.1 c6
      refine jg_iconst (v := 0) dX10_named_55 (by decide) ?_
      exact jg_iret dX10_named_56 rfl hv
    · replace hv := hv.2 c6
      refine jg_aload_n dX10_named_40 rfl (List.Mem.head _) ?_
      refine jg_getr dX10_named_41 fl_RX10_13 rfl jsn f2 ?_
      refine jg_iload_n dX10_named_44 rfl (List.Mem.tail _ (List.Mem.head _)) ?_
      refine jg_iald dX10_named_45 f3 f4 f5 ?_
      refine jg_bipush (v := 8) dX10_named_46 (by decide) ?_
      refine jg_icmp_gt (tgt := 55) dX10_named_48 (by decide) (fun c7 => ?_) (fun c7 => ?_)
      · replace hv := hv.1 c7
        refine jg_iconst (v := 0) dX10_named_55 (by decide) ?_
        exact jg_iret dX10_named_56 rfl hv
      · replace hv := hv.2 c7
        refine jg_iload_n dX10_named_51 rfl (List.Mem.tail _ (List.Mem.head _)) ?_
        refine jg_goto (tgt := 56) dX10_named_52 (by decide) ?_
        exact jg_iret dX10_named_56 rfl hv
def VX10_named_5 (g : jg) (a0 : Nat) (x1 : Int32) (h : jh) (k n : Nat) (Q : jq) : Prop := (((x1) ≤ 0 → VX10_named_26 g (a0) (x1) h k n Q) ∧ (¬ (x1) ≤ 0 → (jt h a0 = 9) ∧ (¬ (jr h 514 a0) = none) ∧ (jt h (jd (jr h 514 a0)) = 20) ∧ (vp_in (x1) (jn h (jd (jr h 514 a0)))) ∧ ((¬ (jI h (jd (jr h 514 a0)) (x1 : Int32).toNatClampNeg) = (88) → VX10_named_26 g (a0) (x1) h k n Q) ∧ ((jI h (jd (jr h 514 a0)) (x1 : Int32).toNatClampNeg) = (88) → jG g mX10_named 5 [(0, .inr (.inr (some (a0)))), (1, .inl ((x1) + (-1)))] [] h k n Q))))
set_option maxRecDepth 20000 in
theorem vX10_named_5 {g : jg} {a0 : Nat} {x1 : Int32} {h : jh} {k n : Nat} {Q : jq} (hv : VX10_named_5 g a0 x1 h k n Q) : jG g mX10_named 5 [(0, .inr (.inr (some (a0)))), (1, .inl (x1))] [] h k n Q := by
  unfold VX10_named_5 at hv
  refine jg_iload_n dX10_named_5 rfl (List.Mem.tail _ (List.Mem.head _)) ?_
  refine jg_if_le (tgt := 26) dX10_named_6 (by decide) (fun c8 => ?_) (fun c8 => ?_)
  · replace hv := hv.1 c8
    exact vX10_named_26 hv
  · replace hv := hv.2 c8
    refine jg_aload_n dX10_named_9 rfl (List.Mem.head _) ?_
    obtain ⟨f9, hv⟩ := hv
    refine jg_getr dX10_named_10 fl_RX10_7 rfl jsn f9 ?_
    refine jg_iload_n dX10_named_13 rfl (List.Mem.tail _ (List.Mem.head _)) ?_
    obtain ⟨f10, hv⟩ := hv
    obtain ⟨f11, hv⟩ := hv
    obtain ⟨f12, hv⟩ := hv
    refine jg_iald dX10_named_14 f10 f11 f12 ?_
    refine jg_bipush (v := 88) dX10_named_15 (by decide) ?_
    refine jg_icmp_ne (tgt := 26) dX10_named_17 (by decide) (fun c13 => ?_) (fun c13 => ?_)
    · replace hv := hv.1 c13
      exact vX10_named_26 hv
    · replace hv := hv.2 c13
      refine jg_iinc (v := (x1) + (-1)) (lv' := [(1, .inl ((x1) + (-1))), (0, .inr (.inr (some (a0))))]) dX10_named_20 (List.Mem.tail _ (List.Mem.head _)) rfl (by decide) rfl ?_
      refine jg_goto (tgt := 5) dX10_named_23 (by decide) ?_
      refine jG.sub (lv' := [(0, .inr (.inr (some (a0)))), (1, .inl ((x1) + (-1)))]) (by simp) ?_
      exact hv
def VX10_named_0 (g : jg) (a0 : Nat) (h : jh) (k n : Nat) (Q : jq) : Prop := (jt h a0 = 9) ∧ jG g mX10_named 5 [(0, .inr (.inr (some (a0)))), (1, .inl (ji h 513 a0))] [] h k n Q
set_option maxRecDepth 20000 in
theorem vX10_named_0 {g : jg} {a0 : Nat} {h : jh} {k n : Nat} {Q : jq} (hv : VX10_named_0 g a0 h k n Q) : jG g mX10_named 0 [(0, .inr (.inr (some (a0))))] [] h k n Q := by
  unfold VX10_named_0 at hv
  refine jg_aload_n dX10_named_0 rfl (List.Mem.head _) ?_
  obtain ⟨f14, hv⟩ := hv
  refine jg_geti dX10_named_1 fl_RX10_102 rfl jsn f14 ?_
  refine jg_istore_n (lv' := [(1, .inl (ji h 513 a0)), (0, .inr (.inr (some (a0))))]) dX10_named_4 rfl (by decide) rfl ?_
  refine jG.sub (lv' := [(0, .inr (.inr (some (a0)))), (1, .inl (ji h 513 a0))]) (by simp) ?_
  exact hv
theorem eX10_named {g : jg} {a0 : Nat} {h : jh} {mc ms : Nat} {Q : jq} (hv : VX10_named_0 g a0 h mc ms Q) : jM g mX10_named [.inr (.inr (some (a0)))] h mc ms Q := jM.of (by decide) (Nat.le_of_ble_eq_true rfl) (lv := [(0, .inr (.inr (some (a0))))]) rfl (vX10_named_0 hv)
theorem dX10_item_0 : decode cX10_item 0 = .ok (.aload_n 0, 1) := by decide +kernel
theorem dX10_item_1 : decode cX10_item 1 = .ok (.iconst 0, 1) := by decide +kernel
theorem dX10_item_2 : decode cX10_item 2 = .ok (.putfield 98, 3) := by decide +kernel
theorem dX10_item_5 : decode cX10_item 5 = .ok (.iload_n 1, 1) := by decide +kernel
theorem dX10_item_6 : decode cX10_item 6 = .ok (.iconst 1, 1) := by decide +kernel
theorem dX10_item_7 : decode cX10_item 7 = .ok (.if_icmp .lt 9, 3) := by decide +kernel
theorem dX10_item_10 : decode cX10_item 10 = .ok (.iload_n 1, 1) := by decide +kernel
theorem dX10_item_11 : decode cX10_item 11 = .ok (.bipush 49, 2) := by decide +kernel
theorem dX10_item_13 : decode cX10_item 13 = .ok (.if_icmp .le 21, 3) := by decide +kernel
theorem dX10_item_16 : decode cX10_item 16 = .ok (.iload_n 1, 1) := by decide +kernel
theorem dX10_item_17 : decode cX10_item 17 = .ok (.bipush 66, 2) := by decide +kernel
theorem dX10_item_19 : decode cX10_item 19 = .ok (.if_icmp .eq 15, 3) := by decide +kernel
theorem dX10_item_22 : decode cX10_item 22 = .ok (.iload_n 1, 1) := by decide +kernel
theorem dX10_item_23 : decode cX10_item 23 = .ok (.bipush 77, 2) := by decide +kernel
theorem dX10_item_25 : decode cX10_item 25 = .ok (.if_icmp .eq 9, 3) := by decide +kernel
theorem dX10_item_28 : decode cX10_item 28 = .ok (.iload_n 1, 1) := by decide +kernel
theorem dX10_item_29 : decode cX10_item 29 = .ok (.bipush 88, 2) := by decide +kernel
theorem dX10_item_31 : decode cX10_item 31 = .ok (.if_icmp .ne 7, 3) := by decide +kernel
theorem dX10_item_34 : decode cX10_item 34 = .ok (.iconst 1, 1) := by decide +kernel
theorem dX10_item_35 : decode cX10_item 35 = .ok (.goto 4, 3) := by decide +kernel
theorem dX10_item_38 : decode cX10_item 38 = .ok (.iconst 0, 1) := by decide +kernel
theorem dX10_item_39 : decode cX10_item 39 = .ok (.istore 4, 2) := by decide +kernel
theorem dX10_item_41 : decode cX10_item 41 = .ok (.iload 4, 2) := by decide +kernel
theorem dX10_item_43 : decode cX10_item 43 = .ok (.ifCond .eq 37, 3) := by decide +kernel
theorem dX10_item_46 : decode cX10_item 46 = .ok (.iload_n 2, 1) := by decide +kernel
theorem dX10_item_47 : decode cX10_item 47 = .ok (.ifCond .lt 33, 3) := by decide +kernel
theorem dX10_item_50 : decode cX10_item 50 = .ok (.iload_n 2, 1) := by decide +kernel
theorem dX10_item_51 : decode cX10_item 51 = .ok (.bipush 11, 2) := by decide +kernel
theorem dX10_item_53 : decode cX10_item 53 = .ok (.if_icmp .gt 27, 3) := by decide +kernel
theorem dX10_item_56 : decode cX10_item 56 = .ok (.iload_n 2, 1) := by decide +kernel
theorem dX10_item_57 : decode cX10_item 57 = .ok (.iload_n 3, 1) := by decide +kernel
theorem dX10_item_58 : decode cX10_item 58 = .ok (.invokestatic 109, 3) := by decide +kernel
theorem dX10_item_61 : decode cX10_item 61 = .ok (.ifCond .eq 19, 3) := by decide +kernel
theorem dX10_item_64 : decode cX10_item 64 = .ok (.iload_n 1, 1) := by decide +kernel
theorem dX10_item_65 : decode cX10_item 65 = .ok (.bipush 66, 2) := by decide +kernel
theorem dX10_item_67 : decode cX10_item 67 = .ok (.if_icmp .eq 9, 3) := by decide +kernel
theorem dX10_item_70 : decode cX10_item 70 = .ok (.iload_n 1, 1) := by decide +kernel
theorem dX10_item_71 : decode cX10_item 71 = .ok (.bipush 88, 2) := by decide +kernel
theorem dX10_item_73 : decode cX10_item 73 = .ok (.if_icmp .ne 10, 3) := by decide +kernel
theorem dX10_item_76 : decode cX10_item 76 = .ok (.iload_n 2, 1) := by decide +kernel
theorem dX10_item_77 : decode cX10_item 77 = .ok (.ifCond .eq 6, 3) := by decide +kernel
theorem dX10_item_80 : decode cX10_item 80 = .ok (.bipush (-4), 2) := by decide +kernel
theorem dX10_item_82 : decode cX10_item 82 = .ok (.ireturn, 1) := by decide +kernel
theorem dX10_item_83 : decode cX10_item 83 = .ok (.iconst 0, 1) := by decide +kernel
theorem dX10_item_84 : decode cX10_item 84 = .ok (.istore 5, 2) := by decide +kernel
theorem dX10_item_86 : decode cX10_item 86 = .ok (.iload_n 1, 1) := by decide +kernel
theorem dX10_item_87 : decode cX10_item 87 = .ok (.iconst 1, 1) := by decide +kernel
theorem dX10_item_88 : decode cX10_item 88 = .ok (.if_icmp .le 24, 3) := by decide +kernel
theorem dX10_item_91 : decode cX10_item 91 = .ok (.iload_n 1, 1) := by decide +kernel
theorem dX10_item_92 : decode cX10_item 92 = .ok (.bipush 50, 2) := by decide +kernel
theorem dX10_item_94 : decode cX10_item 94 = .ok (.if_icmp .ge 18, 3) := by decide +kernel
theorem dX10_item_97 : decode cX10_item 97 = .ok (.aload_n 0, 1) := by decide +kernel
theorem dX10_item_98 : decode cX10_item 98 = .ok (.iload_n 1, 1) := by decide +kernel
theorem dX10_item_99 : decode cX10_item 99 = .ok (.invokevirtual 113, 3) := by decide +kernel
theorem dX10_item_102 : decode cX10_item 102 = .ok (.istore 5, 2) := by decide +kernel
theorem dX10_item_104 : decode cX10_item 104 = .ok (.iload 5, 2) := by decide +kernel
theorem dX10_item_106 : decode cX10_item 106 = .ok (.ifCond .ne 77, 3) := by decide +kernel
theorem dX10_item_109 : decode cX10_item 109 = .ok (.bipush (-3), 2) := by decide +kernel
theorem dX10_item_111 : decode cX10_item 111 = .ok (.ireturn, 1) := by decide +kernel
theorem dX10_item_112 : decode cX10_item 112 = .ok (.iload_n 1, 1) := by decide +kernel
theorem dX10_item_113 : decode cX10_item 113 = .ok (.bipush 88, 2) := by decide +kernel
theorem dX10_item_115 : decode cX10_item 115 = .ok (.if_icmp .ne 17, 3) := by decide +kernel
theorem dX10_item_118 : decode cX10_item 118 = .ok (.aload_n 0, 1) := by decide +kernel
theorem dX10_item_119 : decode cX10_item 119 = .ok (.invokevirtual 117, 3) := by decide +kernel
theorem dX10_item_122 : decode cX10_item 122 = .ok (.istore 5, 2) := by decide +kernel
theorem dX10_item_124 : decode cX10_item 124 = .ok (.iload 5, 2) := by decide +kernel
theorem dX10_item_126 : decode cX10_item 126 = .ok (.ifCond .ne 57, 3) := by decide +kernel
theorem dX10_item_129 : decode cX10_item 129 = .ok (.bipush (-3), 2) := by decide +kernel
theorem dX10_item_131 : decode cX10_item 131 = .ok (.ireturn, 1) := by decide +kernel
theorem dX10_item_132 : decode cX10_item 132 = .ok (.iload_n 1, 1) := by decide +kernel
theorem dX10_item_133 : decode cX10_item 133 = .ok (.bipush 66, 2) := by decide +kernel
theorem dX10_item_135 : decode cX10_item 135 = .ok (.if_icmp .ne 48, 3) := by decide +kernel
theorem dX10_item_138 : decode cX10_item 138 = .ok (.aload_n 0, 1) := by decide +kernel
theorem dX10_item_139 : decode cX10_item 139 = .ok (.getfield 102, 3) := by decide +kernel
theorem dX10_item_142 : decode cX10_item 142 = .ok (.ifCond .eq 38, 3) := by decide +kernel
theorem dX10_item_145 : decode cX10_item 145 = .ok (.aload_n 0, 1) := by decide +kernel
theorem dX10_item_146 : decode cX10_item 146 = .ok (.getfield 7, 3) := by decide +kernel
theorem dX10_item_149 : decode cX10_item 149 = .ok (.aload_n 0, 1) := by decide +kernel
theorem dX10_item_150 : decode cX10_item 150 = .ok (.getfield 22, 3) := by decide +kernel
theorem dX10_item_153 : decode cX10_item 153 = .ok (.aload_n 0, 1) := by decide +kernel
theorem dX10_item_154 : decode cX10_item 154 = .ok (.getfield 102, 3) := by decide +kernel
theorem dX10_item_157 : decode cX10_item 157 = .ok (.iaload, 1) := by decide +kernel
theorem dX10_item_158 : decode cX10_item 158 = .ok (.iaload, 1) := by decide +kernel
theorem dX10_item_159 : decode cX10_item 159 = .ok (.iconst 1, 1) := by decide +kernel
theorem dX10_item_160 : decode cX10_item 160 = .ok (.if_icmp .ne 20, 3) := by decide +kernel
theorem dX10_item_163 : decode cX10_item 163 = .ok (.aload_n 0, 1) := by decide +kernel
theorem dX10_item_164 : decode cX10_item 164 = .ok (.getfield 13, 3) := by decide +kernel
theorem dX10_item_167 : decode cX10_item 167 = .ok (.aload_n 0, 1) := by decide +kernel
theorem dX10_item_168 : decode cX10_item 168 = .ok (.getfield 22, 3) := by decide +kernel
theorem dX10_item_171 : decode cX10_item 171 = .ok (.aload_n 0, 1) := by decide +kernel
theorem dX10_item_172 : decode cX10_item 172 = .ok (.getfield 102, 3) := by decide +kernel
theorem dX10_item_175 : decode cX10_item 175 = .ok (.iaload, 1) := by decide +kernel
theorem dX10_item_176 : decode cX10_item 176 = .ok (.iaload, 1) := by decide +kernel
theorem dX10_item_177 : decode cX10_item 177 = .ok (.ifCond .eq 6, 3) := by decide +kernel
theorem dX10_item_180 : decode cX10_item 180 = .ok (.bipush (-3), 2) := by decide +kernel
theorem dX10_item_182 : decode cX10_item 182 = .ok (.ireturn, 1) := by decide +kernel
theorem dX10_item_183 : decode cX10_item 183 = .ok (.aload_n 0, 1) := by decide +kernel
theorem dX10_item_184 : decode cX10_item 184 = .ok (.getfield 102, 3) := by decide +kernel
theorem dX10_item_187 : decode cX10_item 187 = .ok (.bipush 120, 2) := by decide +kernel
theorem dX10_item_189 : decode cX10_item 189 = .ok (.if_icmp .ne 5, 3) := by decide +kernel
theorem dX10_item_192 : decode cX10_item 192 = .ok (.iconst (-1), 1) := by decide +kernel
theorem dX10_item_193 : decode cX10_item 193 = .ok (.ireturn, 1) := by decide +kernel
theorem dX10_item_194 : decode cX10_item 194 = .ok (.aload_n 0, 1) := by decide +kernel
theorem dX10_item_195 : decode cX10_item 195 = .ok (.dup, 1) := by decide +kernel
theorem dX10_item_196 : decode cX10_item 196 = .ok (.getfield 102, 3) := by decide +kernel
theorem dX10_item_199 : decode cX10_item 199 = .ok (.iconst 1, 1) := by decide +kernel
theorem dX10_item_200 : decode cX10_item 200 = .ok (.iadd, 1) := by decide +kernel
theorem dX10_item_201 : decode cX10_item 201 = .ok (.putfield 102, 3) := by decide +kernel
theorem dX10_item_204 : decode cX10_item 204 = .ok (.aload_n 0, 1) := by decide +kernel
theorem dX10_item_205 : decode cX10_item 205 = .ok (.getfield 102, 3) := by decide +kernel
theorem dX10_item_208 : decode cX10_item 208 = .ok (.istore 6, 2) := by decide +kernel
theorem dX10_item_210 : decode cX10_item 210 = .ok (.aload_n 0, 1) := by decide +kernel
theorem dX10_item_211 : decode cX10_item 211 = .ok (.getfield 7, 3) := by decide +kernel
theorem dX10_item_214 : decode cX10_item 214 = .ok (.iload 6, 2) := by decide +kernel
theorem dX10_item_216 : decode cX10_item 216 = .ok (.iload_n 1, 1) := by decide +kernel
theorem dX10_item_217 : decode cX10_item 217 = .ok (.iastore, 1) := by decide +kernel
theorem dX10_item_218 : decode cX10_item 218 = .ok (.aload_n 0, 1) := by decide +kernel
theorem dX10_item_219 : decode cX10_item 219 = .ok (.getfield 13, 3) := by decide +kernel
theorem dX10_item_222 : decode cX10_item 222 = .ok (.iload 6, 2) := by decide +kernel
theorem dX10_item_224 : decode cX10_item 224 = .ok (.iload_n 2, 1) := by decide +kernel
theorem dX10_item_225 : decode cX10_item 225 = .ok (.iastore, 1) := by decide +kernel
theorem dX10_item_226 : decode cX10_item 226 = .ok (.aload_n 0, 1) := by decide +kernel
theorem dX10_item_227 : decode cX10_item 227 = .ok (.getfield 16, 3) := by decide +kernel
theorem dX10_item_230 : decode cX10_item 230 = .ok (.iload 6, 2) := by decide +kernel
theorem dX10_item_232 : decode cX10_item 232 = .ok (.iload_n 3, 1) := by decide +kernel
theorem dX10_item_233 : decode cX10_item 233 = .ok (.iastore, 1) := by decide +kernel
theorem dX10_item_234 : decode cX10_item 234 = .ok (.aload_n 0, 1) := by decide +kernel
theorem dX10_item_235 : decode cX10_item 235 = .ok (.getfield 19, 3) := by decide +kernel
theorem dX10_item_238 : decode cX10_item 238 = .ok (.iload 6, 2) := by decide +kernel
theorem dX10_item_240 : decode cX10_item 240 = .ok (.iload 5, 2) := by decide +kernel
theorem dX10_item_242 : decode cX10_item 242 = .ok (.iastore, 1) := by decide +kernel
theorem dX10_item_243 : decode cX10_item 243 = .ok (.aload_n 0, 1) := by decide +kernel
theorem dX10_item_244 : decode cX10_item 244 = .ok (.getfield 22, 3) := by decide +kernel
theorem dX10_item_247 : decode cX10_item 247 = .ok (.iload 6, 2) := by decide +kernel
theorem dX10_item_249 : decode cX10_item 249 = .ok (.iload_n 1, 1) := by decide +kernel
theorem dX10_item_250 : decode cX10_item 250 = .ok (.iconst 1, 1) := by decide +kernel
theorem dX10_item_251 : decode cX10_item 251 = .ok (.if_icmp .eq 9, 3) := by decide +kernel
theorem dX10_item_254 : decode cX10_item 254 = .ok (.iload_n 1, 1) := by decide +kernel
theorem dX10_item_255 : decode cX10_item 255 = .ok (.bipush 77, 2) := by decide +kernel
theorem dX10_item_257 : decode cX10_item 257 = .ok (.if_icmp .ne 8, 3) := by decide +kernel
theorem dX10_item_260 : decode cX10_item 260 = .ok (.iload 6, 2) := by decide +kernel
theorem dX10_item_262 : decode cX10_item 262 = .ok (.goto 28, 3) := by decide +kernel
theorem dX10_item_265 : decode cX10_item 265 = .ok (.iload_n 1, 1) := by decide +kernel
theorem dX10_item_266 : decode cX10_item 266 = .ok (.bipush 88, 2) := by decide +kernel
theorem dX10_item_268 : decode cX10_item 268 = .ok (.if_icmp .ne 13, 3) := by decide +kernel
theorem dX10_item_271 : decode cX10_item 271 = .ok (.aload_n 0, 1) := by decide +kernel
theorem dX10_item_272 : decode cX10_item 272 = .ok (.getfield 22, 3) := by decide +kernel
theorem dX10_item_275 : decode cX10_item 275 = .ok (.iload 5, 2) := by decide +kernel
theorem dX10_item_277 : decode cX10_item 277 = .ok (.iaload, 1) := by decide +kernel
theorem dX10_item_278 : decode cX10_item 278 = .ok (.goto 12, 3) := by decide +kernel
theorem dX10_item_281 : decode cX10_item 281 = .ok (.aload_n 0, 1) := by decide +kernel
theorem dX10_item_282 : decode cX10_item 282 = .ok (.getfield 22, 3) := by decide +kernel
theorem dX10_item_285 : decode cX10_item 285 = .ok (.iload 6, 2) := by decide +kernel
theorem dX10_item_287 : decode cX10_item 287 = .ok (.iconst 1, 1) := by decide +kernel
theorem dX10_item_288 : decode cX10_item 288 = .ok (.isub, 1) := by decide +kernel
theorem dX10_item_289 : decode cX10_item 289 = .ok (.iaload, 1) := by decide +kernel
theorem dX10_item_290 : decode cX10_item 290 = .ok (.iastore, 1) := by decide +kernel
theorem dX10_item_291 : decode cX10_item 291 = .ok (.aload_n 0, 1) := by decide +kernel
theorem dX10_item_292 : decode cX10_item 292 = .ok (.getfield 59, 3) := by decide +kernel
theorem dX10_item_295 : decode cX10_item 295 = .ok (.iload 6, 2) := by decide +kernel
theorem dX10_item_297 : decode cX10_item 297 = .ok (.iconst (-1), 1) := by decide +kernel
theorem dX10_item_298 : decode cX10_item 298 = .ok (.iastore, 1) := by decide +kernel
theorem dX10_item_299 : decode cX10_item 299 = .ok (.aload_n 0, 1) := by decide +kernel
theorem dX10_item_300 : decode cX10_item 300 = .ok (.iconst 0, 1) := by decide +kernel
theorem dX10_item_301 : decode cX10_item 301 = .ok (.putfield 121, 3) := by decide +kernel
theorem dX10_item_304 : decode cX10_item 304 = .ok (.iload 6, 2) := by decide +kernel
theorem dX10_item_306 : decode cX10_item 306 = .ok (.ireturn, 1) := by decide +kernel
def VX10_item_290 (g : jg) (a0 : Nat) (x6 : Int32) (so0 : Option Nat) (s1 : Int32) (s2 : Int32) (h : jh) (k n : Nat) (Q : jq) : Prop := (¬ (so0) = none) ∧ (jt h (jd (so0)) = 20) ∧ (vp_in (s1) (jn h (jd (so0)))) ∧ ∀ h4 : jh, h4 = jsI h (jd (so0)) (s1 : Int32).toNatClampNeg (s2) → (jt h4 a0 = 9) ∧ (¬ (jr h4 530 a0) = none) ∧ (jt h4 (jd (jr h4 530 a0)) = 20) ∧ (vp_in (x6) (jn h4 (jd (jr h4 530 a0)))) ∧ ∀ h10 : jh, h10 = jsI h4 (jd (jr h4 530 a0)) (x6 : Int32).toNatClampNeg ((-1)) → ∀ h12 : jh, h12 = jsi h10 533 a0 (0) → Q (.inl (some (.inl (x6)))) h12
set_option maxRecDepth 20000 in
theorem vX10_item_290 {g : jg} {a0 : Nat} {x6 : Int32} {so0 : Option Nat} {s1 : Int32} {s2 : Int32} {h : jh} {k n : Nat} {Q : jq} (hv : VX10_item_290 g a0 x6 so0 s1 s2 h k n Q) : jG g mX10_item 290 [(0, .inr (.inr (some (a0)))), (6, .inl (x6))] [.inl (s2), .inl (s1), .inr (.inr (so0))] h k n Q := by
  unfold VX10_item_290 at hv
  obtain ⟨f1, hv⟩ := hv
  obtain ⟨f2, hv⟩ := hv
  obtain ⟨f3, hv⟩ := hv
  obtain ⟨h4, e5⟩ : ∃ z : jh, z = jsI h (jd (so0)) (s1 : Int32).toNatClampNeg (s2) := ⟨_, rfl⟩
  replace hv := hv h4 e5
  refine jp_iast dX10_item_290 f1 f2 f3 e5 ?_
  refine jg_aload_n dX10_item_291 rfl (List.Mem.head _) ?_
  obtain ⟨f6, hv⟩ := hv
  refine jg_getr dX10_item_292 fl_RX10_59 rfl jsn f6 ?_
  refine jg_iload dX10_item_295 (List.Mem.tail _ (List.Mem.head _)) ?_
  refine jg_iconst (v := (-1)) dX10_item_297 (by decide) ?_
  obtain ⟨f7, hv⟩ := hv
  obtain ⟨f8, hv⟩ := hv
  obtain ⟨f9, hv⟩ := hv
  obtain ⟨h10, e11⟩ : ∃ z : jh, z = jsI h4 (jd (jr h4 530 a0)) (x6 : Int32).toNatClampNeg ((-1)) := ⟨_, rfl⟩
  replace hv := hv h10 e11
  refine jp_iast dX10_item_298 f7 f8 f9 e11 ?_
  refine jg_aload_n dX10_item_299 rfl (List.Mem.head _) ?_
  refine jg_iconst (v := 0) dX10_item_300 (by decide) ?_
  obtain ⟨h12, e13⟩ : ∃ z : jh, z = jsi h10 533 a0 (0) := ⟨_, rfl⟩
  replace hv := hv h12 e13
  refine jp_putz dX10_item_301 (jfp.nf fl_RX10_121 (fun q hq => by cases hq; rfl)) rfl jsn ((congrArg (fun z => jt z a0) e11).trans f6) (by decide) e13 ?_
  refine jg_iload dX10_item_304 (List.Mem.tail _ (List.Mem.head _)) ?_
  exact jg_iret dX10_item_306 rfl hv
def VX10_item_183 (g : jg) (a0 : Nat) (x1 : Int32) (x2 : Int32) (x3 : Int32) (x5 : Int32) (h : jh) (k n : Nat) (Q : jq) : Prop := (jt h a0 = 9) ∧ ((¬ (ji h 513 a0) = (120) → ∀ h16 : jh, h16 = jsi h 513 a0 ((ji h 513 a0) + (1)) → (¬ (jr h16 514 a0) = none) ∧ (jt h16 (jd (jr h16 514 a0)) = 20) ∧ (vp_in (ji h16 513 a0) (jn h16 (jd (jr h16 514 a0)))) ∧ ∀ h21 : jh, h21 = jsI h16 (jd (jr h16 514 a0)) (ji h16 513 a0 : Int32).toNatClampNeg (x1) → (¬ (jr h21 515 a0) = none) ∧ (jt h21 (jd (jr h21 515 a0)) = 20) ∧ (vp_in (ji h16 513 a0) (jn h21 (jd (jr h21 515 a0)))) ∧ ∀ h26 : jh, h26 = jsI h21 (jd (jr h21 515 a0)) (ji h16 513 a0 : Int32).toNatClampNeg (x2) → (¬ (jr h26 516 a0) = none) ∧ (jt h26 (jd (jr h26 516 a0)) = 20) ∧ (vp_in (ji h16 513 a0) (jn h26 (jd (jr h26 516 a0)))) ∧ ∀ h31 : jh, h31 = jsI h26 (jd (jr h26 516 a0)) (ji h16 513 a0 : Int32).toNatClampNeg (x3) → (¬ (jr h31 517 a0) = none) ∧ (jt h31 (jd (jr h31 517 a0)) = 20) ∧ (vp_in (ji h16 513 a0) (jn h31 (jd (jr h31 517 a0)))) ∧ ∀ h36 : jh, h36 = jsI h31 (jd (jr h31 517 a0)) (ji h16 513 a0 : Int32).toNatClampNeg (x5) → (((x1) = (1) → VX10_item_290 g (a0) (ji h16 513 a0) (jr h36 518 a0) (ji h16 513 a0) (ji h16 513 a0) h36 k n Q) ∧ (¬ (x1) = (1) → ((¬ (x1) = (77) → ((¬ (x1) = (88) → (¬ (jr h36 518 a0) = none) ∧ (jt h36 (jd (jr h36 518 a0)) = 20) ∧ (vp_in ((ji h16 513 a0) - (1)) (jn h36 (jd (jr h36 518 a0)))) ∧ VX10_item_290 g (a0) (ji h16 513 a0) (jr h36 518 a0) (ji h16 513 a0) (jI h36 (jd (jr h36 518 a0)) ((ji h16 513 a0) - (1) : Int32).toNatClampNeg) h36 k n Q) ∧ ((x1) = (88) → (¬ (jr h36 518 a0) = none) ∧ (jt h36 (jd (jr h36 518 a0)) = 20) ∧ (vp_in (x5) (jn h36 (jd (jr h36 518 a0)))) ∧ VX10_item_290 g (a0) (ji h16 513 a0) (jr h36 518 a0) (ji h16 513 a0) (jI h36 (jd (jr h36 518 a0)) (x5 : Int32).toNatClampNeg) h36 k n Q))) ∧ ((x1) = (77) → VX10_item_290 g (a0) (ji h16 513 a0) (jr h36 518 a0) (ji h16 513 a0) (ji h16 513 a0) h36 k n Q))))) ∧ ((ji h 513 a0) = (120) → Q (.inl (some (.inl ((-1))))) h))
set_option maxRecDepth 20000 in
theorem vX10_item_183 {g : jg} {a0 : Nat} {x1 : Int32} {x2 : Int32} {x3 : Int32} {x5 : Int32} {h : jh} {k n : Nat} {Q : jq} (hv : VX10_item_183 g a0 x1 x2 x3 x5 h k n Q) : jG g mX10_item 183 [(0, .inr (.inr (some (a0)))), (1, .inl (x1)), (2, .inl (x2)), (3, .inl (x3)), (5, .inl (x5))] [] h k n Q := by
  unfold VX10_item_183 at hv
  refine jg_aload_n dX10_item_183 rfl (List.Mem.head _) ?_
  obtain ⟨f14, hv⟩ := hv
  refine jg_geti dX10_item_184 fl_RX10_102 rfl jsn f14 ?_
  refine jg_bipush (v := 120) dX10_item_187 (by decide) ?_
  refine jg_icmp_ne (tgt := 194) dX10_item_189 (by decide) (fun c15 => ?_) (fun c15 => ?_)
  · replace hv := hv.1 c15
    refine jg_aload_n dX10_item_194 rfl (List.Mem.head _) ?_
    refine jg_dup dX10_item_195 rfl ?_
    refine jg_geti dX10_item_196 fl_RX10_102 rfl jsn f14 ?_
    refine jg_iconst (v := 1) dX10_item_199 (by decide) ?_
    refine jg_iadd dX10_item_200 ?_
    obtain ⟨h16, e17⟩ : ∃ z : jh, z = jsi h 513 a0 ((ji h 513 a0) + (1)) := ⟨_, rfl⟩
    replace hv := hv h16 e17
    refine jp_puti dX10_item_201 (jfp.nf fl_RX10_102 (fun q hq => by cases hq; rfl)) rfl jsn f14 e17 ?_
    refine jg_aload_n dX10_item_204 rfl (List.Mem.head _) ?_
    refine jg_geti dX10_item_205 fl_RX10_102 rfl jsn ((congrArg (fun z => jt z a0) e17).trans f14) ?_
    refine jg_istore (lv' := [(6, .inl (ji h16 513 a0)), (0, .inr (.inr (some (a0)))), (1, .inl (x1)), (2, .inl (x2)), (3, .inl (x3)), (5, .inl (x5))]) dX10_item_208 (by decide) rfl ?_
    refine jg_aload_n dX10_item_210 rfl (List.Mem.tail _ (List.Mem.head _)) ?_
    refine jg_getr dX10_item_211 fl_RX10_7 rfl jsn ((congrArg (fun z => jt z a0) e17).trans f14) ?_
    refine jg_iload dX10_item_214 (List.Mem.head _) ?_
    refine jg_iload_n dX10_item_216 rfl (List.Mem.tail _ (List.Mem.tail _ (List.Mem.head _))) ?_
    obtain ⟨f18, hv⟩ := hv
    obtain ⟨f19, hv⟩ := hv
    obtain ⟨f20, hv⟩ := hv
    obtain ⟨h21, e22⟩ : ∃ z : jh, z = jsI h16 (jd (jr h16 514 a0)) (ji h16 513 a0 : Int32).toNatClampNeg (x1) := ⟨_, rfl⟩
    replace hv := hv h21 e22
    refine jp_iast dX10_item_217 f18 f19 f20 e22 ?_
    refine jg_aload_n dX10_item_218 rfl (List.Mem.tail _ (List.Mem.head _)) ?_
    refine jg_getr dX10_item_219 fl_RX10_13 rfl jsn ((congrArg (fun z => jt z a0) e22).trans ((congrArg (fun z => jt z a0) e17).trans f14)) ?_
    refine jg_iload dX10_item_222 (List.Mem.head _) ?_
    refine jg_iload_n dX10_item_224 rfl (List.Mem.tail _ (List.Mem.tail _ (List.Mem.tail _ (List.Mem.head _)))) ?_
    obtain ⟨f23, hv⟩ := hv
    obtain ⟨f24, hv⟩ := hv
    obtain ⟨f25, hv⟩ := hv
    obtain ⟨h26, e27⟩ : ∃ z : jh, z = jsI h21 (jd (jr h21 515 a0)) (ji h16 513 a0 : Int32).toNatClampNeg (x2) := ⟨_, rfl⟩
    replace hv := hv h26 e27
    refine jp_iast dX10_item_225 f23 f24 f25 e27 ?_
    refine jg_aload_n dX10_item_226 rfl (List.Mem.tail _ (List.Mem.head _)) ?_
    refine jg_getr dX10_item_227 fl_RX10_16 rfl jsn ((congrArg (fun z => jt z a0) e27).trans ((congrArg (fun z => jt z a0) e22).trans ((congrArg (fun z => jt z a0) e17).trans f14))) ?_
    refine jg_iload dX10_item_230 (List.Mem.head _) ?_
    refine jg_iload_n dX10_item_232 rfl (List.Mem.tail _ (List.Mem.tail _ (List.Mem.tail _ (List.Mem.tail _ (List.Mem.head _))))) ?_
    obtain ⟨f28, hv⟩ := hv
    obtain ⟨f29, hv⟩ := hv
    obtain ⟨f30, hv⟩ := hv
    obtain ⟨h31, e32⟩ : ∃ z : jh, z = jsI h26 (jd (jr h26 516 a0)) (ji h16 513 a0 : Int32).toNatClampNeg (x3) := ⟨_, rfl⟩
    replace hv := hv h31 e32
    refine jp_iast dX10_item_233 f28 f29 f30 e32 ?_
    refine jg_aload_n dX10_item_234 rfl (List.Mem.tail _ (List.Mem.head _)) ?_
    refine jg_getr dX10_item_235 fl_RX10_19 rfl jsn ((congrArg (fun z => jt z a0) e32).trans ((congrArg (fun z => jt z a0) e27).trans ((congrArg (fun z => jt z a0) e22).trans ((congrArg (fun z => jt z a0) e17).trans f14)))) ?_
    refine jg_iload dX10_item_238 (List.Mem.head _) ?_
    refine jg_iload dX10_item_240 (List.Mem.tail _ (List.Mem.tail _ (List.Mem.tail _ (List.Mem.tail _ (List.Mem.tail _ (List.Mem.head _)))))) ?_
    obtain ⟨f33, hv⟩ := hv
    obtain ⟨f34, hv⟩ := hv
    obtain ⟨f35, hv⟩ := hv
    obtain ⟨h36, e37⟩ : ∃ z : jh, z = jsI h31 (jd (jr h31 517 a0)) (ji h16 513 a0 : Int32).toNatClampNeg (x5) := ⟨_, rfl⟩
    replace hv := hv h36 e37
    refine jp_iast dX10_item_242 f33 f34 f35 e37 ?_
    refine jg_aload_n dX10_item_243 rfl (List.Mem.tail _ (List.Mem.head _)) ?_
    refine jg_getr dX10_item_244 fl_RX10_22 rfl jsn ((congrArg (fun z => jt z a0) e37).trans ((congrArg (fun z => jt z a0) e32).trans ((congrArg (fun z => jt z a0) e27).trans ((congrArg (fun z => jt z a0) e22).trans ((congrArg (fun z => jt z a0) e17).trans f14))))) ?_
    refine jg_iload dX10_item_247 (List.Mem.head _) ?_
    refine jg_iload_n dX10_item_249 rfl (List.Mem.tail _ (List.Mem.tail _ (List.Mem.head _))) ?_
    refine jg_iconst (v := 1) dX10_item_250 (by decide) ?_
    refine jg_icmp_eq (tgt := 260) dX10_item_251 (by decide) (fun c38 => ?_) (fun c38 => ?_)
    · replace hv := hv.1 c38
      refine jg_iload dX10_item_260 (List.Mem.head _) ?_
      refine jg_goto (tgt := 290) dX10_item_262 (by decide) ?_
      refine jG.sub (lv' := [(0, .inr (.inr (some (a0)))), (6, .inl (ji h16 513 a0))]) (by simp) ?_
      exact vX10_item_290 hv
    · replace hv := hv.2 c38
      refine jg_iload_n dX10_item_254 rfl (List.Mem.tail _ (List.Mem.tail _ (List.Mem.head _))) ?_
      refine jg_bipush (v := 77) dX10_item_255 (by decide) ?_
      refine jg_icmp_ne (tgt := 265) dX10_item_257 (by decide) (fun c39 => ?_) (fun c39 => ?_)
      · replace hv := hv.1 c39
        refine jg_iload_n dX10_item_265 rfl (List.Mem.tail _ (List.Mem.tail _ (List.Mem.head _))) ?_
        refine jg_bipush (v := 88) dX10_item_266 (by decide) ?_
        refine jg_icmp_ne (tgt := 281) dX10_item_268 (by decide) (fun c40 => ?_) (fun c40 => ?_)
        · replace hv := hv.1 c40
          refine jg_aload_n dX10_item_281 rfl (List.Mem.tail _ (List.Mem.head _)) ?_
          refine jg_getr dX10_item_282 fl_RX10_22 rfl jsn ((congrArg (fun z => jt z a0) e37).trans ((congrArg (fun z => jt z a0) e32).trans ((congrArg (fun z => jt z a0) e27).trans ((congrArg (fun z => jt z a0) e22).trans ((congrArg (fun z => jt z a0) e17).trans f14))))) ?_
          refine jg_iload dX10_item_285 (List.Mem.head _) ?_
          refine jg_iconst (v := 1) dX10_item_287 (by decide) ?_
          refine jg_isub dX10_item_288 ?_
          obtain ⟨f41, hv⟩ := hv
          obtain ⟨f42, hv⟩ := hv
          obtain ⟨f43, hv⟩ := hv
          refine jg_iald dX10_item_289 f41 f42 f43 ?_
          refine jG.sub (lv' := [(0, .inr (.inr (some (a0)))), (6, .inl (ji h16 513 a0))]) (by simp) ?_
          exact vX10_item_290 hv
        · replace hv := hv.2 c40
          refine jg_aload_n dX10_item_271 rfl (List.Mem.tail _ (List.Mem.head _)) ?_
          refine jg_getr dX10_item_272 fl_RX10_22 rfl jsn ((congrArg (fun z => jt z a0) e37).trans ((congrArg (fun z => jt z a0) e32).trans ((congrArg (fun z => jt z a0) e27).trans ((congrArg (fun z => jt z a0) e22).trans ((congrArg (fun z => jt z a0) e17).trans f14))))) ?_
          refine jg_iload dX10_item_275 (List.Mem.tail _ (List.Mem.tail _ (List.Mem.tail _ (List.Mem.tail _ (List.Mem.tail _ (List.Mem.head _)))))) ?_
          obtain ⟨f44, hv⟩ := hv
          obtain ⟨f45, hv⟩ := hv
          obtain ⟨f46, hv⟩ := hv
          refine jg_iald dX10_item_277 f44 f45 f46 ?_
          refine jg_goto (tgt := 290) dX10_item_278 (by decide) ?_
          refine jG.sub (lv' := [(0, .inr (.inr (some (a0)))), (6, .inl (ji h16 513 a0))]) (by simp) ?_
          exact vX10_item_290 hv
      · replace hv := hv.2 c39
        refine jg_iload dX10_item_260 (List.Mem.head _) ?_
        refine jg_goto (tgt := 290) dX10_item_262 (by decide) ?_
        refine jG.sub (lv' := [(0, .inr (.inr (some (a0)))), (6, .inl (ji h16 513 a0))]) (by simp) ?_
        exact vX10_item_290 hv
  · replace hv := hv.2 c15
    refine jg_iconst (v := (-1)) dX10_item_192 (by decide) ?_
    exact jg_iret dX10_item_193 rfl hv
def VX10_item_112 (g : jg) (a0 : Nat) (x1 : Int32) (x2 : Int32) (x3 : Int32) (x5 : Int32) (h : jh) (k n : Nat) (Q : jq) : Prop := ((¬ (x1) = (88) → ((¬ (x1) = (66) → VX10_item_183 g (a0) (x1) (x2) (x3) (x5) h k n Q) ∧ ((x1) = (66) → (jt h a0 = 9) ∧ (((ji h 513 a0) = 0 → Q (.inl (some (.inl ((-3))))) h) ∧ (¬ (ji h 513 a0) = 0 → (¬ (jr h 518 a0) = none) ∧ (jt h (jd (jr h 518 a0)) = 20) ∧ (vp_in (ji h 513 a0) (jn h (jd (jr h 518 a0)))) ∧ (¬ (jr h 514 a0) = none) ∧ (jt h (jd (jr h 514 a0)) = 20) ∧ (vp_in (jI h (jd (jr h 518 a0)) (ji h 513 a0 : Int32).toNatClampNeg) (jn h (jd (jr h 514 a0)))) ∧ ((¬ (jI h (jd (jr h 514 a0)) (jI h (jd (jr h 518 a0)) (ji h 513 a0 : Int32).toNatClampNeg : Int32).toNatClampNeg) = (1) → Q (.inl (some (.inl ((-3))))) h) ∧ ((jI h (jd (jr h 514 a0)) (jI h (jd (jr h 518 a0)) (ji h 513 a0 : Int32).toNatClampNeg : Int32).toNatClampNeg) = (1) → (¬ (jr h 515 a0) = none) ∧ (jt h (jd (jr h 515 a0)) = 20) ∧ (vp_in (jI h (jd (jr h 518 a0)) (ji h 513 a0 : Int32).toNatClampNeg) (jn h (jd (jr h 515 a0)))) ∧ (((jI h (jd (jr h 515 a0)) (jI h (jd (jr h 518 a0)) (ji h 513 a0 : Int32).toNatClampNeg : Int32).toNatClampNeg) = 0 → VX10_item_183 g (a0) (x1) (x2) (x3) (x5) h k n Q) ∧ (¬ (jI h (jd (jr h 515 a0)) (jI h (jd (jr h 518 a0)) (ji h 513 a0 : Int32).toNatClampNeg : Int32).toNatClampNeg) = 0 → Q (.inl (some (.inl ((-3))))) h))))))))) ∧ ((x1) = (88) → (jt h a0 = 9) ∧ jM g mX10_named [.inr (.inr (some a0))] h 0 0 (jki (fun (r63 : Int32) (h64 : jh) => ((¬ (r63) = 0 → VX10_item_183 g (a0) (x1) (x2) (x3) (r63) h64 k n Q) ∧ ((r63) = 0 → Q (.inl (some (.inl ((-3))))) h64))) (fun e h9 => Q (.inr e) h9))))
set_option maxRecDepth 20000 in
theorem vX10_item_112 {g : jg} {a0 : Nat} {x1 : Int32} {x2 : Int32} {x3 : Int32} {x5 : Int32} {h : jh} {k n : Nat} {Q : jq} (hv : VX10_item_112 g a0 x1 x2 x3 x5 h k n Q) : jG g mX10_item 112 [(0, .inr (.inr (some (a0)))), (1, .inl (x1)), (2, .inl (x2)), (3, .inl (x3)), (5, .inl (x5))] [] h k n Q := by
  unfold VX10_item_112 at hv
  refine jg_iload_n dX10_item_112 rfl (List.Mem.tail _ (List.Mem.head _)) ?_
  refine jg_bipush (v := 88) dX10_item_113 (by decide) ?_
  refine jg_icmp_ne (tgt := 132) dX10_item_115 (by decide) (fun c47 => ?_) (fun c47 => ?_)
  · replace hv := hv.1 c47
    refine jg_iload_n dX10_item_132 rfl (List.Mem.tail _ (List.Mem.head _)) ?_
    refine jg_bipush (v := 66) dX10_item_133 (by decide) ?_
    refine jg_icmp_ne (tgt := 183) dX10_item_135 (by decide) (fun c48 => ?_) (fun c48 => ?_)
    · replace hv := hv.1 c48
      exact vX10_item_183 hv
    · replace hv := hv.2 c48
      refine jg_aload_n dX10_item_138 rfl (List.Mem.head _) ?_
      obtain ⟨f49, hv⟩ := hv
      refine jg_geti dX10_item_139 fl_RX10_102 rfl jsn f49 ?_
      refine jg_if_eq (tgt := 180) dX10_item_142 (by decide) (fun c50 => ?_) (fun c50 => ?_)
      · replace hv := hv.1 c50
        refine jg_bipush (v := (-3)) dX10_item_180 (by decide) ?_
        exact jg_iret dX10_item_182 rfl hv
      · replace hv := hv.2 c50
        refine jg_aload_n dX10_item_145 rfl (List.Mem.head _) ?_
        refine jg_getr dX10_item_146 fl_RX10_7 rfl jsn f49 ?_
        refine jg_aload_n dX10_item_149 rfl (List.Mem.head _) ?_
        refine jg_getr dX10_item_150 fl_RX10_22 rfl jsn f49 ?_
        refine jg_aload_n dX10_item_153 rfl (List.Mem.head _) ?_
        refine jg_geti dX10_item_154 fl_RX10_102 rfl jsn f49 ?_
        obtain ⟨f51, hv⟩ := hv
        obtain ⟨f52, hv⟩ := hv
        obtain ⟨f53, hv⟩ := hv
        refine jg_iald dX10_item_157 f51 f52 f53 ?_
        obtain ⟨f54, hv⟩ := hv
        obtain ⟨f55, hv⟩ := hv
        obtain ⟨f56, hv⟩ := hv
        refine jg_iald dX10_item_158 f54 f55 f56 ?_
        refine jg_iconst (v := 1) dX10_item_159 (by decide) ?_
        refine jg_icmp_ne (tgt := 180) dX10_item_160 (by decide) (fun c57 => ?_) (fun c57 => ?_)
        · replace hv := hv.1 c57
          refine jg_bipush (v := (-3)) dX10_item_180 (by decide) ?_
          exact jg_iret dX10_item_182 rfl hv
        · replace hv := hv.2 c57
          refine jg_aload_n dX10_item_163 rfl (List.Mem.head _) ?_
          refine jg_getr dX10_item_164 fl_RX10_13 rfl jsn f49 ?_
          refine jg_aload_n dX10_item_167 rfl (List.Mem.head _) ?_
          refine jg_getr dX10_item_168 fl_RX10_22 rfl jsn f49 ?_
          refine jg_aload_n dX10_item_171 rfl (List.Mem.head _) ?_
          refine jg_geti dX10_item_172 fl_RX10_102 rfl jsn f49 ?_
          refine jg_iald dX10_item_175 f51 f52 f53 ?_
          obtain ⟨f58, hv⟩ := hv
          obtain ⟨f59, hv⟩ := hv
          obtain ⟨f60, hv⟩ := hv
          refine jg_iald dX10_item_176 f58 f59 f60 ?_
          refine jg_if_eq (tgt := 183) dX10_item_177 (by decide) (fun c61 => ?_) (fun c61 => ?_)
          · replace hv := hv.1 c61
            exact vX10_item_183 hv
          · replace hv := hv.2 c61
            refine jg_bipush (v := (-3)) dX10_item_180 (by decide) ?_
            exact jg_iret dX10_item_182 rfl hv
  · replace hv := hv.2 c47
    refine jg_aload_n dX10_item_118 rfl (List.Mem.head _) ?_
    obtain ⟨f62, hv⟩ := hv
    refine jp_callV mX10_named [] [] dX10_item_119 rfl cl_RX10_117 ⟨⟨by decide, by decide⟩, by decide⟩ jsn f62 (Nat.zero_le _) (Nat.zero_le _) (jM.mono (jki_k (fun r63 h64 hv => ?_)) hv)
    refine jg_istore (lv' := [(5, .inl (r63)), (0, .inr (.inr (some (a0)))), (1, .inl (x1)), (2, .inl (x2)), (3, .inl (x3))]) dX10_item_122 (by decide) rfl ?_
    refine jg_iload dX10_item_124 (List.Mem.head _) ?_
    refine jg_if_ne (tgt := 183) dX10_item_126 (by decide) (fun c65 => ?_) (fun c65 => ?_)
    · replace hv := hv.1 c65
      refine jG.sub (lv' := [(0, .inr (.inr (some (a0)))), (1, .inl (x1)), (2, .inl (x2)), (3, .inl (x3)), (5, .inl (r63))]) (by simp) ?_
      exact vX10_item_183 hv
    · replace hv := hv.2 c65
      refine jg_bipush (v := (-3)) dX10_item_129 (by decide) ?_
      exact jg_iret dX10_item_131 rfl hv
def VX10_item_83 (g : jg) (a0 : Nat) (x1 : Int32) (x2 : Int32) (x3 : Int32) (h : jh) (k n : Nat) (Q : jq) : Prop := (((x1) ≤ (1) → VX10_item_112 g (a0) (x1) (x2) (x3) (0) h k n Q) ∧ (¬ (x1) ≤ (1) → (((50 : Int32) ≤ (x1) → VX10_item_112 g (a0) (x1) (x2) (x3) (0) h k n Q) ∧ (¬ (50 : Int32) ≤ (x1) → (jt h a0 = 9) ∧ jM g mX10_above [.inr (.inr (some a0)), .inl (x1)] h 0 0 (jki (fun (r69 : Int32) (h70 : jh) => ((¬ (r69) = 0 → VX10_item_183 g (a0) (x1) (x2) (x3) (r69) h70 k n Q) ∧ ((r69) = 0 → Q (.inl (some (.inl ((-3))))) h70))) (fun e h9 => Q (.inr e) h9))))))
set_option maxRecDepth 20000 in
theorem vX10_item_83 {g : jg} {a0 : Nat} {x1 : Int32} {x2 : Int32} {x3 : Int32} {h : jh} {k n : Nat} {Q : jq} (hv : VX10_item_83 g a0 x1 x2 x3 h k n Q) : jG g mX10_item 83 [(0, .inr (.inr (some (a0)))), (1, .inl (x1)), (2, .inl (x2)), (3, .inl (x3))] [] h k n Q := by
  unfold VX10_item_83 at hv
  refine jg_iconst (v := 0) dX10_item_83 (by decide) ?_
  refine jg_istore (lv' := [(5, .inl (0)), (0, .inr (.inr (some (a0)))), (1, .inl (x1)), (2, .inl (x2)), (3, .inl (x3))]) dX10_item_84 (by decide) rfl ?_
  refine jg_iload_n dX10_item_86 rfl (List.Mem.tail _ (List.Mem.tail _ (List.Mem.head _))) ?_
  refine jg_iconst (v := 1) dX10_item_87 (by decide) ?_
  refine jg_icmp_le (tgt := 112) dX10_item_88 (by decide) (fun c66 => ?_) (fun c66 => ?_)
  · replace hv := hv.1 c66
    refine jG.sub (lv' := [(0, .inr (.inr (some (a0)))), (1, .inl (x1)), (2, .inl (x2)), (3, .inl (x3)), (5, .inl (0))]) (by simp) ?_
    exact vX10_item_112 hv
  · replace hv := hv.2 c66
    refine jg_iload_n dX10_item_91 rfl (List.Mem.tail _ (List.Mem.tail _ (List.Mem.head _))) ?_
    refine jg_bipush (v := 50) dX10_item_92 (by decide) ?_
    refine jg_icmp_ge (tgt := 112) dX10_item_94 (by decide) (fun c67 => ?_) (fun c67 => ?_)
    · replace hv := hv.1 c67
      refine jG.sub (lv' := [(0, .inr (.inr (some (a0)))), (1, .inl (x1)), (2, .inl (x2)), (3, .inl (x3)), (5, .inl (0))]) (by simp) ?_
      exact vX10_item_112 hv
    · replace hv := hv.2 c67
      refine jg_aload_n dX10_item_97 rfl (List.Mem.tail _ (List.Mem.head _)) ?_
      refine jg_iload_n dX10_item_98 rfl (List.Mem.tail _ (List.Mem.tail _ (List.Mem.head _))) ?_
      obtain ⟨f68, hv⟩ := hv
      refine jp_callV mX10_above [.inl (x1)] [] dX10_item_99 rfl cl_RX10_113 ⟨⟨by decide, by decide⟩, by decide⟩ jsn f68 (Nat.zero_le _) (Nat.zero_le _) (jM.mono (jki_k (fun r69 h70 hv => ?_)) hv)
      refine jg_istore (lv' := [(5, .inl (r69)), (0, .inr (.inr (some (a0)))), (1, .inl (x1)), (2, .inl (x2)), (3, .inl (x3))]) dX10_item_102 (by decide) rfl ?_
      refine jg_iload dX10_item_104 (List.Mem.head _) ?_
      refine jg_if_ne (tgt := 183) dX10_item_106 (by decide) (fun c71 => ?_) (fun c71 => ?_)
      · replace hv := hv.1 c71
        refine jG.sub (lv' := [(0, .inr (.inr (some (a0)))), (1, .inl (x1)), (2, .inl (x2)), (3, .inl (x3)), (5, .inl (r69))]) (by simp) ?_
        exact vX10_item_183 hv
      · replace hv := hv.2 c71
        refine jg_bipush (v := (-3)) dX10_item_109 (by decide) ?_
        exact jg_iret dX10_item_111 rfl hv
def VX10_item_39 (g : jg) (a0 : Nat) (x1 : Int32) (x2 : Int32) (x3 : Int32) (s0 : Int32) (h : jh) (k n : Nat) (Q : jq) : Prop := (((s0) = 0 → Q (.inl (some (.inl ((-4))))) h) ∧ (¬ (s0) = 0 → (((x2) < 0 → Q (.inl (some (.inl ((-4))))) h) ∧ (¬ (x2) < 0 → (((11 : Int32) < (x2) → Q (.inl (some (.inl ((-4))))) h) ∧ (¬ (11 : Int32) < (x2) → jM g mX10_isSize [.inl (x2), .inl (x3)] h 0 0 (jki (fun (r75 : Int32) (h76 : jh) => (((r75) = 0 → Q (.inl (some (.inl ((-4))))) h76) ∧ (¬ (r75) = 0 → (((x1) = (66) → (((x2) = 0 → VX10_item_83 g (a0) (x1) (x2) (x3) h76 k n Q) ∧ (¬ (x2) = 0 → Q (.inl (some (.inl ((-4))))) h76))) ∧ (¬ (x1) = (66) → ((¬ (x1) = (88) → VX10_item_83 g (a0) (x1) (x2) (x3) h76 k n Q) ∧ ((x1) = (88) → (((x2) = 0 → VX10_item_83 g (a0) (x1) (x2) (x3) h76 k n Q) ∧ (¬ (x2) = 0 → Q (.inl (some (.inl ((-4))))) h76))))))))) (fun e h9 => Q (.inr e) h9))))))))
set_option maxRecDepth 20000 in
theorem vX10_item_39 {g : jg} {a0 : Nat} {x1 : Int32} {x2 : Int32} {x3 : Int32} {s0 : Int32} {h : jh} {k n : Nat} {Q : jq} (hv : VX10_item_39 g a0 x1 x2 x3 s0 h k n Q) : jG g mX10_item 39 [(0, .inr (.inr (some (a0)))), (1, .inl (x1)), (2, .inl (x2)), (3, .inl (x3))] [.inl (s0)] h k n Q := by
  unfold VX10_item_39 at hv
  refine jg_istore (lv' := [(4, .inl (s0)), (0, .inr (.inr (some (a0)))), (1, .inl (x1)), (2, .inl (x2)), (3, .inl (x3))]) dX10_item_39 (by decide) rfl ?_
  refine jg_iload dX10_item_41 (List.Mem.head _) ?_
  refine jg_if_eq (tgt := 80) dX10_item_43 (by decide) (fun c72 => ?_) (fun c72 => ?_)
  · replace hv := hv.1 c72
    refine jg_bipush (v := (-4)) dX10_item_80 (by decide) ?_
    exact jg_iret dX10_item_82 rfl hv
  · replace hv := hv.2 c72
    refine jg_iload_n dX10_item_46 rfl (List.Mem.tail _ (List.Mem.tail _ (List.Mem.tail _ (List.Mem.head _)))) ?_
    refine jg_if_lt (tgt := 80) dX10_item_47 (by decide) (fun c73 => ?_) (fun c73 => ?_)
    · replace hv := hv.1 c73
      refine jg_bipush (v := (-4)) dX10_item_80 (by decide) ?_
      exact jg_iret dX10_item_82 rfl hv
    · replace hv := hv.2 c73
      refine jg_iload_n dX10_item_50 rfl (List.Mem.tail _ (List.Mem.tail _ (List.Mem.tail _ (List.Mem.head _)))) ?_
      refine jg_bipush (v := 11) dX10_item_51 (by decide) ?_
      refine jg_icmp_gt (tgt := 80) dX10_item_53 (by decide) (fun c74 => ?_) (fun c74 => ?_)
      · replace hv := hv.1 c74
        refine jg_bipush (v := (-4)) dX10_item_80 (by decide) ?_
        exact jg_iret dX10_item_82 rfl hv
      · replace hv := hv.2 c74
        refine jg_iload_n dX10_item_56 rfl (List.Mem.tail _ (List.Mem.tail _ (List.Mem.tail _ (List.Mem.head _)))) ?_
        refine jg_iload_n dX10_item_57 rfl (List.Mem.tail _ (List.Mem.tail _ (List.Mem.tail _ (List.Mem.tail _ (List.Mem.head _))))) ?_
        refine jg_callS mX10_isSize [.inl (x2), .inl (x3)] [] dX10_item_58 rfl cl_RX10_109 ⟨⟨by decide, by decide⟩, by decide⟩ (Nat.zero_le _) (Nat.zero_le _) (jM.mono (jki_k (fun r75 h76 hv => ?_)) hv)
        refine jg_if_eq (tgt := 80) dX10_item_61 (by decide) (fun c77 => ?_) (fun c77 => ?_)
        · replace hv := hv.1 c77
          refine jg_bipush (v := (-4)) dX10_item_80 (by decide) ?_
          exact jg_iret dX10_item_82 rfl hv
        · replace hv := hv.2 c77
          refine jg_iload_n dX10_item_64 rfl (List.Mem.tail _ (List.Mem.tail _ (List.Mem.head _))) ?_
          refine jg_bipush (v := 66) dX10_item_65 (by decide) ?_
          refine jg_icmp_eq (tgt := 76) dX10_item_67 (by decide) (fun c78 => ?_) (fun c78 => ?_)
          · replace hv := hv.1 c78
            refine jg_iload_n dX10_item_76 rfl (List.Mem.tail _ (List.Mem.tail _ (List.Mem.tail _ (List.Mem.head _)))) ?_
            refine jg_if_eq (tgt := 83) dX10_item_77 (by decide) (fun c79 => ?_) (fun c79 => ?_)
            · replace hv := hv.1 c79
              refine jG.sub (lv' := [(0, .inr (.inr (some (a0)))), (1, .inl (x1)), (2, .inl (x2)), (3, .inl (x3))]) (by simp) ?_
              exact vX10_item_83 hv
            · replace hv := hv.2 c79
              refine jg_bipush (v := (-4)) dX10_item_80 (by decide) ?_
              exact jg_iret dX10_item_82 rfl hv
          · replace hv := hv.2 c78
            refine jg_iload_n dX10_item_70 rfl (List.Mem.tail _ (List.Mem.tail _ (List.Mem.head _))) ?_
            refine jg_bipush (v := 88) dX10_item_71 (by decide) ?_
            refine jg_icmp_ne (tgt := 83) dX10_item_73 (by decide) (fun c80 => ?_) (fun c80 => ?_)
            · replace hv := hv.1 c80
              refine jG.sub (lv' := [(0, .inr (.inr (some (a0)))), (1, .inl (x1)), (2, .inl (x2)), (3, .inl (x3))]) (by simp) ?_
              exact vX10_item_83 hv
            · replace hv := hv.2 c80
              refine jg_iload_n dX10_item_76 rfl (List.Mem.tail _ (List.Mem.tail _ (List.Mem.tail _ (List.Mem.head _)))) ?_
              refine jg_if_eq (tgt := 83) dX10_item_77 (by decide) (fun c81 => ?_) (fun c81 => ?_)
              · replace hv := hv.1 c81
                refine jG.sub (lv' := [(0, .inr (.inr (some (a0)))), (1, .inl (x1)), (2, .inl (x2)), (3, .inl (x3))]) (by simp) ?_
                exact vX10_item_83 hv
              · replace hv := hv.2 c81
                refine jg_bipush (v := (-4)) dX10_item_80 (by decide) ?_
                exact jg_iret dX10_item_82 rfl hv
def VX10_item_16 (g : jg) (a0 : Nat) (x1 : Int32) (x2 : Int32) (x3 : Int32) (h : jh) (k n : Nat) (Q : jq) : Prop := (((x1) = (66) → VX10_item_39 g (a0) (x1) (x2) (x3) (1) h k n Q) ∧ (¬ (x1) = (66) → (((x1) = (77) → VX10_item_39 g (a0) (x1) (x2) (x3) (1) h k n Q) ∧ (¬ (x1) = (77) → ((¬ (x1) = (88) → VX10_item_39 g (a0) (x1) (x2) (x3) (0) h k n Q) ∧ ((x1) = (88) → VX10_item_39 g (a0) (x1) (x2) (x3) (1) h k n Q))))))
set_option maxRecDepth 20000 in
theorem vX10_item_16 {g : jg} {a0 : Nat} {x1 : Int32} {x2 : Int32} {x3 : Int32} {h : jh} {k n : Nat} {Q : jq} (hv : VX10_item_16 g a0 x1 x2 x3 h k n Q) : jG g mX10_item 16 [(0, .inr (.inr (some (a0)))), (1, .inl (x1)), (2, .inl (x2)), (3, .inl (x3))] [] h k n Q := by
  unfold VX10_item_16 at hv
  refine jg_iload_n dX10_item_16 rfl (List.Mem.tail _ (List.Mem.head _)) ?_
  refine jg_bipush (v := 66) dX10_item_17 (by decide) ?_
  refine jg_icmp_eq (tgt := 34) dX10_item_19 (by decide) (fun c82 => ?_) (fun c82 => ?_)
  · replace hv := hv.1 c82
    refine jg_iconst (v := 1) dX10_item_34 (by decide) ?_
    refine jg_goto (tgt := 39) dX10_item_35 (by decide) ?_
    exact vX10_item_39 hv
  · replace hv := hv.2 c82
    refine jg_iload_n dX10_item_22 rfl (List.Mem.tail _ (List.Mem.head _)) ?_
    refine jg_bipush (v := 77) dX10_item_23 (by decide) ?_
    refine jg_icmp_eq (tgt := 34) dX10_item_25 (by decide) (fun c83 => ?_) (fun c83 => ?_)
    · replace hv := hv.1 c83
      refine jg_iconst (v := 1) dX10_item_34 (by decide) ?_
      refine jg_goto (tgt := 39) dX10_item_35 (by decide) ?_
      exact vX10_item_39 hv
    · replace hv := hv.2 c83
      refine jg_iload_n dX10_item_28 rfl (List.Mem.tail _ (List.Mem.head _)) ?_
      refine jg_bipush (v := 88) dX10_item_29 (by decide) ?_
      refine jg_icmp_ne (tgt := 38) dX10_item_31 (by decide) (fun c84 => ?_) (fun c84 => ?_)
      · replace hv := hv.1 c84
        refine jg_iconst (v := 0) dX10_item_38 (by decide) ?_
        exact vX10_item_39 hv
      · replace hv := hv.2 c84
        refine jg_iconst (v := 1) dX10_item_34 (by decide) ?_
        refine jg_goto (tgt := 39) dX10_item_35 (by decide) ?_
        exact vX10_item_39 hv
def VX10_item_0 (g : jg) (a0 : Nat) (x1 : Int32) (x2 : Int32) (x3 : Int32) (h : jh) (k n : Nat) (Q : jq) : Prop := (jt h a0 = 9) ∧ ∀ h86 : jh, h86 = jsi h 512 a0 (0) → (((x1) < (1) → VX10_item_16 g (a0) (x1) (x2) (x3) h86 k n Q) ∧ (¬ (x1) < (1) → (((x1) ≤ (49) → VX10_item_39 g (a0) (x1) (x2) (x3) (1) h86 k n Q) ∧ (¬ (x1) ≤ (49) → VX10_item_16 g (a0) (x1) (x2) (x3) h86 k n Q))))
set_option maxRecDepth 20000 in
theorem vX10_item_0 {g : jg} {a0 : Nat} {x1 : Int32} {x2 : Int32} {x3 : Int32} {h : jh} {k n : Nat} {Q : jq} (hv : VX10_item_0 g a0 x1 x2 x3 h k n Q) : jG g mX10_item 0 [(0, .inr (.inr (some (a0)))), (1, .inl (x1)), (2, .inl (x2)), (3, .inl (x3))] [] h k n Q := by
  unfold VX10_item_0 at hv
  refine jg_aload_n dX10_item_0 rfl (List.Mem.head _) ?_
  refine jg_iconst (v := 0) dX10_item_1 (by decide) ?_
  obtain ⟨f85, hv⟩ := hv
  obtain ⟨h86, e87⟩ : ∃ z : jh, z = jsi h 512 a0 (0) := ⟨_, rfl⟩
  replace hv := hv h86 e87
  refine jp_puti dX10_item_2 (jfp.nf fl_RX10_98 (fun q hq => by cases hq; rfl)) rfl jsn f85 e87 ?_
  refine jg_iload_n dX10_item_5 rfl (List.Mem.tail _ (List.Mem.head _)) ?_
  refine jg_iconst (v := 1) dX10_item_6 (by decide) ?_
  refine jg_icmp_lt (tgt := 16) dX10_item_7 (by decide) (fun c88 => ?_) (fun c88 => ?_)
  · replace hv := hv.1 c88
    exact vX10_item_16 hv
  · replace hv := hv.2 c88
    refine jg_iload_n dX10_item_10 rfl (List.Mem.tail _ (List.Mem.head _)) ?_
    refine jg_bipush (v := 49) dX10_item_11 (by decide) ?_
    refine jg_icmp_le (tgt := 34) dX10_item_13 (by decide) (fun c89 => ?_) (fun c89 => ?_)
    · replace hv := hv.1 c89
      refine jg_iconst (v := 1) dX10_item_34 (by decide) ?_
      refine jg_goto (tgt := 39) dX10_item_35 (by decide) ?_
      exact vX10_item_39 hv
    · replace hv := hv.2 c89
      exact vX10_item_16 hv
theorem eX10_item {g : jg} {a0 : Nat} {x1 : Int32} {x2 : Int32} {x3 : Int32} {h : jh} {mc ms : Nat} {Q : jq} (hv : VX10_item_0 g a0 x1 x2 x3 h mc ms Q) : jM g mX10_item [.inr (.inr (some (a0))), .inl (x1), .inl (x2), .inl (x3)] h mc ms Q := jM.of (by decide) (Nat.le_of_ble_eq_true rfl) (lv := [(0, .inr (.inr (some (a0)))), (1, .inl (x1)), (2, .inl (x2)), (3, .inl (x3))]) rfl (vX10_item_0 hv)
theorem dX10_isRedefined_0 : decode cX10_isRedefined 0 = .ok (.iconst 0, 1) := by decide +kernel
theorem dX10_isRedefined_1 : decode cX10_isRedefined 1 = .ok (.istore_n 2, 1) := by decide +kernel
theorem dX10_isRedefined_2 : decode cX10_isRedefined 2 = .ok (.iconst 1, 1) := by decide +kernel
theorem dX10_isRedefined_3 : decode cX10_isRedefined 3 = .ok (.istore_n 3, 1) := by decide +kernel
theorem dX10_isRedefined_4 : decode cX10_isRedefined 4 = .ok (.iload_n 3, 1) := by decide +kernel
theorem dX10_isRedefined_5 : decode cX10_isRedefined 5 = .ok (.aload_n 0, 1) := by decide +kernel
theorem dX10_isRedefined_6 : decode cX10_isRedefined 6 = .ok (.getfield 102, 3) := by decide +kernel
theorem dX10_isRedefined_9 : decode cX10_isRedefined 9 = .ok (.if_icmp .gt 29, 3) := by decide +kernel
theorem dX10_isRedefined_12 : decode cX10_isRedefined 12 = .ok (.iload_n 2, 1) := by decide +kernel
theorem dX10_isRedefined_13 : decode cX10_isRedefined 13 = .ok (.ifCond .ne 13, 3) := by decide +kernel
theorem dX10_isRedefined_16 : decode cX10_isRedefined 16 = .ok (.aload_n 0, 1) := by decide +kernel
theorem dX10_isRedefined_17 : decode cX10_isRedefined 17 = .ok (.getfield 56, 3) := by decide +kernel
theorem dX10_isRedefined_20 : decode cX10_isRedefined 20 = .ok (.iload_n 3, 1) := by decide +kernel
theorem dX10_isRedefined_21 : decode cX10_isRedefined 21 = .ok (.iaload, 1) := by decide +kernel
theorem dX10_isRedefined_22 : decode cX10_isRedefined 22 = .ok (.iload_n 1, 1) := by decide +kernel
theorem dX10_isRedefined_23 : decode cX10_isRedefined 23 = .ok (.if_icmp .ne 7, 3) := by decide +kernel
theorem dX10_isRedefined_26 : decode cX10_isRedefined 26 = .ok (.iconst 1, 1) := by decide +kernel
theorem dX10_isRedefined_27 : decode cX10_isRedefined 27 = .ok (.goto 4, 3) := by decide +kernel
theorem dX10_isRedefined_30 : decode cX10_isRedefined 30 = .ok (.iconst 0, 1) := by decide +kernel
theorem dX10_isRedefined_31 : decode cX10_isRedefined 31 = .ok (.istore_n 2, 1) := by decide +kernel
theorem dX10_isRedefined_32 : decode cX10_isRedefined 32 = .ok (.iinc 3 1, 3) := by decide +kernel
theorem dX10_isRedefined_35 : decode cX10_isRedefined 35 = .ok (.goto (-31), 3) := by decide +kernel
theorem dX10_isRedefined_38 : decode cX10_isRedefined 38 = .ok (.iload_n 2, 1) := by decide +kernel
theorem dX10_isRedefined_39 : decode cX10_isRedefined 39 = .ok (.ireturn, 1) := by decide +kernel
def VX10_isRedefined_4 (g : jg) (a0 : Nat) (x1 : Int32) (x2 : Int32) (x3 : Int32) (h : jh) (k n : Nat) (Q : jq) : Prop := (jt h a0 = 9) ∧ (((ji h 513 a0) < (x3) → ((x2) = 0 ∨ (x2) = 1) ∧ Q (.inl (some (.inl (x2)))) h) ∧ (¬ (ji h 513 a0) < (x3) → ((¬ (x2) = 0 → jG g mX10_isRedefined 4 [(0, .inr (.inr (some (a0)))), (1, .inl (x1)), (2, .inl (1)), (3, .inl ((x3) + 1))] [] h k n Q) ∧ ((x2) = 0 → (¬ (jr h 529 a0) = none) ∧ (jt h (jd (jr h 529 a0)) = 20) ∧ (vp_in (x3) (jn h (jd (jr h 529 a0)))) ∧ ((¬ (jI h (jd (jr h 529 a0)) (x3 : Int32).toNatClampNeg) = (x1) → jG g mX10_isRedefined 4 [(0, .inr (.inr (some (a0)))), (1, .inl (x1)), (2, .inl (0)), (3, .inl ((x3) + 1))] [] h k n Q) ∧ ((jI h (jd (jr h 529 a0)) (x3 : Int32).toNatClampNeg) = (x1) → jG g mX10_isRedefined 4 [(0, .inr (.inr (some (a0)))), (1, .inl (x1)), (2, .inl (1)), (3, .inl ((x3) + 1))] [] h k n Q))))))
set_option maxRecDepth 20000 in
theorem vX10_isRedefined_4 {g : jg} {a0 : Nat} {x1 : Int32} {x2 : Int32} {x3 : Int32} {h : jh} {k n : Nat} {Q : jq} (hv : VX10_isRedefined_4 g a0 x1 x2 x3 h k n Q) : jG g mX10_isRedefined 4 [(0, .inr (.inr (some (a0)))), (1, .inl (x1)), (2, .inl (x2)), (3, .inl (x3))] [] h k n Q := by
  unfold VX10_isRedefined_4 at hv
  refine jg_iload_n dX10_isRedefined_4 rfl (List.Mem.tail _ (List.Mem.tail _ (List.Mem.tail _ (List.Mem.head _)))) ?_
  refine jg_aload_n dX10_isRedefined_5 rfl (List.Mem.head _) ?_
  obtain ⟨f1, hv⟩ := hv
  refine jg_geti dX10_isRedefined_6 fl_RX10_102 rfl jsn f1 ?_
  refine jg_icmp_gt (tgt := 38) dX10_isRedefined_9 (by decide) (fun c2 => ?_) (fun c2 => ?_)
  · replace hv := hv.1 c2
    refine jg_iload_n dX10_isRedefined_38 rfl (List.Mem.tail _ (List.Mem.tail _ (List.Mem.head _))) ?_
    obtain ⟨f3, hv⟩ := hv
    exact jg_bret dX10_isRedefined_39 rfl f3 hv
  · replace hv := hv.2 c2
    refine jg_iload_n dX10_isRedefined_12 rfl (List.Mem.tail _ (List.Mem.tail _ (List.Mem.head _))) ?_
    refine jg_if_ne (tgt := 26) dX10_isRedefined_13 (by decide) (fun c4 => ?_) (fun c4 => ?_)
    · replace hv := hv.1 c4
      refine jg_iconst (v := 1) dX10_isRedefined_26 (by decide) ?_
      refine jg_goto (tgt := 31) dX10_isRedefined_27 (by decide) ?_
      refine jg_istore_n (lv' := [(2, .inl (1)), (0, .inr (.inr (some (a0)))), (1, .inl (x1)), (3, .inl (x3))]) dX10_isRedefined_31 rfl (by decide) rfl ?_
      refine jg_iinc (v := (x3) + 1) (lv' := [(3, .inl ((x3) + 1)), (2, .inl (1)), (0, .inr (.inr (some (a0)))), (1, .inl (x1))]) dX10_isRedefined_32 (List.Mem.tail _ (List.Mem.tail _ (List.Mem.tail _ (List.Mem.head _)))) rfl (by decide) rfl ?_
      refine jg_goto (tgt := 4) dX10_isRedefined_35 (by decide) ?_
      refine jG.sub (lv' := [(0, .inr (.inr (some (a0)))), (1, .inl (x1)), (2, .inl (1)), (3, .inl ((x3) + 1))]) (by simp) ?_
      exact hv
    · replace hv := hv.2 c4
      refine jg_aload_n dX10_isRedefined_16 rfl (List.Mem.head _) ?_
      refine jg_getr dX10_isRedefined_17 fl_RX10_56 rfl jsn f1 ?_
      refine jg_iload_n dX10_isRedefined_20 rfl (List.Mem.tail _ (List.Mem.tail _ (List.Mem.tail _ (List.Mem.head _)))) ?_
      obtain ⟨f5, hv⟩ := hv
      obtain ⟨f6, hv⟩ := hv
      obtain ⟨f7, hv⟩ := hv
      refine jg_iald dX10_isRedefined_21 f5 f6 f7 ?_
      refine jg_iload_n dX10_isRedefined_22 rfl (List.Mem.tail _ (List.Mem.head _)) ?_
      refine jg_icmp_ne (tgt := 30) dX10_isRedefined_23 (by decide) (fun c8 => ?_) (fun c8 => ?_)
      · replace hv := hv.1 c8
        refine jg_iconst (v := 0) dX10_isRedefined_30 (by decide) ?_
        refine jg_istore_n (lv' := [(2, .inl (0)), (0, .inr (.inr (some (a0)))), (1, .inl (x1)), (3, .inl (x3))]) dX10_isRedefined_31 rfl (by decide) rfl ?_
        refine jg_iinc (v := (x3) + 1) (lv' := [(3, .inl ((x3) + 1)), (2, .inl (0)), (0, .inr (.inr (some (a0)))), (1, .inl (x1))]) dX10_isRedefined_32 (List.Mem.tail _ (List.Mem.tail _ (List.Mem.tail _ (List.Mem.head _)))) rfl (by decide) rfl ?_
        refine jg_goto (tgt := 4) dX10_isRedefined_35 (by decide) ?_
        refine jG.sub (lv' := [(0, .inr (.inr (some (a0)))), (1, .inl (x1)), (2, .inl (0)), (3, .inl ((x3) + 1))]) (by simp) ?_
        exact hv
      · replace hv := hv.2 c8
        refine jg_iconst (v := 1) dX10_isRedefined_26 (by decide) ?_
        refine jg_goto (tgt := 31) dX10_isRedefined_27 (by decide) ?_
        refine jg_istore_n (lv' := [(2, .inl (1)), (0, .inr (.inr (some (a0)))), (1, .inl (x1)), (3, .inl (x3))]) dX10_isRedefined_31 rfl (by decide) rfl ?_
        refine jg_iinc (v := (x3) + 1) (lv' := [(3, .inl ((x3) + 1)), (2, .inl (1)), (0, .inr (.inr (some (a0)))), (1, .inl (x1))]) dX10_isRedefined_32 (List.Mem.tail _ (List.Mem.tail _ (List.Mem.tail _ (List.Mem.head _)))) rfl (by decide) rfl ?_
        refine jg_goto (tgt := 4) dX10_isRedefined_35 (by decide) ?_
        refine jG.sub (lv' := [(0, .inr (.inr (some (a0)))), (1, .inl (x1)), (2, .inl (1)), (3, .inl ((x3) + 1))]) (by simp) ?_
        exact hv
def VX10_isRedefined_0 (g : jg) (a0 : Nat) (x1 : Int32) (h : jh) (k n : Nat) (Q : jq) : Prop := jG g mX10_isRedefined 4 [(0, .inr (.inr (some (a0)))), (1, .inl (x1)), (2, .inl (0)), (3, .inl (1))] [] h k n Q
set_option maxRecDepth 20000 in
theorem vX10_isRedefined_0 {g : jg} {a0 : Nat} {x1 : Int32} {h : jh} {k n : Nat} {Q : jq} (hv : VX10_isRedefined_0 g a0 x1 h k n Q) : jG g mX10_isRedefined 0 [(0, .inr (.inr (some (a0)))), (1, .inl (x1))] [] h k n Q := by
  unfold VX10_isRedefined_0 at hv
  refine jg_iconst (v := 0) dX10_isRedefined_0 (by decide) ?_
  refine jg_istore_n (lv' := [(2, .inl (0)), (0, .inr (.inr (some (a0)))), (1, .inl (x1))]) dX10_isRedefined_1 rfl (by decide) rfl ?_
  refine jg_iconst (v := 1) dX10_isRedefined_2 (by decide) ?_
  refine jg_istore_n (lv' := [(3, .inl (1)), (2, .inl (0)), (0, .inr (.inr (some (a0)))), (1, .inl (x1))]) dX10_isRedefined_3 rfl (by decide) rfl ?_
  refine jG.sub (lv' := [(0, .inr (.inr (some (a0)))), (1, .inl (x1)), (2, .inl (0)), (3, .inl (1))]) (by simp) ?_
  exact hv
theorem eX10_isRedefined {g : jg} {a0 : Nat} {x1 : Int32} {h : jh} {mc ms : Nat} {Q : jq} (hv : VX10_isRedefined_0 g a0 x1 h mc ms Q) : jM g mX10_isRedefined [.inr (.inr (some (a0))), .inl (x1)] h mc ms Q := jM.of (by decide) (Nat.le_of_ble_eq_true rfl) (lv := [(0, .inr (.inr (some (a0)))), (1, .inl (x1))]) rfl (vX10_isRedefined_0 hv)
theorem dX10_isAside_0 : decode cX10_isAside 0 = .ok (.iload_n 1, 1) := by decide +kernel
theorem dX10_isAside_1 : decode cX10_isAside 1 = .ok (.istore_n 2, 1) := by decide +kernel
theorem dX10_isAside_2 : decode cX10_isAside 2 = .ok (.iload_n 2, 1) := by decide +kernel
theorem dX10_isAside_3 : decode cX10_isAside 3 = .ok (.ifCond .le 22, 3) := by decide +kernel
theorem dX10_isAside_6 : decode cX10_isAside 6 = .ok (.aload_n 0, 1) := by decide +kernel
theorem dX10_isAside_7 : decode cX10_isAside 7 = .ok (.getfield 56, 3) := by decide +kernel
theorem dX10_isAside_10 : decode cX10_isAside 10 = .ok (.iload_n 2, 1) := by decide +kernel
theorem dX10_isAside_11 : decode cX10_isAside 11 = .ok (.iaload, 1) := by decide +kernel
theorem dX10_isAside_12 : decode cX10_isAside 12 = .ok (.ifCond .ne 13, 3) := by decide +kernel
theorem dX10_isAside_15 : decode cX10_isAside 15 = .ok (.aload_n 0, 1) := by decide +kernel
theorem dX10_isAside_16 : decode cX10_isAside 16 = .ok (.getfield 19, 3) := by decide +kernel
theorem dX10_isAside_19 : decode cX10_isAside 19 = .ok (.iload_n 2, 1) := by decide +kernel
theorem dX10_isAside_20 : decode cX10_isAside 20 = .ok (.iaload, 1) := by decide +kernel
theorem dX10_isAside_21 : decode cX10_isAside 21 = .ok (.istore_n 2, 1) := by decide +kernel
theorem dX10_isAside_22 : decode cX10_isAside 22 = .ok (.goto (-20), 3) := by decide +kernel
theorem dX10_isAside_25 : decode cX10_isAside 25 = .ok (.iload_n 2, 1) := by decide +kernel
theorem dX10_isAside_26 : decode cX10_isAside 26 = .ok (.ifCond .le 7, 3) := by decide +kernel
theorem dX10_isAside_29 : decode cX10_isAside 29 = .ok (.iconst 1, 1) := by decide +kernel
theorem dX10_isAside_30 : decode cX10_isAside 30 = .ok (.goto 4, 3) := by decide +kernel
theorem dX10_isAside_33 : decode cX10_isAside 33 = .ok (.iconst 0, 1) := by decide +kernel
theorem dX10_isAside_34 : decode cX10_isAside 34 = .ok (.ireturn, 1) := by decide +kernel
def VX10_isAside_2 (g : jg) (a0 : Nat) (x2 : Int32) (h : jh) (k n : Nat) (Q : jq) : Prop := (((x2) ≤ 0 → (((x2) ≤ 0 → Q (.inl (some (.inl (0)))) h) ∧ (¬ (x2) ≤ 0 → Q (.inl (some (.inl (1)))) h))) ∧ (¬ (x2) ≤ 0 → (jt h a0 = 9) ∧ (¬ (jr h 529 a0) = none) ∧ (jt h (jd (jr h 529 a0)) = 20) ∧ (vp_in (x2) (jn h (jd (jr h 529 a0)))) ∧ ((¬ (jI h (jd (jr h 529 a0)) (x2 : Int32).toNatClampNeg) = 0 → (((x2) ≤ 0 → Q (.inl (some (.inl (0)))) h) ∧ (¬ (x2) ≤ 0 → Q (.inl (some (.inl (1)))) h))) ∧ ((jI h (jd (jr h 529 a0)) (x2 : Int32).toNatClampNeg) = 0 → (¬ (jr h 517 a0) = none) ∧ (jt h (jd (jr h 517 a0)) = 20) ∧ (vp_in (x2) (jn h (jd (jr h 517 a0)))) ∧ jG g mX10_isAside 2 [(0, .inr (.inr (some (a0)))), (2, .inl (jI h (jd (jr h 517 a0)) (x2 : Int32).toNatClampNeg))] [] h k n Q))))
set_option maxRecDepth 20000 in
theorem vX10_isAside_2 {g : jg} {a0 : Nat} {x2 : Int32} {h : jh} {k n : Nat} {Q : jq} (hv : VX10_isAside_2 g a0 x2 h k n Q) : jG g mX10_isAside 2 [(0, .inr (.inr (some (a0)))), (2, .inl (x2))] [] h k n Q := by
  unfold VX10_isAside_2 at hv
  refine jg_iload_n dX10_isAside_2 rfl (List.Mem.tail _ (List.Mem.head _)) ?_
  refine jg_if_le (tgt := 25) dX10_isAside_3 (by decide) (fun c1 => ?_) (fun c1 => ?_)
  · replace hv := hv.1 c1
    refine jg_iload_n dX10_isAside_25 rfl (List.Mem.tail _ (List.Mem.head _)) ?_
    refine jg_if_le (tgt := 33) dX10_isAside_26 (by decide) (fun c2 => ?_) (fun c2 => ?_)
    · replace hv := hv.1 c2
      refine jg_iconst (v := 0) dX10_isAside_33 (by decide) ?_
      exact jg_bret dX10_isAside_34 rfl (by decide) hv
    · replace hv := hv.2 c2
      refine jg_iconst (v := 1) dX10_isAside_29 (by decide) ?_
      refine jg_goto (tgt := 34) dX10_isAside_30 (by decide) ?_
      exact jg_bret dX10_isAside_34 rfl (by decide) hv
  · replace hv := hv.2 c1
    refine jg_aload_n dX10_isAside_6 rfl (List.Mem.head _) ?_
    obtain ⟨f3, hv⟩ := hv
    refine jg_getr dX10_isAside_7 fl_RX10_56 rfl jsn f3 ?_
    refine jg_iload_n dX10_isAside_10 rfl (List.Mem.tail _ (List.Mem.head _)) ?_
    obtain ⟨f4, hv⟩ := hv
    obtain ⟨f5, hv⟩ := hv
    obtain ⟨f6, hv⟩ := hv
    refine jg_iald dX10_isAside_11 f4 f5 f6 ?_
    refine jg_if_ne (tgt := 25) dX10_isAside_12 (by decide) (fun c7 => ?_) (fun c7 => ?_)
    · replace hv := hv.1 c7
      refine jg_iload_n dX10_isAside_25 rfl (List.Mem.tail _ (List.Mem.head _)) ?_
      refine jg_if_le (tgt := 33) dX10_isAside_26 (by decide) (fun c8 => ?_) (fun c8 => ?_)
      · replace hv := hv.1 c8
        refine jg_iconst (v := 0) dX10_isAside_33 (by decide) ?_
        exact jg_bret dX10_isAside_34 rfl (by decide) hv
      · replace hv := hv.2 c8
        refine jg_iconst (v := 1) dX10_isAside_29 (by decide) ?_
        refine jg_goto (tgt := 34) dX10_isAside_30 (by decide) ?_
        exact jg_bret dX10_isAside_34 rfl (by decide) hv
    · replace hv := hv.2 c7
      refine jg_aload_n dX10_isAside_15 rfl (List.Mem.head _) ?_
      refine jg_getr dX10_isAside_16 fl_RX10_19 rfl jsn f3 ?_
      refine jg_iload_n dX10_isAside_19 rfl (List.Mem.tail _ (List.Mem.head _)) ?_
      obtain ⟨f9, hv⟩ := hv
      obtain ⟨f10, hv⟩ := hv
      obtain ⟨f11, hv⟩ := hv
      refine jg_iald dX10_isAside_20 f9 f10 f11 ?_
      refine jg_istore_n (lv' := [(2, .inl (jI h (jd (jr h 517 a0)) (x2 : Int32).toNatClampNeg)), (0, .inr (.inr (some (a0))))]) dX10_isAside_21 rfl (by decide) rfl ?_
      refine jg_goto (tgt := 2) dX10_isAside_22 (by decide) ?_
      refine jG.sub (lv' := [(0, .inr (.inr (some (a0)))), (2, .inl (jI h (jd (jr h 517 a0)) (x2 : Int32).toNatClampNeg))]) (by simp) ?_
      exact hv
def VX10_isAside_0 (g : jg) (a0 : Nat) (x1 : Int32) (h : jh) (k n : Nat) (Q : jq) : Prop := jG g mX10_isAside 2 [(0, .inr (.inr (some (a0)))), (2, .inl (x1))] [] h k n Q
set_option maxRecDepth 20000 in
theorem vX10_isAside_0 {g : jg} {a0 : Nat} {x1 : Int32} {h : jh} {k n : Nat} {Q : jq} (hv : VX10_isAside_0 g a0 x1 h k n Q) : jG g mX10_isAside 0 [(0, .inr (.inr (some (a0)))), (1, .inl (x1))] [] h k n Q := by
  unfold VX10_isAside_0 at hv
  refine jg_iload_n dX10_isAside_0 rfl (List.Mem.tail _ (List.Mem.head _)) ?_
  refine jg_istore_n (lv' := [(2, .inl (x1)), (0, .inr (.inr (some (a0)))), (1, .inl (x1))]) dX10_isAside_1 rfl (by decide) rfl ?_
  refine jG.sub (lv' := [(0, .inr (.inr (some (a0)))), (2, .inl (x1))]) (by simp) ?_
  exact hv
theorem eX10_isAside {g : jg} {a0 : Nat} {x1 : Int32} {h : jh} {mc ms : Nat} {Q : jq} (hv : VX10_isAside_0 g a0 x1 h mc ms Q) : jM g mX10_isAside [.inr (.inr (some (a0))), .inl (x1)] h mc ms Q := jM.of (by decide) (Nat.le_of_ble_eq_true rfl) (lv := [(0, .inr (.inr (some (a0)))), (1, .inl (x1))]) rfl (vX10_isAside_0 hv)
theorem dX10_tablesUp_0 : decode cX10_tablesUp 0 = .ok (.iconst 0, 1) := by decide +kernel
theorem dX10_tablesUp_1 : decode cX10_tablesUp 1 = .ok (.istore_n 3, 1) := by decide +kernel
theorem dX10_tablesUp_2 : decode cX10_tablesUp 2 = .ok (.iload_n 1, 1) := by decide +kernel
theorem dX10_tablesUp_3 : decode cX10_tablesUp 3 = .ok (.istore 4, 2) := by decide +kernel
theorem dX10_tablesUp_5 : decode cX10_tablesUp 5 = .ok (.iload 4, 2) := by decide +kernel
theorem dX10_tablesUp_7 : decode cX10_tablesUp 7 = .ok (.ifCond .le 39, 3) := by decide +kernel
theorem dX10_tablesUp_10 : decode cX10_tablesUp 10 = .ok (.iload 4, 2) := by decide +kernel
theorem dX10_tablesUp_12 : decode cX10_tablesUp 12 = .ok (.iload_n 2, 1) := by decide +kernel
theorem dX10_tablesUp_13 : decode cX10_tablesUp 13 = .ok (.if_icmp .eq 33, 3) := by decide +kernel
theorem dX10_tablesUp_16 : decode cX10_tablesUp 16 = .ok (.iload_n 3, 1) := by decide +kernel
theorem dX10_tablesUp_17 : decode cX10_tablesUp 17 = .ok (.aload_n 0, 1) := by decide +kernel
theorem dX10_tablesUp_18 : decode cX10_tablesUp 18 = .ok (.getfield 25, 3) := by decide +kernel
theorem dX10_tablesUp_21 : decode cX10_tablesUp 21 = .ok (.iload 4, 2) := by decide +kernel
theorem dX10_tablesUp_23 : decode cX10_tablesUp 23 = .ok (.iaload, 1) := by decide +kernel
theorem dX10_tablesUp_24 : decode cX10_tablesUp 24 = .ok (.ifCond .le 7, 3) := by decide +kernel
theorem dX10_tablesUp_27 : decode cX10_tablesUp 27 = .ok (.iconst 1, 1) := by decide +kernel
theorem dX10_tablesUp_28 : decode cX10_tablesUp 28 = .ok (.goto 4, 3) := by decide +kernel
theorem dX10_tablesUp_31 : decode cX10_tablesUp 31 = .ok (.iconst 0, 1) := by decide +kernel
theorem dX10_tablesUp_32 : decode cX10_tablesUp 32 = .ok (.iadd, 1) := by decide +kernel
theorem dX10_tablesUp_33 : decode cX10_tablesUp 33 = .ok (.istore_n 3, 1) := by decide +kernel
theorem dX10_tablesUp_34 : decode cX10_tablesUp 34 = .ok (.aload_n 0, 1) := by decide +kernel
theorem dX10_tablesUp_35 : decode cX10_tablesUp 35 = .ok (.getfield 19, 3) := by decide +kernel
theorem dX10_tablesUp_38 : decode cX10_tablesUp 38 = .ok (.iload 4, 2) := by decide +kernel
theorem dX10_tablesUp_40 : decode cX10_tablesUp 40 = .ok (.iaload, 1) := by decide +kernel
theorem dX10_tablesUp_41 : decode cX10_tablesUp 41 = .ok (.istore 4, 2) := by decide +kernel
theorem dX10_tablesUp_43 : decode cX10_tablesUp 43 = .ok (.goto (-38), 3) := by decide +kernel
theorem dX10_tablesUp_46 : decode cX10_tablesUp 46 = .ok (.iload_n 3, 1) := by decide +kernel
theorem dX10_tablesUp_47 : decode cX10_tablesUp 47 = .ok (.ireturn, 1) := by decide +kernel
def VX10_tablesUp_32 (g : jg) (a0 : Nat) (x2 : Int32) (x4 : Int32) (s0 : Int32) (s1 : Int32) (h : jh) (k n : Nat) (Q : jq) : Prop := (jt h a0 = 9) ∧ (¬ (jr h 517 a0) = none) ∧ (jt h (jd (jr h 517 a0)) = 20) ∧ (vp_in (x4) (jn h (jd (jr h 517 a0)))) ∧ jG g mX10_tablesUp 5 [(0, .inr (.inr (some (a0)))), (2, .inl (x2)), (3, .inl ((s0) + (s1))), (4, .inl (jI h (jd (jr h 517 a0)) (x4 : Int32).toNatClampNeg))] [] h k n Q
set_option maxRecDepth 20000 in
theorem vX10_tablesUp_32 {g : jg} {a0 : Nat} {x2 : Int32} {x4 : Int32} {s0 : Int32} {s1 : Int32} {h : jh} {k n : Nat} {Q : jq} (hv : VX10_tablesUp_32 g a0 x2 x4 s0 s1 h k n Q) : jG g mX10_tablesUp 32 [(0, .inr (.inr (some (a0)))), (2, .inl (x2)), (4, .inl (x4))] [.inl (s1), .inl (s0)] h k n Q := by
  unfold VX10_tablesUp_32 at hv
  refine jg_iadd dX10_tablesUp_32 ?_
  refine jg_istore_n (lv' := [(3, .inl ((s0) + (s1))), (0, .inr (.inr (some (a0)))), (2, .inl (x2)), (4, .inl (x4))]) dX10_tablesUp_33 rfl (by decide) rfl ?_
  refine jg_aload_n dX10_tablesUp_34 rfl (List.Mem.tail _ (List.Mem.head _)) ?_
  obtain ⟨f1, hv⟩ := hv
  refine jg_getr dX10_tablesUp_35 fl_RX10_19 rfl jsn f1 ?_
  refine jg_iload dX10_tablesUp_38 (List.Mem.tail _ (List.Mem.tail _ (List.Mem.tail _ (List.Mem.head _)))) ?_
  obtain ⟨f2, hv⟩ := hv
  obtain ⟨f3, hv⟩ := hv
  obtain ⟨f4, hv⟩ := hv
  refine jg_iald dX10_tablesUp_40 f2 f3 f4 ?_
  refine jg_istore (lv' := [(4, .inl (jI h (jd (jr h 517 a0)) (x4 : Int32).toNatClampNeg)), (3, .inl ((s0) + (s1))), (0, .inr (.inr (some (a0)))), (2, .inl (x2))]) dX10_tablesUp_41 (by decide) rfl ?_
  refine jg_goto (tgt := 5) dX10_tablesUp_43 (by decide) ?_
  refine jG.sub (lv' := [(0, .inr (.inr (some (a0)))), (2, .inl (x2)), (3, .inl ((s0) + (s1))), (4, .inl (jI h (jd (jr h 517 a0)) (x4 : Int32).toNatClampNeg))]) (by simp) ?_
  exact hv
def VX10_tablesUp_5 (g : jg) (a0 : Nat) (x2 : Int32) (x3 : Int32) (x4 : Int32) (h : jh) (k n : Nat) (Q : jq) : Prop := (((x4) ≤ 0 → Q (.inl (some (.inl (x3)))) h) ∧ (¬ (x4) ≤ 0 → (((x4) = (x2) → Q (.inl (some (.inl (x3)))) h) ∧ (¬ (x4) = (x2) → (jt h a0 = 9) ∧ (¬ (jr h 519 a0) = none) ∧ (jt h (jd (jr h 519 a0)) = 20) ∧ (vp_in (x4) (jn h (jd (jr h 519 a0)))) ∧ (((jI h (jd (jr h 519 a0)) (x4 : Int32).toNatClampNeg) ≤ 0 → VX10_tablesUp_32 g (a0) (x2) (x4) (x3) (0) h k n Q) ∧ (¬ (jI h (jd (jr h 519 a0)) (x4 : Int32).toNatClampNeg) ≤ 0 → VX10_tablesUp_32 g (a0) (x2) (x4) (x3) (1) h k n Q))))))
set_option maxRecDepth 20000 in
theorem vX10_tablesUp_5 {g : jg} {a0 : Nat} {x2 : Int32} {x3 : Int32} {x4 : Int32} {h : jh} {k n : Nat} {Q : jq} (hv : VX10_tablesUp_5 g a0 x2 x3 x4 h k n Q) : jG g mX10_tablesUp 5 [(0, .inr (.inr (some (a0)))), (2, .inl (x2)), (3, .inl (x3)), (4, .inl (x4))] [] h k n Q := by
  unfold VX10_tablesUp_5 at hv
  refine jg_iload dX10_tablesUp_5 (List.Mem.tail _ (List.Mem.tail _ (List.Mem.tail _ (List.Mem.head _)))) ?_
  refine jg_if_le (tgt := 46) dX10_tablesUp_7 (by decide) (fun c5 => ?_) (fun c5 => ?_)
  · replace hv := hv.1 c5
    refine jg_iload_n dX10_tablesUp_46 rfl (List.Mem.tail _ (List.Mem.tail _ (List.Mem.head _))) ?_
    exact jg_iret dX10_tablesUp_47 rfl hv
  · replace hv := hv.2 c5
    refine jg_iload dX10_tablesUp_10 (List.Mem.tail _ (List.Mem.tail _ (List.Mem.tail _ (List.Mem.head _)))) ?_
    refine jg_iload_n dX10_tablesUp_12 rfl (List.Mem.tail _ (List.Mem.head _)) ?_
    refine jg_icmp_eq (tgt := 46) dX10_tablesUp_13 (by decide) (fun c6 => ?_) (fun c6 => ?_)
    · replace hv := hv.1 c6
      refine jg_iload_n dX10_tablesUp_46 rfl (List.Mem.tail _ (List.Mem.tail _ (List.Mem.head _))) ?_
      exact jg_iret dX10_tablesUp_47 rfl hv
    · replace hv := hv.2 c6
      refine jg_iload_n dX10_tablesUp_16 rfl (List.Mem.tail _ (List.Mem.tail _ (List.Mem.head _))) ?_
      refine jg_aload_n dX10_tablesUp_17 rfl (List.Mem.head _) ?_
      obtain ⟨f7, hv⟩ := hv
      refine jg_getr dX10_tablesUp_18 fl_RX10_25 rfl jsn f7 ?_
      refine jg_iload dX10_tablesUp_21 (List.Mem.tail _ (List.Mem.tail _ (List.Mem.tail _ (List.Mem.head _)))) ?_
      obtain ⟨f8, hv⟩ := hv
      obtain ⟨f9, hv⟩ := hv
      obtain ⟨f10, hv⟩ := hv
      refine jg_iald dX10_tablesUp_23 f8 f9 f10 ?_
      refine jg_if_le (tgt := 31) dX10_tablesUp_24 (by decide) (fun c11 => ?_) (fun c11 => ?_)
      · replace hv := hv.1 c11
        refine jg_iconst (v := 0) dX10_tablesUp_31 (by decide) ?_
        refine jG.sub (lv' := [(0, .inr (.inr (some (a0)))), (2, .inl (x2)), (4, .inl (x4))]) (by simp) ?_
        exact vX10_tablesUp_32 hv
      · replace hv := hv.2 c11
        refine jg_iconst (v := 1) dX10_tablesUp_27 (by decide) ?_
        refine jg_goto (tgt := 32) dX10_tablesUp_28 (by decide) ?_
        refine jG.sub (lv' := [(0, .inr (.inr (some (a0)))), (2, .inl (x2)), (4, .inl (x4))]) (by simp) ?_
        exact vX10_tablesUp_32 hv
def VX10_tablesUp_0 (g : jg) (a0 : Nat) (x1 : Int32) (x2 : Int32) (h : jh) (k n : Nat) (Q : jq) : Prop := jG g mX10_tablesUp 5 [(0, .inr (.inr (some (a0)))), (2, .inl (x2)), (3, .inl (0)), (4, .inl (x1))] [] h k n Q
set_option maxRecDepth 20000 in
theorem vX10_tablesUp_0 {g : jg} {a0 : Nat} {x1 : Int32} {x2 : Int32} {h : jh} {k n : Nat} {Q : jq} (hv : VX10_tablesUp_0 g a0 x1 x2 h k n Q) : jG g mX10_tablesUp 0 [(0, .inr (.inr (some (a0)))), (1, .inl (x1)), (2, .inl (x2))] [] h k n Q := by
  unfold VX10_tablesUp_0 at hv
  refine jg_iconst (v := 0) dX10_tablesUp_0 (by decide) ?_
  refine jg_istore_n (lv' := [(3, .inl (0)), (0, .inr (.inr (some (a0)))), (1, .inl (x1)), (2, .inl (x2))]) dX10_tablesUp_1 rfl (by decide) rfl ?_
  refine jg_iload_n dX10_tablesUp_2 rfl (List.Mem.tail _ (List.Mem.tail _ (List.Mem.head _))) ?_
  refine jg_istore (lv' := [(4, .inl (x1)), (3, .inl (0)), (0, .inr (.inr (some (a0)))), (1, .inl (x1)), (2, .inl (x2))]) dX10_tablesUp_3 (by decide) rfl ?_
  refine jG.sub (lv' := [(0, .inr (.inr (some (a0)))), (2, .inl (x2)), (3, .inl (0)), (4, .inl (x1))]) (by simp) ?_
  exact hv
theorem eX10_tablesUp {g : jg} {a0 : Nat} {x1 : Int32} {x2 : Int32} {h : jh} {mc ms : Nat} {Q : jq} (hv : VX10_tablesUp_0 g a0 x1 x2 h mc ms Q) : jM g mX10_tablesUp [.inr (.inr (some (a0))), .inl (x1), .inl (x2)] h mc ms Q := jM.of (by decide) (Nat.le_of_ble_eq_true rfl) (lv := [(0, .inr (.inr (some (a0)))), (1, .inl (x1)), (2, .inl (x2))]) rfl (vX10_tablesUp_0 hv)
theorem dX10_mayBeTable_0 : decode cX10_mayBeTable 0 = .ok (.aload_n 0, 1) := by decide +kernel
theorem dX10_mayBeTable_1 : decode cX10_mayBeTable 1 = .ok (.getfield 7, 3) := by decide +kernel
theorem dX10_mayBeTable_4 : decode cX10_mayBeTable 4 = .ok (.iload_n 1, 1) := by decide +kernel
theorem dX10_mayBeTable_5 : decode cX10_mayBeTable 5 = .ok (.iaload, 1) := by decide +kernel
theorem dX10_mayBeTable_6 : decode cX10_mayBeTable 6 = .ok (.iconst 2, 1) := by decide +kernel
theorem dX10_mayBeTable_7 : decode cX10_mayBeTable 7 = .ok (.if_icmp .lt 31, 3) := by decide +kernel
theorem dX10_mayBeTable_10 : decode cX10_mayBeTable 10 = .ok (.aload_n 0, 1) := by decide +kernel
theorem dX10_mayBeTable_11 : decode cX10_mayBeTable 11 = .ok (.getfield 7, 3) := by decide +kernel
theorem dX10_mayBeTable_14 : decode cX10_mayBeTable 14 = .ok (.iload_n 1, 1) := by decide +kernel
theorem dX10_mayBeTable_15 : decode cX10_mayBeTable 15 = .ok (.iaload, 1) := by decide +kernel
theorem dX10_mayBeTable_16 : decode cX10_mayBeTable 16 = .ok (.bipush 49, 2) := by decide +kernel
theorem dX10_mayBeTable_18 : decode cX10_mayBeTable 18 = .ok (.if_icmp .gt 20, 3) := by decide +kernel
theorem dX10_mayBeTable_21 : decode cX10_mayBeTable 21 = .ok (.aload_n 0, 1) := by decide +kernel
theorem dX10_mayBeTable_22 : decode cX10_mayBeTable 22 = .ok (.getfield 25, 3) := by decide +kernel
theorem dX10_mayBeTable_25 : decode cX10_mayBeTable 25 = .ok (.iload_n 1, 1) := by decide +kernel
theorem dX10_mayBeTable_26 : decode cX10_mayBeTable 26 = .ok (.iaload, 1) := by decide +kernel
theorem dX10_mayBeTable_27 : decode cX10_mayBeTable 27 = .ok (.ifCond .gt 11, 3) := by decide +kernel
theorem dX10_mayBeTable_30 : decode cX10_mayBeTable 30 = .ok (.aload_n 0, 1) := by decide +kernel
theorem dX10_mayBeTable_31 : decode cX10_mayBeTable 31 = .ok (.iload_n 1, 1) := by decide +kernel
theorem dX10_mayBeTable_32 : decode cX10_mayBeTable 32 = .ok (.invokevirtual 124, 3) := by decide +kernel
theorem dX10_mayBeTable_35 : decode cX10_mayBeTable 35 = .ok (.ifCond .eq 5, 3) := by decide +kernel
theorem dX10_mayBeTable_38 : decode cX10_mayBeTable 38 = .ok (.iconst 0, 1) := by decide +kernel
theorem dX10_mayBeTable_39 : decode cX10_mayBeTable 39 = .ok (.ireturn, 1) := by decide +kernel
theorem dX10_mayBeTable_40 : decode cX10_mayBeTable 40 = .ok (.aload_n 0, 1) := by decide +kernel
theorem dX10_mayBeTable_41 : decode cX10_mayBeTable 41 = .ok (.aload_n 0, 1) := by decide +kernel
theorem dX10_mayBeTable_42 : decode cX10_mayBeTable 42 = .ok (.getfield 19, 3) := by decide +kernel
theorem dX10_mayBeTable_45 : decode cX10_mayBeTable 45 = .ok (.iload_n 1, 1) := by decide +kernel
theorem dX10_mayBeTable_46 : decode cX10_mayBeTable 46 = .ok (.iaload, 1) := by decide +kernel
theorem dX10_mayBeTable_47 : decode cX10_mayBeTable 47 = .ok (.iconst 0, 1) := by decide +kernel
theorem dX10_mayBeTable_48 : decode cX10_mayBeTable 48 = .ok (.invokevirtual 127, 3) := by decide +kernel
theorem dX10_mayBeTable_51 : decode cX10_mayBeTable 51 = .ok (.istore_n 3, 1) := by decide +kernel
theorem dX10_mayBeTable_52 : decode cX10_mayBeTable 52 = .ok (.iload_n 2, 1) := by decide +kernel
theorem dX10_mayBeTable_53 : decode cX10_mayBeTable 53 = .ok (.ifCond .eq 9, 3) := by decide +kernel
theorem dX10_mayBeTable_56 : decode cX10_mayBeTable 56 = .ok (.iload_n 3, 1) := by decide +kernel
theorem dX10_mayBeTable_57 : decode cX10_mayBeTable 57 = .ok (.ifCond .le 5, 3) := by decide +kernel
theorem dX10_mayBeTable_60 : decode cX10_mayBeTable 60 = .ok (.iconst 0, 1) := by decide +kernel
theorem dX10_mayBeTable_61 : decode cX10_mayBeTable 61 = .ok (.ireturn, 1) := by decide +kernel
theorem dX10_mayBeTable_62 : decode cX10_mayBeTable 62 = .ok (.iconst 0, 1) := by decide +kernel
theorem dX10_mayBeTable_63 : decode cX10_mayBeTable 63 = .ok (.istore 4, 2) := by decide +kernel
theorem dX10_mayBeTable_65 : decode cX10_mayBeTable 65 = .ok (.iload_n 1, 1) := by decide +kernel
theorem dX10_mayBeTable_66 : decode cX10_mayBeTable 66 = .ok (.iconst 1, 1) := by decide +kernel
theorem dX10_mayBeTable_67 : decode cX10_mayBeTable 67 = .ok (.iadd, 1) := by decide +kernel
theorem dX10_mayBeTable_68 : decode cX10_mayBeTable 68 = .ok (.istore 5, 2) := by decide +kernel
theorem dX10_mayBeTable_70 : decode cX10_mayBeTable 70 = .ok (.iload 5, 2) := by decide +kernel
theorem dX10_mayBeTable_72 : decode cX10_mayBeTable 72 = .ok (.aload_n 0, 1) := by decide +kernel
theorem dX10_mayBeTable_73 : decode cX10_mayBeTable 73 = .ok (.getfield 102, 3) := by decide +kernel
theorem dX10_mayBeTable_76 : decode cX10_mayBeTable 76 = .ok (.if_icmp .gt 69, 3) := by decide +kernel
theorem dX10_mayBeTable_79 : decode cX10_mayBeTable 79 = .ok (.aload_n 0, 1) := by decide +kernel
theorem dX10_mayBeTable_80 : decode cX10_mayBeTable 80 = .ok (.iload 5, 2) := by decide +kernel
theorem dX10_mayBeTable_82 : decode cX10_mayBeTable 82 = .ok (.invokevirtual 105, 3) := by decide +kernel
theorem dX10_mayBeTable_85 : decode cX10_mayBeTable 85 = .ok (.ifCond .eq 54, 3) := by decide +kernel
theorem dX10_mayBeTable_88 : decode cX10_mayBeTable 88 = .ok (.aload_n 0, 1) := by decide +kernel
theorem dX10_mayBeTable_89 : decode cX10_mayBeTable 89 = .ok (.iload 5, 2) := by decide +kernel
theorem dX10_mayBeTable_91 : decode cX10_mayBeTable 91 = .ok (.iload_n 1, 1) := by decide +kernel
theorem dX10_mayBeTable_92 : decode cX10_mayBeTable 92 = .ok (.invokevirtual 131, 3) := by decide +kernel
theorem dX10_mayBeTable_95 : decode cX10_mayBeTable 95 = .ok (.ifCond .ne 6, 3) := by decide +kernel
theorem dX10_mayBeTable_98 : decode cX10_mayBeTable 98 = .ok (.goto 41, 3) := by decide +kernel
theorem dX10_mayBeTable_101 : decode cX10_mayBeTable 101 = .ok (.aload_n 0, 1) := by decide +kernel
theorem dX10_mayBeTable_102 : decode cX10_mayBeTable 102 = .ok (.getfield 25, 3) := by decide +kernel
theorem dX10_mayBeTable_105 : decode cX10_mayBeTable 105 = .ok (.iload 5, 2) := by decide +kernel
theorem dX10_mayBeTable_107 : decode cX10_mayBeTable 107 = .ok (.iaload, 1) := by decide +kernel
theorem dX10_mayBeTable_108 : decode cX10_mayBeTable 108 = .ok (.iconst 2, 1) := by decide +kernel
theorem dX10_mayBeTable_109 : decode cX10_mayBeTable 109 = .ok (.if_icmp .ne 5, 3) := by decide +kernel
theorem dX10_mayBeTable_112 : decode cX10_mayBeTable 112 = .ok (.iconst 0, 1) := by decide +kernel
theorem dX10_mayBeTable_113 : decode cX10_mayBeTable 113 = .ok (.ireturn, 1) := by decide +kernel
theorem dX10_mayBeTable_114 : decode cX10_mayBeTable 114 = .ok (.aload_n 0, 1) := by decide +kernel
theorem dX10_mayBeTable_115 : decode cX10_mayBeTable 115 = .ok (.iload 5, 2) := by decide +kernel
theorem dX10_mayBeTable_117 : decode cX10_mayBeTable 117 = .ok (.iload_n 1, 1) := by decide +kernel
theorem dX10_mayBeTable_118 : decode cX10_mayBeTable 118 = .ok (.invokevirtual 127, 3) := by decide +kernel
theorem dX10_mayBeTable_121 : decode cX10_mayBeTable 121 = .ok (.istore 6, 2) := by decide +kernel
theorem dX10_mayBeTable_123 : decode cX10_mayBeTable 123 = .ok (.iload 6, 2) := by decide +kernel
theorem dX10_mayBeTable_125 : decode cX10_mayBeTable 125 = .ok (.iload 4, 2) := by decide +kernel
theorem dX10_mayBeTable_127 : decode cX10_mayBeTable 127 = .ok (.if_icmp .le 8, 3) := by decide +kernel
theorem dX10_mayBeTable_130 : decode cX10_mayBeTable 130 = .ok (.iload 6, 2) := by decide +kernel
theorem dX10_mayBeTable_132 : decode cX10_mayBeTable 132 = .ok (.goto 5, 3) := by decide +kernel
theorem dX10_mayBeTable_135 : decode cX10_mayBeTable 135 = .ok (.iload 4, 2) := by decide +kernel
theorem dX10_mayBeTable_137 : decode cX10_mayBeTable 137 = .ok (.istore 4, 2) := by decide +kernel
theorem dX10_mayBeTable_139 : decode cX10_mayBeTable 139 = .ok (.iinc 5 1, 3) := by decide +kernel
theorem dX10_mayBeTable_142 : decode cX10_mayBeTable 142 = .ok (.goto (-72), 3) := by decide +kernel
theorem dX10_mayBeTable_145 : decode cX10_mayBeTable 145 = .ok (.iload_n 3, 1) := by decide +kernel
theorem dX10_mayBeTable_146 : decode cX10_mayBeTable 146 = .ok (.iconst 1, 1) := by decide +kernel
theorem dX10_mayBeTable_147 : decode cX10_mayBeTable 147 = .ok (.iadd, 1) := by decide +kernel
theorem dX10_mayBeTable_148 : decode cX10_mayBeTable 148 = .ok (.iload 4, 2) := by decide +kernel
theorem dX10_mayBeTable_150 : decode cX10_mayBeTable 150 = .ok (.iadd, 1) := by decide +kernel
theorem dX10_mayBeTable_151 : decode cX10_mayBeTable 151 = .ok (.iconst 3, 1) := by decide +kernel
theorem dX10_mayBeTable_152 : decode cX10_mayBeTable 152 = .ok (.if_icmp .gt 7, 3) := by decide +kernel
theorem dX10_mayBeTable_155 : decode cX10_mayBeTable 155 = .ok (.iconst 1, 1) := by decide +kernel
theorem dX10_mayBeTable_156 : decode cX10_mayBeTable 156 = .ok (.goto 4, 3) := by decide +kernel
theorem dX10_mayBeTable_159 : decode cX10_mayBeTable 159 = .ok (.iconst 0, 1) := by decide +kernel
theorem dX10_mayBeTable_160 : decode cX10_mayBeTable 160 = .ok (.ireturn, 1) := by decide +kernel
def VX10_mayBeTable_70 (g : jg) (a0 : Nat) (x1 : Int32) (x3 : Int32) (x4 : Int32) (x5 : Int32) (h : jh) (k n : Nat) (Q : jq) : Prop := (jt h a0 = 9) ∧ (((ji h 513 a0) < (x5) → (((3 : Int32) < (((x3) + (1)) + (x4)) → Q (.inl (some (.inl (0)))) h) ∧ (¬ (3 : Int32) < (((x3) + (1)) + (x4)) → Q (.inl (some (.inl (1)))) h))) ∧ (¬ (ji h 513 a0) < (x5) → jM g mX10_lies [.inr (.inr (some a0)), .inl (x5)] h 0 0 (jki (fun (r4 : Int32) (h5 : jh) => (((r4) = 0 → jG g mX10_mayBeTable 70 [(0, .inr (.inr (some (a0)))), (1, .inl (x1)), (3, .inl (x3)), (4, .inl (x4)), (5, .inl ((x5) + 1))] [] h5 k n Q) ∧ (¬ (r4) = 0 → (jt h5 a0 = 9) ∧ jM g mX10_isBelow [.inr (.inr (some a0)), .inl (x5), .inl (x1)] h5 0 0 (jki (fun (r8 : Int32) (h9 : jh) => ((¬ (r8) = 0 → (jt h9 a0 = 9) ∧ (¬ (jr h9 519 a0) = none) ∧ (jt h9 (jd (jr h9 519 a0)) = 20) ∧ (vp_in (x5) (jn h9 (jd (jr h9 519 a0)))) ∧ ((¬ (jI h9 (jd (jr h9 519 a0)) (x5 : Int32).toNatClampNeg) = (2) → jM g mX10_tablesUp [.inr (.inr (some a0)), .inl (x5), .inl (x1)] h9 0 0 (jki (fun (r16 : Int32) (h17 : jh) => (((r16) ≤ (x4) → jG g mX10_mayBeTable 70 [(0, .inr (.inr (some (a0)))), (1, .inl (x1)), (3, .inl (x3)), (4, .inl (x4)), (5, .inl ((x5) + 1))] [] h17 k n Q) ∧ (¬ (r16) ≤ (x4) → jG g mX10_mayBeTable 70 [(0, .inr (.inr (some (a0)))), (1, .inl (x1)), (3, .inl (x3)), (4, .inl (r16)), (5, .inl ((x5) + 1))] [] h17 k n Q))) (fun e h9 => Q (.inr e) h9))) ∧ ((jI h9 (jd (jr h9 519 a0)) (x5 : Int32).toNatClampNeg) = (2) → Q (.inl (some (.inl (0)))) h9))) ∧ ((r8) = 0 → jG g mX10_mayBeTable 70 [(0, .inr (.inr (some (a0)))), (1, .inl (x1)), (3, .inl (x3)), (4, .inl (x4)), (5, .inl ((x5) + 1))] [] h9 k n Q))) (fun e h9 => Q (.inr e) h9))))) (fun e h9 => Q (.inr e) h9))))
set_option maxRecDepth 20000 in
theorem vX10_mayBeTable_70 {g : jg} {a0 : Nat} {x1 : Int32} {x3 : Int32} {x4 : Int32} {x5 : Int32} {h : jh} {k n : Nat} {Q : jq} (hv : VX10_mayBeTable_70 g a0 x1 x3 x4 x5 h k n Q) : jG g mX10_mayBeTable 70 [(0, .inr (.inr (some (a0)))), (1, .inl (x1)), (3, .inl (x3)), (4, .inl (x4)), (5, .inl (x5))] [] h k n Q := by
  unfold VX10_mayBeTable_70 at hv
  refine jg_iload dX10_mayBeTable_70 (List.Mem.tail _ (List.Mem.tail _ (List.Mem.tail _ (List.Mem.tail _ (List.Mem.head _))))) ?_
  refine jg_aload_n dX10_mayBeTable_72 rfl (List.Mem.head _) ?_
  obtain ⟨f1, hv⟩ := hv
  refine jg_geti dX10_mayBeTable_73 fl_RX10_102 rfl jsn f1 ?_
  refine jg_icmp_gt (tgt := 145) dX10_mayBeTable_76 (by decide) (fun c2 => ?_) (fun c2 => ?_)
  · replace hv := hv.1 c2
    refine jg_iload_n dX10_mayBeTable_145 rfl (List.Mem.tail _ (List.Mem.tail _ (List.Mem.head _))) ?_
    refine jg_iconst (v := 1) dX10_mayBeTable_146 (by decide) ?_
    refine jg_iadd dX10_mayBeTable_147 ?_
    refine jg_iload dX10_mayBeTable_148 (List.Mem.tail _ (List.Mem.tail _ (List.Mem.tail _ (List.Mem.head _)))) ?_
    refine jg_iadd dX10_mayBeTable_150 ?_
    refine jg_iconst (v := 3) dX10_mayBeTable_151 (by decide) ?_
    refine jg_icmp_gt (tgt := 159) dX10_mayBeTable_152 (by decide) (fun c3 => ?_) (fun c3 => ?_)
    · replace hv := hv.1 c3
      refine jg_iconst (v := 0) dX10_mayBeTable_159 (by decide) ?_
      exact jg_bret dX10_mayBeTable_160 rfl (by decide) hv
    · replace hv := hv.2 c3
      refine jg_iconst (v := 1) dX10_mayBeTable_155 (by decide) ?_
      refine jg_goto (tgt := 160) dX10_mayBeTable_156 (by decide) ?_
      exact jg_bret dX10_mayBeTable_160 rfl (by decide) hv
  · replace hv := hv.2 c2
    refine jg_aload_n dX10_mayBeTable_79 rfl (List.Mem.head _) ?_
    refine jg_iload dX10_mayBeTable_80 (List.Mem.tail _ (List.Mem.tail _ (List.Mem.tail _ (List.Mem.tail _ (List.Mem.head _))))) ?_
    refine jp_callV mX10_lies [.inl (x5)] [] dX10_mayBeTable_82 rfl cl_RX10_105 ⟨⟨by decide, by decide⟩, by decide⟩ jsn f1 (Nat.zero_le _) (Nat.zero_le _) (jM.mono (jki_k (fun r4 h5 hv => ?_)) hv)
    refine jg_if_eq (tgt := 139) dX10_mayBeTable_85 (by decide) (fun c6 => ?_) (fun c6 => ?_)
    · replace hv := hv.1 c6
      refine jg_iinc (v := (x5) + 1) (lv' := [(5, .inl ((x5) + 1)), (0, .inr (.inr (some (a0)))), (1, .inl (x1)), (3, .inl (x3)), (4, .inl (x4))]) dX10_mayBeTable_139 (List.Mem.tail _ (List.Mem.tail _ (List.Mem.tail _ (List.Mem.tail _ (List.Mem.head _))))) rfl (by decide) rfl ?_
      refine jg_goto (tgt := 70) dX10_mayBeTable_142 (by decide) ?_
      refine jG.sub (lv' := [(0, .inr (.inr (some (a0)))), (1, .inl (x1)), (3, .inl (x3)), (4, .inl (x4)), (5, .inl ((x5) + 1))]) (by simp) ?_
      exact hv
    · replace hv := hv.2 c6
      refine jg_aload_n dX10_mayBeTable_88 rfl (List.Mem.head _) ?_
      refine jg_iload dX10_mayBeTable_89 (List.Mem.tail _ (List.Mem.tail _ (List.Mem.tail _ (List.Mem.tail _ (List.Mem.head _))))) ?_
      refine jg_iload_n dX10_mayBeTable_91 rfl (List.Mem.tail _ (List.Mem.head _)) ?_
      obtain ⟨f7, hv⟩ := hv
      refine jp_callV mX10_isBelow [.inl (x5), .inl (x1)] [] dX10_mayBeTable_92 rfl cl_RX10_131 ⟨⟨by decide, by decide⟩, by decide⟩ jsn f7 (Nat.zero_le _) (Nat.zero_le _) (jM.mono (jki_k (fun r8 h9 hv => ?_)) hv)
      refine jg_if_ne (tgt := 101) dX10_mayBeTable_95 (by decide) (fun c10 => ?_) (fun c10 => ?_)
      · replace hv := hv.1 c10
        refine jg_aload_n dX10_mayBeTable_101 rfl (List.Mem.head _) ?_
        obtain ⟨f11, hv⟩ := hv
        refine jg_getr dX10_mayBeTable_102 fl_RX10_25 rfl jsn f11 ?_
        refine jg_iload dX10_mayBeTable_105 (List.Mem.tail _ (List.Mem.tail _ (List.Mem.tail _ (List.Mem.tail _ (List.Mem.head _))))) ?_
        obtain ⟨f12, hv⟩ := hv
        obtain ⟨f13, hv⟩ := hv
        obtain ⟨f14, hv⟩ := hv
        refine jg_iald dX10_mayBeTable_107 f12 f13 f14 ?_
        refine jg_iconst (v := 2) dX10_mayBeTable_108 (by decide) ?_
        refine jg_icmp_ne (tgt := 114) dX10_mayBeTable_109 (by decide) (fun c15 => ?_) (fun c15 => ?_)
        · replace hv := hv.1 c15
          refine jg_aload_n dX10_mayBeTable_114 rfl (List.Mem.head _) ?_
          refine jg_iload dX10_mayBeTable_115 (List.Mem.tail _ (List.Mem.tail _ (List.Mem.tail _ (List.Mem.tail _ (List.Mem.head _))))) ?_
          refine jg_iload_n dX10_mayBeTable_117 rfl (List.Mem.tail _ (List.Mem.head _)) ?_
          refine jp_callV mX10_tablesUp [.inl (x5), .inl (x1)] [] dX10_mayBeTable_118 rfl cl_RX10_127 ⟨⟨by decide, by decide⟩, by decide⟩ jsn f11 (Nat.zero_le _) (Nat.zero_le _) (jM.mono (jki_k (fun r16 h17 hv => ?_)) hv)
          refine jg_istore (lv' := [(6, .inl (r16)), (0, .inr (.inr (some (a0)))), (1, .inl (x1)), (3, .inl (x3)), (4, .inl (x4)), (5, .inl (x5))]) dX10_mayBeTable_121 (by decide) rfl ?_
          refine jg_iload dX10_mayBeTable_123 (List.Mem.head _) ?_
          refine jg_iload dX10_mayBeTable_125 (List.Mem.tail _ (List.Mem.tail _ (List.Mem.tail _ (List.Mem.tail _ (List.Mem.head _))))) ?_
          refine jg_icmp_le (tgt := 135) dX10_mayBeTable_127 (by decide) (fun c18 => ?_) (fun c18 => ?_)
          · replace hv := hv.1 c18
            refine jg_iload dX10_mayBeTable_135 (List.Mem.tail _ (List.Mem.tail _ (List.Mem.tail _ (List.Mem.tail _ (List.Mem.head _))))) ?_
            refine jg_istore (lv' := [(4, .inl (x4)), (6, .inl (r16)), (0, .inr (.inr (some (a0)))), (1, .inl (x1)), (3, .inl (x3)), (5, .inl (x5))]) dX10_mayBeTable_137 (by decide) rfl ?_
            refine jg_iinc (v := (x5) + 1) (lv' := [(5, .inl ((x5) + 1)), (4, .inl (x4)), (6, .inl (r16)), (0, .inr (.inr (some (a0)))), (1, .inl (x1)), (3, .inl (x3))]) dX10_mayBeTable_139 (List.Mem.tail _ (List.Mem.tail _ (List.Mem.tail _ (List.Mem.tail _ (List.Mem.tail _ (List.Mem.head _)))))) rfl (by decide) rfl ?_
            refine jg_goto (tgt := 70) dX10_mayBeTable_142 (by decide) ?_
            refine jG.sub (lv' := [(0, .inr (.inr (some (a0)))), (1, .inl (x1)), (3, .inl (x3)), (4, .inl (x4)), (5, .inl ((x5) + 1))]) (by simp) ?_
            exact hv
          · replace hv := hv.2 c18
            refine jg_iload dX10_mayBeTable_130 (List.Mem.head _) ?_
            refine jg_goto (tgt := 137) dX10_mayBeTable_132 (by decide) ?_
            refine jg_istore (lv' := [(4, .inl (r16)), (6, .inl (r16)), (0, .inr (.inr (some (a0)))), (1, .inl (x1)), (3, .inl (x3)), (5, .inl (x5))]) dX10_mayBeTable_137 (by decide) rfl ?_
            refine jg_iinc (v := (x5) + 1) (lv' := [(5, .inl ((x5) + 1)), (4, .inl (r16)), (6, .inl (r16)), (0, .inr (.inr (some (a0)))), (1, .inl (x1)), (3, .inl (x3))]) dX10_mayBeTable_139 (List.Mem.tail _ (List.Mem.tail _ (List.Mem.tail _ (List.Mem.tail _ (List.Mem.tail _ (List.Mem.head _)))))) rfl (by decide) rfl ?_
            refine jg_goto (tgt := 70) dX10_mayBeTable_142 (by decide) ?_
            refine jG.sub (lv' := [(0, .inr (.inr (some (a0)))), (1, .inl (x1)), (3, .inl (x3)), (4, .inl (r16)), (5, .inl ((x5) + 1))]) (by simp) ?_
            exact hv
        · replace hv := hv.2 c15
          refine jg_iconst (v := 0) dX10_mayBeTable_112 (by decide) ?_
          exact jg_bret dX10_mayBeTable_113 rfl (by decide) hv
      · replace hv := hv.2 c10
        refine jg_goto (tgt := 139) dX10_mayBeTable_98 (by decide) ?_
        refine jg_iinc (v := (x5) + 1) (lv' := [(5, .inl ((x5) + 1)), (0, .inr (.inr (some (a0)))), (1, .inl (x1)), (3, .inl (x3)), (4, .inl (x4))]) dX10_mayBeTable_139 (List.Mem.tail _ (List.Mem.tail _ (List.Mem.tail _ (List.Mem.tail _ (List.Mem.head _))))) rfl (by decide) rfl ?_
        refine jg_goto (tgt := 70) dX10_mayBeTable_142 (by decide) ?_
        refine jG.sub (lv' := [(0, .inr (.inr (some (a0)))), (1, .inl (x1)), (3, .inl (x3)), (4, .inl (x4)), (5, .inl ((x5) + 1))]) (by simp) ?_
        exact hv
def VX10_mayBeTable_0 (g : jg) (a0 : Nat) (x1 : Int32) (x2 : Int32) (h : jh) (k n : Nat) (Q : jq) : Prop := (jt h a0 = 9) ∧ (¬ (jr h 514 a0) = none) ∧ (jt h (jd (jr h 514 a0)) = 20) ∧ (vp_in (x1) (jn h (jd (jr h 514 a0)))) ∧ (((jI h (jd (jr h 514 a0)) (x1 : Int32).toNatClampNeg) < (2) → Q (.inl (some (.inl (0)))) h) ∧ (¬ (jI h (jd (jr h 514 a0)) (x1 : Int32).toNatClampNeg) < (2) → (((49 : Int32) < (jI h (jd (jr h 514 a0)) (x1 : Int32).toNatClampNeg) → Q (.inl (some (.inl (0)))) h) ∧ (¬ (49 : Int32) < (jI h (jd (jr h 514 a0)) (x1 : Int32).toNatClampNeg) → (¬ (jr h 519 a0) = none) ∧ (jt h (jd (jr h 519 a0)) = 20) ∧ (vp_in (x1) (jn h (jd (jr h 519 a0)))) ∧ ((0 < (jI h (jd (jr h 519 a0)) (x1 : Int32).toNatClampNeg) → Q (.inl (some (.inl (0)))) h) ∧ (¬ 0 < (jI h (jd (jr h 519 a0)) (x1 : Int32).toNatClampNeg) → jM g mX10_isRedefined [.inr (.inr (some a0)), .inl (x1)] h 0 0 (jki (fun (r29 : Int32) (h30 : jh) => (((r29) = 0 → (jt h30 a0 = 9) ∧ (¬ (jr h30 517 a0) = none) ∧ (jt h30 (jd (jr h30 517 a0)) = 20) ∧ (vp_in (x1) (jn h30 (jd (jr h30 517 a0)))) ∧ jM g mX10_tablesUp [.inr (.inr (some a0)), .inl (jI h30 (jd (jr h30 517 a0)) (x1 : Int32).toNatClampNeg), .inl (0)] h30 0 0 (jki (fun (r36 : Int32) (h37 : jh) => (((x2) = 0 → jG g mX10_mayBeTable 70 [(0, .inr (.inr (some (a0)))), (1, .inl (x1)), (3, .inl (r36)), (4, .inl (0)), (5, .inl ((x1) + (1)))] [] h37 k n Q) ∧ (¬ (x2) = 0 → (((r36) ≤ 0 → jG g mX10_mayBeTable 70 [(0, .inr (.inr (some (a0)))), (1, .inl (x1)), (3, .inl (r36)), (4, .inl (0)), (5, .inl ((x1) + (1)))] [] h37 k n Q) ∧ (¬ (r36) ≤ 0 → Q (.inl (some (.inl (0)))) h37))))) (fun e h9 => Q (.inr e) h9))) ∧ (¬ (r29) = 0 → Q (.inl (some (.inl (0)))) h30))) (fun e h9 => Q (.inr e) h9))))))))
set_option maxRecDepth 20000 in
theorem vX10_mayBeTable_0 {g : jg} {a0 : Nat} {x1 : Int32} {x2 : Int32} {h : jh} {k n : Nat} {Q : jq} (hv : VX10_mayBeTable_0 g a0 x1 x2 h k n Q) : jG g mX10_mayBeTable 0 [(0, .inr (.inr (some (a0)))), (1, .inl (x1)), (2, .inl (x2))] [] h k n Q := by
  unfold VX10_mayBeTable_0 at hv
  refine jg_aload_n dX10_mayBeTable_0 rfl (List.Mem.head _) ?_
  obtain ⟨f19, hv⟩ := hv
  refine jg_getr dX10_mayBeTable_1 fl_RX10_7 rfl jsn f19 ?_
  refine jg_iload_n dX10_mayBeTable_4 rfl (List.Mem.tail _ (List.Mem.head _)) ?_
  obtain ⟨f20, hv⟩ := hv
  obtain ⟨f21, hv⟩ := hv
  obtain ⟨f22, hv⟩ := hv
  refine jg_iald dX10_mayBeTable_5 f20 f21 f22 ?_
  refine jg_iconst (v := 2) dX10_mayBeTable_6 (by decide) ?_
  refine jg_icmp_lt (tgt := 38) dX10_mayBeTable_7 (by decide) (fun c23 => ?_) (fun c23 => ?_)
  · replace hv := hv.1 c23
    refine jg_iconst (v := 0) dX10_mayBeTable_38 (by decide) ?_
    exact jg_bret dX10_mayBeTable_39 rfl (by decide) hv
  · replace hv := hv.2 c23
    refine jg_aload_n dX10_mayBeTable_10 rfl (List.Mem.head _) ?_
    refine jg_getr dX10_mayBeTable_11 fl_RX10_7 rfl jsn f19 ?_
    refine jg_iload_n dX10_mayBeTable_14 rfl (List.Mem.tail _ (List.Mem.head _)) ?_
    refine jg_iald dX10_mayBeTable_15 f20 f21 f22 ?_
    refine jg_bipush (v := 49) dX10_mayBeTable_16 (by decide) ?_
    refine jg_icmp_gt (tgt := 38) dX10_mayBeTable_18 (by decide) (fun c24 => ?_) (fun c24 => ?_)
    · replace hv := hv.1 c24
      refine jg_iconst (v := 0) dX10_mayBeTable_38 (by decide) ?_
      exact jg_bret dX10_mayBeTable_39 rfl (by decide) hv
    · replace hv := hv.2 c24
      refine jg_aload_n dX10_mayBeTable_21 rfl (List.Mem.head _) ?_
      refine jg_getr dX10_mayBeTable_22 fl_RX10_25 rfl jsn f19 ?_
      refine jg_iload_n dX10_mayBeTable_25 rfl (List.Mem.tail _ (List.Mem.head _)) ?_
      obtain ⟨f25, hv⟩ := hv
      obtain ⟨f26, hv⟩ := hv
      obtain ⟨f27, hv⟩ := hv
      refine jg_iald dX10_mayBeTable_26 f25 f26 f27 ?_
      refine jg_if_gt (tgt := 38) dX10_mayBeTable_27 (by decide) (fun c28 => ?_) (fun c28 => ?_)
      · replace hv := hv.1 c28
        refine jg_iconst (v := 0) dX10_mayBeTable_38 (by decide) ?_
        exact jg_bret dX10_mayBeTable_39 rfl (by decide) hv
      · replace hv := hv.2 c28
        refine jg_aload_n dX10_mayBeTable_30 rfl (List.Mem.head _) ?_
        refine jg_iload_n dX10_mayBeTable_31 rfl (List.Mem.tail _ (List.Mem.head _)) ?_
        refine jp_callV mX10_isRedefined [.inl (x1)] [] dX10_mayBeTable_32 rfl cl_RX10_124 ⟨⟨by decide, by decide⟩, by decide⟩ jsn f19 (Nat.zero_le _) (Nat.zero_le _) (jM.mono (jki_k (fun r29 h30 hv => ?_)) hv)
        refine jg_if_eq (tgt := 40) dX10_mayBeTable_35 (by decide) (fun c31 => ?_) (fun c31 => ?_)
        · replace hv := hv.1 c31
          refine jg_aload_n dX10_mayBeTable_40 rfl (List.Mem.head _) ?_
          refine jg_aload_n dX10_mayBeTable_41 rfl (List.Mem.head _) ?_
          obtain ⟨f32, hv⟩ := hv
          refine jg_getr dX10_mayBeTable_42 fl_RX10_19 rfl jsn f32 ?_
          refine jg_iload_n dX10_mayBeTable_45 rfl (List.Mem.tail _ (List.Mem.head _)) ?_
          obtain ⟨f33, hv⟩ := hv
          obtain ⟨f34, hv⟩ := hv
          obtain ⟨f35, hv⟩ := hv
          refine jg_iald dX10_mayBeTable_46 f33 f34 f35 ?_
          refine jg_iconst (v := 0) dX10_mayBeTable_47 (by decide) ?_
          refine jp_callV mX10_tablesUp [.inl (jI h30 (jd (jr h30 517 a0)) (x1 : Int32).toNatClampNeg), .inl (0)] [] dX10_mayBeTable_48 rfl cl_RX10_127 ⟨⟨by decide, by decide⟩, by decide⟩ jsn f32 (Nat.zero_le _) (Nat.zero_le _) (jM.mono (jki_k (fun r36 h37 hv => ?_)) hv)
          refine jg_istore_n (lv' := [(3, .inl (r36)), (0, .inr (.inr (some (a0)))), (1, .inl (x1)), (2, .inl (x2))]) dX10_mayBeTable_51 rfl (by decide) rfl ?_
          refine jg_iload_n dX10_mayBeTable_52 rfl (List.Mem.tail _ (List.Mem.tail _ (List.Mem.tail _ (List.Mem.head _)))) ?_
          refine jg_if_eq (tgt := 62) dX10_mayBeTable_53 (by decide) (fun c38 => ?_) (fun c38 => ?_)
          · replace hv := hv.1 c38
            refine jg_iconst (v := 0) dX10_mayBeTable_62 (by decide) ?_
            refine jg_istore (lv' := [(4, .inl (0)), (3, .inl (r36)), (0, .inr (.inr (some (a0)))), (1, .inl (x1)), (2, .inl (x2))]) dX10_mayBeTable_63 (by decide) rfl ?_
            refine jg_iload_n dX10_mayBeTable_65 rfl (List.Mem.tail _ (List.Mem.tail _ (List.Mem.tail _ (List.Mem.head _)))) ?_
            refine jg_iconst (v := 1) dX10_mayBeTable_66 (by decide) ?_
            refine jg_iadd dX10_mayBeTable_67 ?_
            refine jg_istore (lv' := [(5, .inl ((x1) + (1))), (4, .inl (0)), (3, .inl (r36)), (0, .inr (.inr (some (a0)))), (1, .inl (x1)), (2, .inl (x2))]) dX10_mayBeTable_68 (by decide) rfl ?_
            refine jG.sub (lv' := [(0, .inr (.inr (some (a0)))), (1, .inl (x1)), (3, .inl (r36)), (4, .inl (0)), (5, .inl ((x1) + (1)))]) (by simp) ?_
            exact hv
          · replace hv := hv.2 c38
            refine jg_iload_n dX10_mayBeTable_56 rfl (List.Mem.head _) ?_
            refine jg_if_le (tgt := 62) dX10_mayBeTable_57 (by decide) (fun c39 => ?_) (fun c39 => ?_)
            · replace hv := hv.1 c39
              refine jg_iconst (v := 0) dX10_mayBeTable_62 (by decide) ?_
              refine jg_istore (lv' := [(4, .inl (0)), (3, .inl (r36)), (0, .inr (.inr (some (a0)))), (1, .inl (x1)), (2, .inl (x2))]) dX10_mayBeTable_63 (by decide) rfl ?_
              refine jg_iload_n dX10_mayBeTable_65 rfl (List.Mem.tail _ (List.Mem.tail _ (List.Mem.tail _ (List.Mem.head _)))) ?_
              refine jg_iconst (v := 1) dX10_mayBeTable_66 (by decide) ?_
              refine jg_iadd dX10_mayBeTable_67 ?_
              refine jg_istore (lv' := [(5, .inl ((x1) + (1))), (4, .inl (0)), (3, .inl (r36)), (0, .inr (.inr (some (a0)))), (1, .inl (x1)), (2, .inl (x2))]) dX10_mayBeTable_68 (by decide) rfl ?_
              refine jG.sub (lv' := [(0, .inr (.inr (some (a0)))), (1, .inl (x1)), (3, .inl (r36)), (4, .inl (0)), (5, .inl ((x1) + (1)))]) (by simp) ?_
              exact hv
            · replace hv := hv.2 c39
              refine jg_iconst (v := 0) dX10_mayBeTable_60 (by decide) ?_
              exact jg_bret dX10_mayBeTable_61 rfl (by decide) hv
        · replace hv := hv.2 c31
          refine jg_iconst (v := 0) dX10_mayBeTable_38 (by decide) ?_
          exact jg_bret dX10_mayBeTable_39 rfl (by decide) hv
theorem eX10_mayBeTable {g : jg} {a0 : Nat} {x1 : Int32} {x2 : Int32} {h : jh} {mc ms : Nat} {Q : jq} (hv : VX10_mayBeTable_0 g a0 x1 x2 h mc ms Q) : jM g mX10_mayBeTable [.inr (.inr (some (a0))), .inl (x1), .inl (x2)] h mc ms Q := jM.of (by decide) (Nat.le_of_ble_eq_true rfl) (lv := [(0, .inr (.inr (some (a0)))), (1, .inl (x1)), (2, .inl (x2))]) rfl (vX10_mayBeTable_0 hv)
theorem dX10_digitsOf_0 : decode cX10_digitsOf 0 = .ok (.iconst 0, 1) := by decide +kernel
theorem dX10_digitsOf_1 : decode cX10_digitsOf 1 = .ok (.istore_n 1, 1) := by decide +kernel
theorem dX10_digitsOf_2 : decode cX10_digitsOf 2 = .ok (.iload_n 0, 1) := by decide +kernel
theorem dX10_digitsOf_3 : decode cX10_digitsOf 3 = .ok (.ifCond .ge 9, 3) := by decide +kernel
theorem dX10_digitsOf_6 : decode cX10_digitsOf 6 = .ok (.iload_n 0, 1) := by decide +kernel
theorem dX10_digitsOf_7 : decode cX10_digitsOf 7 = .ok (.i2l, 1) := by decide +kernel
theorem dX10_digitsOf_8 : decode cX10_digitsOf 8 = .ok (.lneg, 1) := by decide +kernel
theorem dX10_digitsOf_9 : decode cX10_digitsOf 9 = .ok (.goto 5, 3) := by decide +kernel
theorem dX10_digitsOf_12 : decode cX10_digitsOf 12 = .ok (.iload_n 0, 1) := by decide +kernel
theorem dX10_digitsOf_13 : decode cX10_digitsOf 13 = .ok (.i2l, 1) := by decide +kernel
theorem dX10_digitsOf_14 : decode cX10_digitsOf 14 = .ok (.lstore_n 2, 1) := by decide +kernel
theorem dX10_digitsOf_15 : decode cX10_digitsOf 15 = .ok (.lload_n 2, 1) := by decide +kernel
theorem dX10_digitsOf_16 : decode cX10_digitsOf 16 = .ok (.lconst 0, 1) := by decide +kernel
theorem dX10_digitsOf_17 : decode cX10_digitsOf 17 = .ok (.lcmp, 1) := by decide +kernel
theorem dX10_digitsOf_18 : decode cX10_digitsOf 18 = .ok (.ifCond .le 15, 3) := by decide +kernel
theorem dX10_digitsOf_21 : decode cX10_digitsOf 21 = .ok (.iinc 1 1, 3) := by decide +kernel
theorem dX10_digitsOf_24 : decode cX10_digitsOf 24 = .ok (.lload_n 2, 1) := by decide +kernel
theorem dX10_digitsOf_25 : decode cX10_digitsOf 25 = .ok (.ldc2_w 134, 3) := by decide +kernel
theorem dX10_digitsOf_28 : decode cX10_digitsOf 28 = .ok (.ldiv, 1) := by decide +kernel
theorem dX10_digitsOf_29 : decode cX10_digitsOf 29 = .ok (.lstore_n 2, 1) := by decide +kernel
theorem dX10_digitsOf_30 : decode cX10_digitsOf 30 = .ok (.goto (-15), 3) := by decide +kernel
theorem dX10_digitsOf_33 : decode cX10_digitsOf 33 = .ok (.iload_n 1, 1) := by decide +kernel
theorem dX10_digitsOf_34 : decode cX10_digitsOf 34 = .ok (.ireturn, 1) := by decide +kernel
def VX10_digitsOf_15 (g : jg) (x1 : Int32) (x2 : Int64) (h : jh) (k n : Nat) (Q : jq) : Prop := (((x2) ≤ (0) → Q (.inl (some (.inl (x1)))) h) ∧ (¬ (x2) ≤ (0) → jG g mX10_digitsOf 15 [(1, .inl ((x1) + 1)), (2, .inr (.inl ((x2) / (10))))] [] h k n Q))
set_option maxRecDepth 20000 in
theorem vX10_digitsOf_15 {g : jg} {x1 : Int32} {x2 : Int64} {h : jh} {k n : Nat} {Q : jq} (hv : VX10_digitsOf_15 g x1 x2 h k n Q) : jG g mX10_digitsOf 15 [(1, .inl (x1)), (2, .inr (.inl (x2)))] [] h k n Q := by
  unfold VX10_digitsOf_15 at hv
  refine jg_lload_n dX10_digitsOf_15 rfl (List.Mem.tail _ (List.Mem.head _)) ?_
  refine jg_lconst (v := 0) dX10_digitsOf_16 (by decide) ?_
  refine jg_lcmp_le (tgt := 33) dX10_digitsOf_17 dX10_digitsOf_18 (by decide) (fun c1 => ?_) (fun c1 => ?_)
  · replace hv := hv.1 c1
    refine jg_iload_n dX10_digitsOf_33 rfl (List.Mem.head _) ?_
    exact jg_iret dX10_digitsOf_34 rfl hv
  · replace hv := hv.2 c1
    refine jg_iinc (v := (x1) + 1) (lv' := [(1, .inl ((x1) + 1)), (2, .inr (.inl (x2)))]) dX10_digitsOf_21 (List.Mem.head _) rfl (by decide) rfl ?_
    refine jg_lload_n dX10_digitsOf_24 rfl (List.Mem.tail _ (List.Mem.head _)) ?_
    refine jg_ldc2 (v := 10) dX10_digitsOf_25 kl_RX10_134 ?_
    refine jg_ldiv dX10_digitsOf_28 (by decide) ?_
    refine jg_lstore_n (lv' := [(2, .inr (.inl ((x2) / (10)))), (1, .inl ((x1) + 1))]) dX10_digitsOf_29 rfl (by decide) rfl ?_
    refine jg_goto (tgt := 15) dX10_digitsOf_30 (by decide) ?_
    refine jG.sub (lv' := [(1, .inl ((x1) + 1)), (2, .inr (.inl ((x2) / (10))))]) (by simp) ?_
    exact hv
def VX10_digitsOf_0 (g : jg) (x0 : Int32) (h : jh) (k n : Nat) (Q : jq) : Prop := ((0 ≤ (x0) → jG g mX10_digitsOf 15 [(1, .inl (0)), (2, .inr (.inl ((x0 : Int32).toInt64)))] [] h k n Q) ∧ (¬ 0 ≤ (x0) → jG g mX10_digitsOf 15 [(1, .inl (0)), (2, .inr (.inl (-((x0 : Int32).toInt64))))] [] h k n Q))
set_option maxRecDepth 20000 in
theorem vX10_digitsOf_0 {g : jg} {x0 : Int32} {h : jh} {k n : Nat} {Q : jq} (hv : VX10_digitsOf_0 g x0 h k n Q) : jG g mX10_digitsOf 0 [(0, .inl (x0))] [] h k n Q := by
  unfold VX10_digitsOf_0 at hv
  refine jg_iconst (v := 0) dX10_digitsOf_0 (by decide) ?_
  refine jg_istore_n (lv' := [(1, .inl (0)), (0, .inl (x0))]) dX10_digitsOf_1 rfl (by decide) rfl ?_
  refine jg_iload_n dX10_digitsOf_2 rfl (List.Mem.tail _ (List.Mem.head _)) ?_
  refine jg_if_ge (tgt := 12) dX10_digitsOf_3 (by decide) (fun c2 => ?_) (fun c2 => ?_)
  · replace hv := hv.1 c2
    refine jg_iload_n dX10_digitsOf_12 rfl (List.Mem.tail _ (List.Mem.head _)) ?_
    refine jg_i2l dX10_digitsOf_13 ?_
    refine jg_lstore_n (lv' := [(2, .inr (.inl ((x0 : Int32).toInt64))), (1, .inl (0)), (0, .inl (x0))]) dX10_digitsOf_14 rfl (by decide) rfl ?_
    refine jG.sub (lv' := [(1, .inl (0)), (2, .inr (.inl ((x0 : Int32).toInt64)))]) (by simp) ?_
    exact hv
  · replace hv := hv.2 c2
    refine jg_iload_n dX10_digitsOf_6 rfl (List.Mem.tail _ (List.Mem.head _)) ?_
    refine jg_i2l dX10_digitsOf_7 ?_
    refine jg_lneg dX10_digitsOf_8 ?_
    refine jg_goto (tgt := 14) dX10_digitsOf_9 (by decide) ?_
    refine jg_lstore_n (lv' := [(2, .inr (.inl (-((x0 : Int32).toInt64)))), (1, .inl (0)), (0, .inl (x0))]) dX10_digitsOf_14 rfl (by decide) rfl ?_
    refine jG.sub (lv' := [(1, .inl (0)), (2, .inr (.inl (-((x0 : Int32).toInt64))))]) (by simp) ?_
    exact hv
theorem eX10_digitsOf {g : jg} {x0 : Int32} {h : jh} {mc ms : Nat} {Q : jq} (hv : VX10_digitsOf_0 g x0 h mc ms Q) : jM g mX10_digitsOf [.inl (x0)] h mc ms Q := jM.of (by decide) (Nat.le_of_ble_eq_true rfl) (lv := [(0, .inl (x0))]) rfl (vX10_digitsOf_0 hv)
theorem dX10_isPart_0 : decode cX10_isPart 0 = .ok (.aload_n 0, 1) := by decide +kernel
theorem dX10_isPart_1 : decode cX10_isPart 1 = .ok (.getfield 7, 3) := by decide +kernel
theorem dX10_isPart_4 : decode cX10_isPart 4 = .ok (.iload_n 2, 1) := by decide +kernel
theorem dX10_isPart_5 : decode cX10_isPart 5 = .ok (.iaload, 1) := by decide +kernel
theorem dX10_isPart_6 : decode cX10_isPart 6 = .ok (.iconst 2, 1) := by decide +kernel
theorem dX10_isPart_7 : decode cX10_isPart 7 = .ok (.if_icmp .lt 33, 3) := by decide +kernel
theorem dX10_isPart_10 : decode cX10_isPart 10 = .ok (.aload_n 0, 1) := by decide +kernel
theorem dX10_isPart_11 : decode cX10_isPart 11 = .ok (.getfield 7, 3) := by decide +kernel
theorem dX10_isPart_14 : decode cX10_isPart 14 = .ok (.iload_n 2, 1) := by decide +kernel
theorem dX10_isPart_15 : decode cX10_isPart 15 = .ok (.iaload, 1) := by decide +kernel
theorem dX10_isPart_16 : decode cX10_isPart 16 = .ok (.bipush 49, 2) := by decide +kernel
theorem dX10_isPart_18 : decode cX10_isPart 18 = .ok (.if_icmp .gt 22, 3) := by decide +kernel
theorem dX10_isPart_21 : decode cX10_isPart 21 = .ok (.aload_n 0, 1) := by decide +kernel
theorem dX10_isPart_22 : decode cX10_isPart 22 = .ok (.getfield 22, 3) := by decide +kernel
theorem dX10_isPart_25 : decode cX10_isPart 25 = .ok (.iload_n 2, 1) := by decide +kernel
theorem dX10_isPart_26 : decode cX10_isPart 26 = .ok (.iaload, 1) := by decide +kernel
theorem dX10_isPart_27 : decode cX10_isPart 27 = .ok (.aload_n 0, 1) := by decide +kernel
theorem dX10_isPart_28 : decode cX10_isPart 28 = .ok (.getfield 22, 3) := by decide +kernel
theorem dX10_isPart_31 : decode cX10_isPart 31 = .ok (.iload_n 1, 1) := by decide +kernel
theorem dX10_isPart_32 : decode cX10_isPart 32 = .ok (.iaload, 1) := by decide +kernel
theorem dX10_isPart_33 : decode cX10_isPart 33 = .ok (.if_icmp .ne 7, 3) := by decide +kernel
theorem dX10_isPart_36 : decode cX10_isPart 36 = .ok (.iconst 1, 1) := by decide +kernel
theorem dX10_isPart_37 : decode cX10_isPart 37 = .ok (.goto 4, 3) := by decide +kernel
theorem dX10_isPart_40 : decode cX10_isPart 40 = .ok (.iconst 0, 1) := by decide +kernel
theorem dX10_isPart_41 : decode cX10_isPart 41 = .ok (.ireturn, 1) := by decide +kernel
def VX10_isPart_0 (g : jg) (a0 : Nat) (x1 : Int32) (x2 : Int32) (h : jh) (k n : Nat) (Q : jq) : Prop := (jt h a0 = 9) ∧ (¬ (jr h 514 a0) = none) ∧ (jt h (jd (jr h 514 a0)) = 20) ∧ (vp_in (x2) (jn h (jd (jr h 514 a0)))) ∧ (((jI h (jd (jr h 514 a0)) (x2 : Int32).toNatClampNeg) < (2) → Q (.inl (some (.inl (0)))) h) ∧ (¬ (jI h (jd (jr h 514 a0)) (x2 : Int32).toNatClampNeg) < (2) → (((49 : Int32) < (jI h (jd (jr h 514 a0)) (x2 : Int32).toNatClampNeg) → Q (.inl (some (.inl (0)))) h) ∧ (¬ (49 : Int32) < (jI h (jd (jr h 514 a0)) (x2 : Int32).toNatClampNeg) → (¬ (jr h 518 a0) = none) ∧ (jt h (jd (jr h 518 a0)) = 20) ∧ (vp_in (x2) (jn h (jd (jr h 518 a0)))) ∧ (vp_in (x1) (jn h (jd (jr h 518 a0)))) ∧ ((¬ (jI h (jd (jr h 518 a0)) (x2 : Int32).toNatClampNeg) = (jI h (jd (jr h 518 a0)) (x1 : Int32).toNatClampNeg) → Q (.inl (some (.inl (0)))) h) ∧ ((jI h (jd (jr h 518 a0)) (x2 : Int32).toNatClampNeg) = (jI h (jd (jr h 518 a0)) (x1 : Int32).toNatClampNeg) → Q (.inl (some (.inl (1)))) h))))))
set_option maxRecDepth 20000 in
theorem vX10_isPart_0 {g : jg} {a0 : Nat} {x1 : Int32} {x2 : Int32} {h : jh} {k n : Nat} {Q : jq} (hv : VX10_isPart_0 g a0 x1 x2 h k n Q) : jG g mX10_isPart 0 [(0, .inr (.inr (some (a0)))), (1, .inl (x1)), (2, .inl (x2))] [] h k n Q := by
  unfold VX10_isPart_0 at hv
  refine jg_aload_n dX10_isPart_0 rfl (List.Mem.head _) ?_
  obtain ⟨f1, hv⟩ := hv
  refine jg_getr dX10_isPart_1 fl_RX10_7 rfl jsn f1 ?_
  refine jg_iload_n dX10_isPart_4 rfl (List.Mem.tail _ (List.Mem.tail _ (List.Mem.head _))) ?_
  obtain ⟨f2, hv⟩ := hv
  obtain ⟨f3, hv⟩ := hv
  obtain ⟨f4, hv⟩ := hv
  refine jg_iald dX10_isPart_5 f2 f3 f4 ?_
  refine jg_iconst (v := 2) dX10_isPart_6 (by decide) ?_
  refine jg_icmp_lt (tgt := 40) dX10_isPart_7 (by decide) (fun c5 => ?_) (fun c5 => ?_)
  · replace hv := hv.1 c5
    refine jg_iconst (v := 0) dX10_isPart_40 (by decide) ?_
    exact jg_bret dX10_isPart_41 rfl (by decide) hv
  · replace hv := hv.2 c5
    refine jg_aload_n dX10_isPart_10 rfl (List.Mem.head _) ?_
    refine jg_getr dX10_isPart_11 fl_RX10_7 rfl jsn f1 ?_
    refine jg_iload_n dX10_isPart_14 rfl (List.Mem.tail _ (List.Mem.tail _ (List.Mem.head _))) ?_
    refine jg_iald dX10_isPart_15 f2 f3 f4 ?_
    refine jg_bipush (v := 49) dX10_isPart_16 (by decide) ?_
    refine jg_icmp_gt (tgt := 40) dX10_isPart_18 (by decide) (fun c6 => ?_) (fun c6 => ?_)
    · replace hv := hv.1 c6
      refine jg_iconst (v := 0) dX10_isPart_40 (by decide) ?_
      exact jg_bret dX10_isPart_41 rfl (by decide) hv
    · replace hv := hv.2 c6
      refine jg_aload_n dX10_isPart_21 rfl (List.Mem.head _) ?_
      refine jg_getr dX10_isPart_22 fl_RX10_22 rfl jsn f1 ?_
      refine jg_iload_n dX10_isPart_25 rfl (List.Mem.tail _ (List.Mem.tail _ (List.Mem.head _))) ?_
      obtain ⟨f7, hv⟩ := hv
      obtain ⟨f8, hv⟩ := hv
      obtain ⟨f9, hv⟩ := hv
      refine jg_iald dX10_isPart_26 f7 f8 f9 ?_
      refine jg_aload_n dX10_isPart_27 rfl (List.Mem.head _) ?_
      refine jg_getr dX10_isPart_28 fl_RX10_22 rfl jsn f1 ?_
      refine jg_iload_n dX10_isPart_31 rfl (List.Mem.tail _ (List.Mem.head _)) ?_
      obtain ⟨f10, hv⟩ := hv
      refine jg_iald dX10_isPart_32 f7 f8 f10 ?_
      refine jg_icmp_ne (tgt := 40) dX10_isPart_33 (by decide) (fun c11 => ?_) (fun c11 => ?_)
      · replace hv := hv.1 c11
        refine jg_iconst (v := 0) dX10_isPart_40 (by decide) ?_
        exact jg_bret dX10_isPart_41 rfl (by decide) hv
      · replace hv := hv.2 c11
        refine jg_iconst (v := 1) dX10_isPart_36 (by decide) ?_
        refine jg_goto (tgt := 41) dX10_isPart_37 (by decide) ?_
        exact jg_bret dX10_isPart_41 rfl (by decide) hv
theorem eX10_isPart {g : jg} {a0 : Nat} {x1 : Int32} {x2 : Int32} {h : jh} {mc ms : Nat} {Q : jq} (hv : VX10_isPart_0 g a0 x1 x2 h mc ms Q) : jM g mX10_isPart [.inr (.inr (some (a0))), .inl (x1), .inl (x2)] h mc ms Q := jM.of (by decide) (Nat.le_of_ble_eq_true rfl) (lv := [(0, .inr (.inr (some (a0)))), (1, .inl (x1)), (2, .inl (x2))]) rfl (vX10_isPart_0 hv)
theorem dX10_isClause_0 : decode cX10_isClause 0 = .ok (.iload_n 0, 1) := by decide +kernel
theorem dX10_isClause_1 : decode cX10_isClause 1 = .ok (.tableswitch 91 0 4 #[35, 53, 91, 91, 80], 35) := by decide +kernel
theorem dX10_isClause_36 : decode cX10_isClause 36 = .ok (.iload_n 1, 1) := by decide +kernel
theorem dX10_isClause_37 : decode cX10_isClause 37 = .ok (.iconst 1, 1) := by decide +kernel
theorem dX10_isClause_38 : decode cX10_isClause 38 = .ok (.if_icmp .lt 14, 3) := by decide +kernel
theorem dX10_isClause_41 : decode cX10_isClause 41 = .ok (.iload_n 1, 1) := by decide +kernel
theorem dX10_isClause_42 : decode cX10_isClause 42 = .ok (.sipush 999, 3) := by decide +kernel
theorem dX10_isClause_45 : decode cX10_isClause 45 = .ok (.if_icmp .gt 7, 3) := by decide +kernel
theorem dX10_isClause_48 : decode cX10_isClause 48 = .ok (.iconst 1, 1) := by decide +kernel
theorem dX10_isClause_49 : decode cX10_isClause 49 = .ok (.goto 4, 3) := by decide +kernel
theorem dX10_isClause_52 : decode cX10_isClause 52 = .ok (.iconst 0, 1) := by decide +kernel
theorem dX10_isClause_53 : decode cX10_isClause 53 = .ok (.ireturn, 1) := by decide +kernel
theorem dX10_isClause_54 : decode cX10_isClause 54 = .ok (.iload_n 1, 1) := by decide +kernel
theorem dX10_isClause_55 : decode cX10_isClause 55 = .ok (.ifCond .lt 24, 3) := by decide +kernel
theorem dX10_isClause_58 : decode cX10_isClause 58 = .ok (.iload_n 1, 1) := by decide +kernel
theorem dX10_isClause_59 : decode cX10_isClause 59 = .ok (.iload_n 2, 1) := by decide +kernel
theorem dX10_isClause_60 : decode cX10_isClause 60 = .ok (.if_icmp .gt 19, 3) := by decide +kernel
theorem dX10_isClause_63 : decode cX10_isClause 63 = .ok (.iload_n 2, 1) := by decide +kernel
theorem dX10_isClause_64 : decode cX10_isClause 64 = .ok (.iconst 1, 1) := by decide +kernel
theorem dX10_isClause_65 : decode cX10_isClause 65 = .ok (.if_icmp .lt 14, 3) := by decide +kernel
theorem dX10_isClause_68 : decode cX10_isClause 68 = .ok (.iload_n 2, 1) := by decide +kernel
theorem dX10_isClause_69 : decode cX10_isClause 69 = .ok (.sipush 999, 3) := by decide +kernel
theorem dX10_isClause_72 : decode cX10_isClause 72 = .ok (.if_icmp .gt 7, 3) := by decide +kernel
theorem dX10_isClause_75 : decode cX10_isClause 75 = .ok (.iconst 1, 1) := by decide +kernel
theorem dX10_isClause_76 : decode cX10_isClause 76 = .ok (.goto 4, 3) := by decide +kernel
theorem dX10_isClause_79 : decode cX10_isClause 79 = .ok (.iconst 0, 1) := by decide +kernel
theorem dX10_isClause_80 : decode cX10_isClause 80 = .ok (.ireturn, 1) := by decide +kernel
theorem dX10_isClause_81 : decode cX10_isClause 81 = .ok (.iload_n 1, 1) := by decide +kernel
theorem dX10_isClause_82 : decode cX10_isClause 82 = .ok (.iload_n 2, 1) := by decide +kernel
theorem dX10_isClause_83 : decode cX10_isClause 83 = .ok (.if_icmp .gt 7, 3) := by decide +kernel
theorem dX10_isClause_86 : decode cX10_isClause 86 = .ok (.iconst 1, 1) := by decide +kernel
theorem dX10_isClause_87 : decode cX10_isClause 87 = .ok (.goto 4, 3) := by decide +kernel
theorem dX10_isClause_90 : decode cX10_isClause 90 = .ok (.iconst 0, 1) := by decide +kernel
theorem dX10_isClause_91 : decode cX10_isClause 91 = .ok (.ireturn, 1) := by decide +kernel
theorem dX10_isClause_92 : decode cX10_isClause 92 = .ok (.iload_n 0, 1) := by decide +kernel
theorem dX10_isClause_93 : decode cX10_isClause 93 = .ok (.iconst 1, 1) := by decide +kernel
theorem dX10_isClause_94 : decode cX10_isClause 94 = .ok (.if_icmp .le 13, 3) := by decide +kernel
theorem dX10_isClause_97 : decode cX10_isClause 97 = .ok (.iload_n 0, 1) := by decide +kernel
theorem dX10_isClause_98 : decode cX10_isClause 98 = .ok (.bipush 6, 2) := by decide +kernel
theorem dX10_isClause_100 : decode cX10_isClause 100 = .ok (.if_icmp .ge 7, 3) := by decide +kernel
theorem dX10_isClause_103 : decode cX10_isClause 103 = .ok (.iconst 1, 1) := by decide +kernel
theorem dX10_isClause_104 : decode cX10_isClause 104 = .ok (.goto 4, 3) := by decide +kernel
theorem dX10_isClause_107 : decode cX10_isClause 107 = .ok (.iconst 0, 1) := by decide +kernel
theorem dX10_isClause_108 : decode cX10_isClause 108 = .ok (.ireturn, 1) := by decide +kernel
def VX10_isClause_0 (g : jg) (x0 : Int32) (x1 : Int32) (x2 : Int32) (h : jh) (k n : Nat) (Q : jq) : Prop := (((x0) = 0 → (((x1) < (1) → Q (.inl (some (.inl (0)))) h) ∧ (¬ (x1) < (1) → (((999 : Int32) < (x1) → Q (.inl (some (.inl (0)))) h) ∧ (¬ (999 : Int32) < (x1) → Q (.inl (some (.inl (1)))) h))))) ∧ ((x0) = 1 → (((x1) < 0 → Q (.inl (some (.inl (0)))) h) ∧ (¬ (x1) < 0 → (((x2) < (x1) → Q (.inl (some (.inl (0)))) h) ∧ (¬ (x2) < (x1) → (((x2) < (1) → Q (.inl (some (.inl (0)))) h) ∧ (¬ (x2) < (1) → (((999 : Int32) < (x2) → Q (.inl (some (.inl (0)))) h) ∧ (¬ (999 : Int32) < (x2) → Q (.inl (some (.inl (1)))) h))))))))) ∧ ((x0) = 2 → (((x0) ≤ (1) → Q (.inl (some (.inl (0)))) h) ∧ (¬ (x0) ≤ (1) → (((6 : Int32) ≤ (x0) → Q (.inl (some (.inl (0)))) h) ∧ (¬ (6 : Int32) ≤ (x0) → Q (.inl (some (.inl (1)))) h))))) ∧ ((x0) = 3 → (((x0) ≤ (1) → Q (.inl (some (.inl (0)))) h) ∧ (¬ (x0) ≤ (1) → (((6 : Int32) ≤ (x0) → Q (.inl (some (.inl (0)))) h) ∧ (¬ (6 : Int32) ≤ (x0) → Q (.inl (some (.inl (1)))) h))))) ∧ ((x0) = 4 → (((x2) < (x1) → Q (.inl (some (.inl (0)))) h) ∧ (¬ (x2) < (x1) → Q (.inl (some (.inl (1)))) h))) ∧ ((x0 : Int32).toInt < 0 ∨ 4 < (x0 : Int32).toInt → (((x0) ≤ (1) → Q (.inl (some (.inl (0)))) h) ∧ (¬ (x0) ≤ (1) → (((6 : Int32) ≤ (x0) → Q (.inl (some (.inl (0)))) h) ∧ (¬ (6 : Int32) ≤ (x0) → Q (.inl (some (.inl (1)))) h))))))
set_option maxRecDepth 20000 in
theorem vX10_isClause_0 {g : jg} {x0 : Int32} {x1 : Int32} {x2 : Int32} {h : jh} {k n : Nat} {Q : jq} (hv : VX10_isClause_0 g x0 x1 x2 h k n Q) : jG g mX10_isClause 0 [(0, .inl (x0)), (1, .inl (x1)), (2, .inl (x2))] [] h k n Q := by
  unfold VX10_isClause_0 at hv
  refine jg_iload_n dX10_isClause_0 rfl (List.Mem.head _) ?_
  by_cases c1 : (x0) = 0
  · replace hv := hv.1 c1
    refine jg_tsIn 0 0 (tgt := 36) dX10_isClause_1 c1 (by decide) (by decide) rfl (by decide) ?_
    refine jg_iload_n dX10_isClause_36 rfl (List.Mem.tail _ (List.Mem.head _)) ?_
    refine jg_iconst (v := 1) dX10_isClause_37 (by decide) ?_
    refine jg_icmp_lt (tgt := 52) dX10_isClause_38 (by decide) (fun c2 => ?_) (fun c2 => ?_)
    · replace hv := hv.1 c2
      refine jg_iconst (v := 0) dX10_isClause_52 (by decide) ?_
      exact jg_bret dX10_isClause_53 rfl (by decide) hv
    · replace hv := hv.2 c2
      refine jg_iload_n dX10_isClause_41 rfl (List.Mem.tail _ (List.Mem.head _)) ?_
      refine jg_sipush (v := 999) dX10_isClause_42 (by decide) ?_
      refine jg_icmp_gt (tgt := 52) dX10_isClause_45 (by decide) (fun c3 => ?_) (fun c3 => ?_)
      · replace hv := hv.1 c3
        refine jg_iconst (v := 0) dX10_isClause_52 (by decide) ?_
        exact jg_bret dX10_isClause_53 rfl (by decide) hv
      · replace hv := hv.2 c3
        refine jg_iconst (v := 1) dX10_isClause_48 (by decide) ?_
        refine jg_goto (tgt := 53) dX10_isClause_49 (by decide) ?_
        exact jg_bret dX10_isClause_53 rfl (by decide) hv
  by_cases c4 : (x0) = 1
  · replace hv := hv.2.1 c4
    refine jg_tsIn 1 1 (tgt := 54) dX10_isClause_1 c4 (by decide) (by decide) rfl (by decide) ?_
    refine jg_iload_n dX10_isClause_54 rfl (List.Mem.tail _ (List.Mem.head _)) ?_
    refine jg_if_lt (tgt := 79) dX10_isClause_55 (by decide) (fun c5 => ?_) (fun c5 => ?_)
    · replace hv := hv.1 c5
      refine jg_iconst (v := 0) dX10_isClause_79 (by decide) ?_
      exact jg_bret dX10_isClause_80 rfl (by decide) hv
    · replace hv := hv.2 c5
      refine jg_iload_n dX10_isClause_58 rfl (List.Mem.tail _ (List.Mem.head _)) ?_
      refine jg_iload_n dX10_isClause_59 rfl (List.Mem.tail _ (List.Mem.tail _ (List.Mem.head _))) ?_
      refine jg_icmp_gt (tgt := 79) dX10_isClause_60 (by decide) (fun c6 => ?_) (fun c6 => ?_)
      · replace hv := hv.1 c6
        refine jg_iconst (v := 0) dX10_isClause_79 (by decide) ?_
        exact jg_bret dX10_isClause_80 rfl (by decide) hv
      · replace hv := hv.2 c6
        refine jg_iload_n dX10_isClause_63 rfl (List.Mem.tail _ (List.Mem.tail _ (List.Mem.head _))) ?_
        refine jg_iconst (v := 1) dX10_isClause_64 (by decide) ?_
        refine jg_icmp_lt (tgt := 79) dX10_isClause_65 (by decide) (fun c7 => ?_) (fun c7 => ?_)
        · replace hv := hv.1 c7
          refine jg_iconst (v := 0) dX10_isClause_79 (by decide) ?_
          exact jg_bret dX10_isClause_80 rfl (by decide) hv
        · replace hv := hv.2 c7
          refine jg_iload_n dX10_isClause_68 rfl (List.Mem.tail _ (List.Mem.tail _ (List.Mem.head _))) ?_
          refine jg_sipush (v := 999) dX10_isClause_69 (by decide) ?_
          refine jg_icmp_gt (tgt := 79) dX10_isClause_72 (by decide) (fun c8 => ?_) (fun c8 => ?_)
          · replace hv := hv.1 c8
            refine jg_iconst (v := 0) dX10_isClause_79 (by decide) ?_
            exact jg_bret dX10_isClause_80 rfl (by decide) hv
          · replace hv := hv.2 c8
            refine jg_iconst (v := 1) dX10_isClause_75 (by decide) ?_
            refine jg_goto (tgt := 80) dX10_isClause_76 (by decide) ?_
            exact jg_bret dX10_isClause_80 rfl (by decide) hv
  by_cases c9 : (x0) = 2
  · replace hv := hv.2.2.1 c9
    refine jg_tsIn 2 2 (tgt := 92) dX10_isClause_1 c9 (by decide) (by decide) rfl (by decide) ?_
    refine jg_iload_n dX10_isClause_92 rfl (List.Mem.head _) ?_
    refine jg_iconst (v := 1) dX10_isClause_93 (by decide) ?_
    refine jg_icmp_le (tgt := 107) dX10_isClause_94 (by decide) (fun c10 => ?_) (fun c10 => ?_)
    · replace hv := hv.1 c10
      refine jg_iconst (v := 0) dX10_isClause_107 (by decide) ?_
      exact jg_bret dX10_isClause_108 rfl (by decide) hv
    · replace hv := hv.2 c10
      refine jg_iload_n dX10_isClause_97 rfl (List.Mem.head _) ?_
      refine jg_bipush (v := 6) dX10_isClause_98 (by decide) ?_
      refine jg_icmp_ge (tgt := 107) dX10_isClause_100 (by decide) (fun c11 => ?_) (fun c11 => ?_)
      · replace hv := hv.1 c11
        refine jg_iconst (v := 0) dX10_isClause_107 (by decide) ?_
        exact jg_bret dX10_isClause_108 rfl (by decide) hv
      · replace hv := hv.2 c11
        refine jg_iconst (v := 1) dX10_isClause_103 (by decide) ?_
        refine jg_goto (tgt := 108) dX10_isClause_104 (by decide) ?_
        exact jg_bret dX10_isClause_108 rfl (by decide) hv
  by_cases c12 : (x0) = 3
  · replace hv := hv.2.2.2.1 c12
    refine jg_tsIn 3 3 (tgt := 92) dX10_isClause_1 c12 (by decide) (by decide) rfl (by decide) ?_
    refine jg_iload_n dX10_isClause_92 rfl (List.Mem.head _) ?_
    refine jg_iconst (v := 1) dX10_isClause_93 (by decide) ?_
    refine jg_icmp_le (tgt := 107) dX10_isClause_94 (by decide) (fun c13 => ?_) (fun c13 => ?_)
    · replace hv := hv.1 c13
      refine jg_iconst (v := 0) dX10_isClause_107 (by decide) ?_
      exact jg_bret dX10_isClause_108 rfl (by decide) hv
    · replace hv := hv.2 c13
      refine jg_iload_n dX10_isClause_97 rfl (List.Mem.head _) ?_
      refine jg_bipush (v := 6) dX10_isClause_98 (by decide) ?_
      refine jg_icmp_ge (tgt := 107) dX10_isClause_100 (by decide) (fun c14 => ?_) (fun c14 => ?_)
      · replace hv := hv.1 c14
        refine jg_iconst (v := 0) dX10_isClause_107 (by decide) ?_
        exact jg_bret dX10_isClause_108 rfl (by decide) hv
      · replace hv := hv.2 c14
        refine jg_iconst (v := 1) dX10_isClause_103 (by decide) ?_
        refine jg_goto (tgt := 108) dX10_isClause_104 (by decide) ?_
        exact jg_bret dX10_isClause_108 rfl (by decide) hv
  by_cases c15 : (x0) = 4
  · replace hv := hv.2.2.2.2.1 c15
    refine jg_tsIn 4 4 (tgt := 81) dX10_isClause_1 c15 (by decide) (by decide) rfl (by decide) ?_
    refine jg_iload_n dX10_isClause_81 rfl (List.Mem.tail _ (List.Mem.head _)) ?_
    refine jg_iload_n dX10_isClause_82 rfl (List.Mem.tail _ (List.Mem.tail _ (List.Mem.head _))) ?_
    refine jg_icmp_gt (tgt := 90) dX10_isClause_83 (by decide) (fun c16 => ?_) (fun c16 => ?_)
    · replace hv := hv.1 c16
      refine jg_iconst (v := 0) dX10_isClause_90 (by decide) ?_
      exact jg_bret dX10_isClause_91 rfl (by decide) hv
    · replace hv := hv.2 c16
      refine jg_iconst (v := 1) dX10_isClause_86 (by decide) ?_
      refine jg_goto (tgt := 91) dX10_isClause_87 (by decide) ?_
      exact jg_bret dX10_isClause_91 rfl (by decide) hv
  have c19 : (x0 : Int32).toInt < 0 ∨ 4 < (x0 : Int32).toInt := by
    have c1n : ¬ (x0 : Int32).toInt = 0 := fun q => c1 (Int32.toInt_inj.mp (q.trans (by decide)))
    have c4n : ¬ (x0 : Int32).toInt = 1 := fun q => c4 (Int32.toInt_inj.mp (q.trans (by decide)))
    have c9n : ¬ (x0 : Int32).toInt = 2 := fun q => c9 (Int32.toInt_inj.mp (q.trans (by decide)))
    have c12n : ¬ (x0 : Int32).toInt = 3 := fun q => c12 (Int32.toInt_inj.mp (q.trans (by decide)))
    have c15n : ¬ (x0 : Int32).toInt = 4 := fun q => c15 (Int32.toInt_inj.mp (q.trans (by decide)))
    omega
  replace hv := hv.2.2.2.2.2 c19
  refine jg_tsOut (tgt := 92) dX10_isClause_1 c19 (by decide) ?_
  refine jg_iload_n dX10_isClause_92 rfl (List.Mem.head _) ?_
  refine jg_iconst (v := 1) dX10_isClause_93 (by decide) ?_
  refine jg_icmp_le (tgt := 107) dX10_isClause_94 (by decide) (fun c17 => ?_) (fun c17 => ?_)
  · replace hv := hv.1 c17
    refine jg_iconst (v := 0) dX10_isClause_107 (by decide) ?_
    exact jg_bret dX10_isClause_108 rfl (by decide) hv
  · replace hv := hv.2 c17
    refine jg_iload_n dX10_isClause_97 rfl (List.Mem.head _) ?_
    refine jg_bipush (v := 6) dX10_isClause_98 (by decide) ?_
    refine jg_icmp_ge (tgt := 107) dX10_isClause_100 (by decide) (fun c18 => ?_) (fun c18 => ?_)
    · replace hv := hv.1 c18
      refine jg_iconst (v := 0) dX10_isClause_107 (by decide) ?_
      exact jg_bret dX10_isClause_108 rfl (by decide) hv
    · replace hv := hv.2 c18
      refine jg_iconst (v := 1) dX10_isClause_103 (by decide) ?_
      refine jg_goto (tgt := 108) dX10_isClause_104 (by decide) ?_
      exact jg_bret dX10_isClause_108 rfl (by decide) hv
theorem eX10_isClause {g : jg} {x0 : Int32} {x1 : Int32} {x2 : Int32} {h : jh} {mc ms : Nat} {Q : jq} (hv : VX10_isClause_0 g x0 x1 x2 h mc ms Q) : jM g mX10_isClause [.inl (x0), .inl (x1), .inl (x2)] h mc ms Q := jM.of (by decide) (Nat.le_of_ble_eq_true rfl) (lv := [(0, .inl (x0)), (1, .inl (x1)), (2, .inl (x2))]) rfl (vX10_isClause_0 hv)
theorem dX10_clause_0 : decode cX10_clause 0 = .ok (.aload_n 0, 1) := by decide +kernel
theorem dX10_clause_1 : decode cX10_clause 1 = .ok (.iconst 0, 1) := by decide +kernel
theorem dX10_clause_2 : decode cX10_clause 2 = .ok (.putfield 98, 3) := by decide +kernel
theorem dX10_clause_5 : decode cX10_clause 5 = .ok (.aload_n 0, 1) := by decide +kernel
theorem dX10_clause_6 : decode cX10_clause 6 = .ok (.iload_n 1, 1) := by decide +kernel
theorem dX10_clause_7 : decode cX10_clause 7 = .ok (.invokevirtual 136, 3) := by decide +kernel
theorem dX10_clause_10 : decode cX10_clause 10 = .ok (.ifCond .eq 25, 3) := by decide +kernel
theorem dX10_clause_13 : decode cX10_clause 13 = .ok (.iload_n 2, 1) := by decide +kernel
theorem dX10_clause_14 : decode cX10_clause 14 = .ok (.iconst 5, 1) := by decide +kernel
theorem dX10_clause_15 : decode cX10_clause 15 = .ok (.if_icmp .ne 23, 3) := by decide +kernel
theorem dX10_clause_18 : decode cX10_clause 18 = .ok (.aload_n 0, 1) := by decide +kernel
theorem dX10_clause_19 : decode cX10_clause 19 = .ok (.iload_n 3, 1) := by decide +kernel
theorem dX10_clause_20 : decode cX10_clause 20 = .ok (.invokevirtual 136, 3) := by decide +kernel
theorem dX10_clause_23 : decode cX10_clause 23 = .ok (.ifCond .eq 12, 3) := by decide +kernel
theorem dX10_clause_26 : decode cX10_clause 26 = .ok (.aload_n 0, 1) := by decide +kernel
theorem dX10_clause_27 : decode cX10_clause 27 = .ok (.iload 4, 2) := by decide +kernel
theorem dX10_clause_29 : decode cX10_clause 29 = .ok (.invokevirtual 136, 3) := by decide +kernel
theorem dX10_clause_32 : decode cX10_clause 32 = .ok (.ifCond .ne 6, 3) := by decide +kernel
theorem dX10_clause_35 : decode cX10_clause 35 = .ok (.bipush (-2), 2) := by decide +kernel
theorem dX10_clause_37 : decode cX10_clause 37 = .ok (.ireturn, 1) := by decide +kernel
theorem dX10_clause_38 : decode cX10_clause 38 = .ok (.iload_n 2, 1) := by decide +kernel
theorem dX10_clause_39 : decode cX10_clause 39 = .ok (.iload_n 3, 1) := by decide +kernel
theorem dX10_clause_40 : decode cX10_clause 40 = .ok (.iload 4, 2) := by decide +kernel
theorem dX10_clause_42 : decode cX10_clause 42 = .ok (.invokestatic 139, 3) := by decide +kernel
theorem dX10_clause_45 : decode cX10_clause 45 = .ok (.ifCond .ne 6, 3) := by decide +kernel
theorem dX10_clause_48 : decode cX10_clause 48 = .ok (.bipush (-4), 2) := by decide +kernel
theorem dX10_clause_50 : decode cX10_clause 50 = .ok (.ireturn, 1) := by decide +kernel
theorem dX10_clause_51 : decode cX10_clause 51 = .ok (.iload_n 2, 1) := by decide +kernel
theorem dX10_clause_52 : decode cX10_clause 52 = .ok (.tableswitch 190 0 4 #[36, 36, 56, 97, 158], 36) := by decide +kernel
theorem dX10_clause_88 : decode cX10_clause 88 = .ok (.aload_n 0, 1) := by decide +kernel
theorem dX10_clause_89 : decode cX10_clause 89 = .ok (.iload_n 1, 1) := by decide +kernel
theorem dX10_clause_90 : decode cX10_clause 90 = .ok (.iload_n 2, 1) := by decide +kernel
theorem dX10_clause_91 : decode cX10_clause 91 = .ok (.iconst 1, 1) := by decide +kernel
theorem dX10_clause_92 : decode cX10_clause 92 = .ok (.if_icmp .ne 7, 3) := by decide +kernel
theorem dX10_clause_95 : decode cX10_clause 95 = .ok (.iconst 1, 1) := by decide +kernel
theorem dX10_clause_96 : decode cX10_clause 96 = .ok (.goto 4, 3) := by decide +kernel
theorem dX10_clause_99 : decode cX10_clause 99 = .ok (.iconst 0, 1) := by decide +kernel
theorem dX10_clause_100 : decode cX10_clause 100 = .ok (.invokevirtual 143, 3) := by decide +kernel
theorem dX10_clause_103 : decode cX10_clause 103 = .ok (.istore 5, 2) := by decide +kernel
theorem dX10_clause_105 : decode cX10_clause 105 = .ok (.goto 199, 3) := by decide +kernel
theorem dX10_clause_108 : decode cX10_clause 108 = .ok (.aload_n 0, 1) := by decide +kernel
theorem dX10_clause_109 : decode cX10_clause 109 = .ok (.getfield 13, 3) := by decide +kernel
theorem dX10_clause_112 : decode cX10_clause 112 = .ok (.iload_n 1, 1) := by decide +kernel
theorem dX10_clause_113 : decode cX10_clause 113 = .ok (.iaload, 1) := by decide +kernel
theorem dX10_clause_114 : decode cX10_clause 114 = .ok (.bipush 8, 2) := by decide +kernel
theorem dX10_clause_116 : decode cX10_clause 116 = .ok (.if_icmp .lt 27, 3) := by decide +kernel
theorem dX10_clause_119 : decode cX10_clause 119 = .ok (.aload_n 0, 1) := by decide +kernel
theorem dX10_clause_120 : decode cX10_clause 120 = .ok (.getfield 13, 3) := by decide +kernel
theorem dX10_clause_123 : decode cX10_clause 123 = .ok (.iload_n 1, 1) := by decide +kernel
theorem dX10_clause_124 : decode cX10_clause 124 = .ok (.iaload, 1) := by decide +kernel
theorem dX10_clause_125 : decode cX10_clause 125 = .ok (.bipush 11, 2) := by decide +kernel
theorem dX10_clause_127 : decode cX10_clause 127 = .ok (.if_icmp .gt 16, 3) := by decide +kernel
theorem dX10_clause_130 : decode cX10_clause 130 = .ok (.aload_n 0, 1) := by decide +kernel
theorem dX10_clause_131 : decode cX10_clause 131 = .ok (.getfield 37, 3) := by decide +kernel
theorem dX10_clause_134 : decode cX10_clause 134 = .ok (.iload_n 1, 1) := by decide +kernel
theorem dX10_clause_135 : decode cX10_clause 135 = .ok (.baload, 1) := by decide +kernel
theorem dX10_clause_136 : decode cX10_clause 136 = .ok (.ifCond .ne 7, 3) := by decide +kernel
theorem dX10_clause_139 : decode cX10_clause 139 = .ok (.iconst 1, 1) := by decide +kernel
theorem dX10_clause_140 : decode cX10_clause 140 = .ok (.goto 4, 3) := by decide +kernel
theorem dX10_clause_143 : decode cX10_clause 143 = .ok (.iconst 0, 1) := by decide +kernel
theorem dX10_clause_144 : decode cX10_clause 144 = .ok (.istore 5, 2) := by decide +kernel
theorem dX10_clause_146 : decode cX10_clause 146 = .ok (.goto 158, 3) := by decide +kernel
theorem dX10_clause_149 : decode cX10_clause 149 = .ok (.aload_n 0, 1) := by decide +kernel
theorem dX10_clause_150 : decode cX10_clause 150 = .ok (.getfield 13, 3) := by decide +kernel
theorem dX10_clause_153 : decode cX10_clause 153 = .ok (.iload_n 1, 1) := by decide +kernel
theorem dX10_clause_154 : decode cX10_clause 154 = .ok (.iaload, 1) := by decide +kernel
theorem dX10_clause_155 : decode cX10_clause 155 = .ok (.iconst 3, 1) := by decide +kernel
theorem dX10_clause_156 : decode cX10_clause 156 = .ok (.if_icmp .lt 48, 3) := by decide +kernel
theorem dX10_clause_159 : decode cX10_clause 159 = .ok (.aload_n 0, 1) := by decide +kernel
theorem dX10_clause_160 : decode cX10_clause 160 = .ok (.getfield 13, 3) := by decide +kernel
theorem dX10_clause_163 : decode cX10_clause 163 = .ok (.iload_n 1, 1) := by decide +kernel
theorem dX10_clause_164 : decode cX10_clause 164 = .ok (.iaload, 1) := by decide +kernel
theorem dX10_clause_165 : decode cX10_clause 165 = .ok (.bipush 8, 2) := by decide +kernel
theorem dX10_clause_167 : decode cX10_clause 167 = .ok (.if_icmp .gt 37, 3) := by decide +kernel
theorem dX10_clause_170 : decode cX10_clause 170 = .ok (.iload_n 3, 1) := by decide +kernel
theorem dX10_clause_171 : decode cX10_clause 171 = .ok (.invokestatic 147, 3) := by decide +kernel
theorem dX10_clause_174 : decode cX10_clause 174 = .ok (.aload_n 0, 1) := by decide +kernel
theorem dX10_clause_175 : decode cX10_clause 175 = .ok (.getfield 16, 3) := by decide +kernel
theorem dX10_clause_178 : decode cX10_clause 178 = .ok (.iload_n 1, 1) := by decide +kernel
theorem dX10_clause_179 : decode cX10_clause 179 = .ok (.iaload, 1) := by decide +kernel
theorem dX10_clause_180 : decode cX10_clause 180 = .ok (.if_icmp .gt 24, 3) := by decide +kernel
theorem dX10_clause_183 : decode cX10_clause 183 = .ok (.aload_n 0, 1) := by decide +kernel
theorem dX10_clause_184 : decode cX10_clause 184 = .ok (.getfield 41, 3) := by decide +kernel
theorem dX10_clause_187 : decode cX10_clause 187 = .ok (.iload_n 1, 1) := by decide +kernel
theorem dX10_clause_188 : decode cX10_clause 188 = .ok (.baload, 1) := by decide +kernel
theorem dX10_clause_189 : decode cX10_clause 189 = .ok (.ifCond .ne 15, 3) := by decide +kernel
theorem dX10_clause_192 : decode cX10_clause 192 = .ok (.aload_n 0, 1) := by decide +kernel
theorem dX10_clause_193 : decode cX10_clause 193 = .ok (.iload_n 1, 1) := by decide +kernel
theorem dX10_clause_194 : decode cX10_clause 194 = .ok (.invokevirtual 150, 3) := by decide +kernel
theorem dX10_clause_197 : decode cX10_clause 197 = .ok (.ifCond .ne 7, 3) := by decide +kernel
theorem dX10_clause_200 : decode cX10_clause 200 = .ok (.iconst 1, 1) := by decide +kernel
theorem dX10_clause_201 : decode cX10_clause 201 = .ok (.goto 4, 3) := by decide +kernel
theorem dX10_clause_204 : decode cX10_clause 204 = .ok (.iconst 0, 1) := by decide +kernel
theorem dX10_clause_205 : decode cX10_clause 205 = .ok (.istore 5, 2) := by decide +kernel
theorem dX10_clause_207 : decode cX10_clause 207 = .ok (.goto 97, 3) := by decide +kernel
theorem dX10_clause_210 : decode cX10_clause 210 = .ok (.aload_n 0, 1) := by decide +kernel
theorem dX10_clause_211 : decode cX10_clause 211 = .ok (.getfield 7, 3) := by decide +kernel
theorem dX10_clause_214 : decode cX10_clause 214 = .ok (.iload_n 1, 1) := by decide +kernel
theorem dX10_clause_215 : decode cX10_clause 215 = .ok (.iaload, 1) := by decide +kernel
theorem dX10_clause_216 : decode cX10_clause 216 = .ok (.bipush 88, 2) := by decide +kernel
theorem dX10_clause_218 : decode cX10_clause 218 = .ok (.if_icmp .ne 18, 3) := by decide +kernel
theorem dX10_clause_221 : decode cX10_clause 221 = .ok (.aload_n 0, 1) := by decide +kernel
theorem dX10_clause_222 : decode cX10_clause 222 = .ok (.getfield 47, 3) := by decide +kernel
theorem dX10_clause_225 : decode cX10_clause 225 = .ok (.iload_n 1, 1) := by decide +kernel
theorem dX10_clause_226 : decode cX10_clause 226 = .ok (.iaload, 1) := by decide +kernel
theorem dX10_clause_227 : decode cX10_clause 227 = .ok (.bipush 8, 2) := by decide +kernel
theorem dX10_clause_229 : decode cX10_clause 229 = .ok (.if_icmp .ge 7, 3) := by decide +kernel
theorem dX10_clause_232 : decode cX10_clause 232 = .ok (.iconst 1, 1) := by decide +kernel
theorem dX10_clause_233 : decode cX10_clause 233 = .ok (.goto 4, 3) := by decide +kernel
theorem dX10_clause_236 : decode cX10_clause 236 = .ok (.iconst 0, 1) := by decide +kernel
theorem dX10_clause_237 : decode cX10_clause 237 = .ok (.istore 5, 2) := by decide +kernel
theorem dX10_clause_239 : decode cX10_clause 239 = .ok (.goto 65, 3) := by decide +kernel
theorem dX10_clause_242 : decode cX10_clause 242 = .ok (.aload_n 0, 1) := by decide +kernel
theorem dX10_clause_243 : decode cX10_clause 243 = .ok (.getfield 7, 3) := by decide +kernel
theorem dX10_clause_246 : decode cX10_clause 246 = .ok (.iload_n 1, 1) := by decide +kernel
theorem dX10_clause_247 : decode cX10_clause 247 = .ok (.iaload, 1) := by decide +kernel
theorem dX10_clause_248 : decode cX10_clause 248 = .ok (.bipush 66, 2) := by decide +kernel
theorem dX10_clause_250 : decode cX10_clause 250 = .ok (.if_icmp .ne 51, 3) := by decide +kernel
theorem dX10_clause_253 : decode cX10_clause 253 = .ok (.aload_n 0, 1) := by decide +kernel
theorem dX10_clause_254 : decode cX10_clause 254 = .ok (.getfield 50, 3) := by decide +kernel
theorem dX10_clause_257 : decode cX10_clause 257 = .ok (.iload_n 1, 1) := by decide +kernel
theorem dX10_clause_258 : decode cX10_clause 258 = .ok (.iaload, 1) := by decide +kernel
theorem dX10_clause_259 : decode cX10_clause 259 = .ok (.ifCond .ne 42, 3) := by decide +kernel
theorem dX10_clause_262 : decode cX10_clause 262 = .ok (.aload_n 0, 1) := by decide +kernel
theorem dX10_clause_263 : decode cX10_clause 263 = .ok (.iload_n 1, 1) := by decide +kernel
theorem dX10_clause_264 : decode cX10_clause 264 = .ok (.iload_n 3, 1) := by decide +kernel
theorem dX10_clause_265 : decode cX10_clause 265 = .ok (.invokevirtual 153, 3) := by decide +kernel
theorem dX10_clause_268 : decode cX10_clause 268 = .ok (.ifCond .eq 33, 3) := by decide +kernel
theorem dX10_clause_271 : decode cX10_clause 271 = .ok (.aload_n 0, 1) := by decide +kernel
theorem dX10_clause_272 : decode cX10_clause 272 = .ok (.iload_n 1, 1) := by decide +kernel
theorem dX10_clause_273 : decode cX10_clause 273 = .ok (.iload 4, 2) := by decide +kernel
theorem dX10_clause_275 : decode cX10_clause 275 = .ok (.invokevirtual 153, 3) := by decide +kernel
theorem dX10_clause_278 : decode cX10_clause 278 = .ok (.ifCond .eq 23, 3) := by decide +kernel
theorem dX10_clause_281 : decode cX10_clause 281 = .ok (.iload_n 3, 1) := by decide +kernel
theorem dX10_clause_282 : decode cX10_clause 282 = .ok (.iload 4, 2) := by decide +kernel
theorem dX10_clause_284 : decode cX10_clause 284 = .ok (.if_icmp .gt 17, 3) := by decide +kernel
theorem dX10_clause_287 : decode cX10_clause 287 = .ok (.aload_n 0, 1) := by decide +kernel
theorem dX10_clause_288 : decode cX10_clause 288 = .ok (.iload 4, 2) := by decide +kernel
theorem dX10_clause_290 : decode cX10_clause 290 = .ok (.iload_n 3, 1) := by decide +kernel
theorem dX10_clause_291 : decode cX10_clause 291 = .ok (.invokevirtual 131, 3) := by decide +kernel
theorem dX10_clause_294 : decode cX10_clause 294 = .ok (.ifCond .ne 7, 3) := by decide +kernel
theorem dX10_clause_297 : decode cX10_clause 297 = .ok (.iconst 1, 1) := by decide +kernel
theorem dX10_clause_298 : decode cX10_clause 298 = .ok (.goto 4, 3) := by decide +kernel
theorem dX10_clause_301 : decode cX10_clause 301 = .ok (.iconst 0, 1) := by decide +kernel
theorem dX10_clause_302 : decode cX10_clause 302 = .ok (.istore 5, 2) := by decide +kernel
theorem dX10_clause_304 : decode cX10_clause 304 = .ok (.iload 5, 2) := by decide +kernel
theorem dX10_clause_306 : decode cX10_clause 306 = .ok (.ifCond .ne 5, 3) := by decide +kernel
theorem dX10_clause_309 : decode cX10_clause 309 = .ok (.iconst 0, 1) := by decide +kernel
theorem dX10_clause_310 : decode cX10_clause 310 = .ok (.ireturn, 1) := by decide +kernel
theorem dX10_clause_311 : decode cX10_clause 311 = .ok (.iload_n 2, 1) := by decide +kernel
theorem dX10_clause_312 : decode cX10_clause 312 = .ok (.iconst 2, 1) := by decide +kernel
theorem dX10_clause_313 : decode cX10_clause 313 = .ok (.if_icmp .ge 50, 3) := by decide +kernel
theorem dX10_clause_316 : decode cX10_clause 316 = .ok (.aload_n 0, 1) := by decide +kernel
theorem dX10_clause_317 : decode cX10_clause 317 = .ok (.getfield 25, 3) := by decide +kernel
theorem dX10_clause_320 : decode cX10_clause 320 = .ok (.iload_n 1, 1) := by decide +kernel
theorem dX10_clause_321 : decode cX10_clause 321 = .ok (.iload_n 2, 1) := by decide +kernel
theorem dX10_clause_322 : decode cX10_clause 322 = .ok (.iconst 1, 1) := by decide +kernel
theorem dX10_clause_323 : decode cX10_clause 323 = .ok (.iadd, 1) := by decide +kernel
theorem dX10_clause_324 : decode cX10_clause 324 = .ok (.iastore, 1) := by decide +kernel
theorem dX10_clause_325 : decode cX10_clause 325 = .ok (.aload_n 0, 1) := by decide +kernel
theorem dX10_clause_326 : decode cX10_clause 326 = .ok (.getfield 28, 3) := by decide +kernel
theorem dX10_clause_329 : decode cX10_clause 329 = .ok (.iload_n 1, 1) := by decide +kernel
theorem dX10_clause_330 : decode cX10_clause 330 = .ok (.iload_n 3, 1) := by decide +kernel
theorem dX10_clause_331 : decode cX10_clause 331 = .ok (.iastore, 1) := by decide +kernel
theorem dX10_clause_332 : decode cX10_clause 332 = .ok (.aload_n 0, 1) := by decide +kernel
theorem dX10_clause_333 : decode cX10_clause 333 = .ok (.getfield 31, 3) := by decide +kernel
theorem dX10_clause_336 : decode cX10_clause 336 = .ok (.iload_n 1, 1) := by decide +kernel
theorem dX10_clause_337 : decode cX10_clause 337 = .ok (.iload_n 2, 1) := by decide +kernel
theorem dX10_clause_338 : decode cX10_clause 338 = .ok (.ifCond .ne 7, 3) := by decide +kernel
theorem dX10_clause_341 : decode cX10_clause 341 = .ok (.iload_n 3, 1) := by decide +kernel
theorem dX10_clause_342 : decode cX10_clause 342 = .ok (.goto 5, 3) := by decide +kernel
theorem dX10_clause_345 : decode cX10_clause 345 = .ok (.iload 4, 2) := by decide +kernel
theorem dX10_clause_347 : decode cX10_clause 347 = .ok (.iastore, 1) := by decide +kernel
theorem dX10_clause_348 : decode cX10_clause 348 = .ok (.aload_n 0, 1) := by decide +kernel
theorem dX10_clause_349 : decode cX10_clause 349 = .ok (.getfield 34, 3) := by decide +kernel
theorem dX10_clause_352 : decode cX10_clause 352 = .ok (.iload_n 1, 1) := by decide +kernel
theorem dX10_clause_353 : decode cX10_clause 353 = .ok (.aload_n 0, 1) := by decide +kernel
theorem dX10_clause_354 : decode cX10_clause 354 = .ok (.getfield 31, 3) := by decide +kernel
theorem dX10_clause_357 : decode cX10_clause 357 = .ok (.iload_n 1, 1) := by decide +kernel
theorem dX10_clause_358 : decode cX10_clause 358 = .ok (.iaload, 1) := by decide +kernel
theorem dX10_clause_359 : decode cX10_clause 359 = .ok (.iastore, 1) := by decide +kernel
theorem dX10_clause_360 : decode cX10_clause 360 = .ok (.goto 114, 3) := by decide +kernel
theorem dX10_clause_363 : decode cX10_clause 363 = .ok (.iload_n 2, 1) := by decide +kernel
theorem dX10_clause_364 : decode cX10_clause 364 = .ok (.iconst 2, 1) := by decide +kernel
theorem dX10_clause_365 : decode cX10_clause 365 = .ok (.if_icmp .ne 13, 3) := by decide +kernel
theorem dX10_clause_368 : decode cX10_clause 368 = .ok (.aload_n 0, 1) := by decide +kernel
theorem dX10_clause_369 : decode cX10_clause 369 = .ok (.getfield 37, 3) := by decide +kernel
theorem dX10_clause_372 : decode cX10_clause 372 = .ok (.iload_n 1, 1) := by decide +kernel
theorem dX10_clause_373 : decode cX10_clause 373 = .ok (.iconst 1, 1) := by decide +kernel
theorem dX10_clause_374 : decode cX10_clause 374 = .ok (.bastore, 1) := by decide +kernel
theorem dX10_clause_375 : decode cX10_clause 375 = .ok (.goto 99, 3) := by decide +kernel
theorem dX10_clause_378 : decode cX10_clause 378 = .ok (.iload_n 2, 1) := by decide +kernel
theorem dX10_clause_379 : decode cX10_clause 379 = .ok (.iconst 3, 1) := by decide +kernel
theorem dX10_clause_380 : decode cX10_clause 380 = .ok (.if_icmp .ne 20, 3) := by decide +kernel
theorem dX10_clause_383 : decode cX10_clause 383 = .ok (.aload_n 0, 1) := by decide +kernel
theorem dX10_clause_384 : decode cX10_clause 384 = .ok (.getfield 41, 3) := by decide +kernel
theorem dX10_clause_387 : decode cX10_clause 387 = .ok (.iload_n 1, 1) := by decide +kernel
theorem dX10_clause_388 : decode cX10_clause 388 = .ok (.iconst 1, 1) := by decide +kernel
theorem dX10_clause_389 : decode cX10_clause 389 = .ok (.bastore, 1) := by decide +kernel
theorem dX10_clause_390 : decode cX10_clause 390 = .ok (.aload_n 0, 1) := by decide +kernel
theorem dX10_clause_391 : decode cX10_clause 391 = .ok (.getfield 44, 3) := by decide +kernel
theorem dX10_clause_394 : decode cX10_clause 394 = .ok (.iload_n 1, 1) := by decide +kernel
theorem dX10_clause_395 : decode cX10_clause 395 = .ok (.iload_n 3, 1) := by decide +kernel
theorem dX10_clause_396 : decode cX10_clause 396 = .ok (.iastore, 1) := by decide +kernel
theorem dX10_clause_397 : decode cX10_clause 397 = .ok (.goto 77, 3) := by decide +kernel
theorem dX10_clause_400 : decode cX10_clause 400 = .ok (.iload_n 2, 1) := by decide +kernel
theorem dX10_clause_401 : decode cX10_clause 401 = .ok (.iconst 4, 1) := by decide +kernel
theorem dX10_clause_402 : decode cX10_clause 402 = .ok (.if_icmp .ne 57, 3) := by decide +kernel
theorem dX10_clause_405 : decode cX10_clause 405 = .ok (.aload_n 0, 1) := by decide +kernel
theorem dX10_clause_406 : decode cX10_clause 406 = .ok (.getfield 62, 3) := by decide +kernel
theorem dX10_clause_409 : decode cX10_clause 409 = .ok (.bipush 8, 2) := by decide +kernel
theorem dX10_clause_411 : decode cX10_clause 411 = .ok (.iload_n 1, 1) := by decide +kernel
theorem dX10_clause_412 : decode cX10_clause 412 = .ok (.imul, 1) := by decide +kernel
theorem dX10_clause_413 : decode cX10_clause 413 = .ok (.bipush 8, 2) := by decide +kernel
theorem dX10_clause_415 : decode cX10_clause 415 = .ok (.isub, 1) := by decide +kernel
theorem dX10_clause_416 : decode cX10_clause 416 = .ok (.aload_n 0, 1) := by decide +kernel
theorem dX10_clause_417 : decode cX10_clause 417 = .ok (.getfield 47, 3) := by decide +kernel
theorem dX10_clause_420 : decode cX10_clause 420 = .ok (.iload_n 1, 1) := by decide +kernel
theorem dX10_clause_421 : decode cX10_clause 421 = .ok (.iaload, 1) := by decide +kernel
theorem dX10_clause_422 : decode cX10_clause 422 = .ok (.iadd, 1) := by decide +kernel
theorem dX10_clause_423 : decode cX10_clause 423 = .ok (.iload_n 3, 1) := by decide +kernel
theorem dX10_clause_424 : decode cX10_clause 424 = .ok (.iastore, 1) := by decide +kernel
theorem dX10_clause_425 : decode cX10_clause 425 = .ok (.aload_n 0, 1) := by decide +kernel
theorem dX10_clause_426 : decode cX10_clause 426 = .ok (.getfield 65, 3) := by decide +kernel
theorem dX10_clause_429 : decode cX10_clause 429 = .ok (.bipush 8, 2) := by decide +kernel
theorem dX10_clause_431 : decode cX10_clause 431 = .ok (.iload_n 1, 1) := by decide +kernel
theorem dX10_clause_432 : decode cX10_clause 432 = .ok (.imul, 1) := by decide +kernel
theorem dX10_clause_433 : decode cX10_clause 433 = .ok (.bipush 8, 2) := by decide +kernel
theorem dX10_clause_435 : decode cX10_clause 435 = .ok (.isub, 1) := by decide +kernel
theorem dX10_clause_436 : decode cX10_clause 436 = .ok (.aload_n 0, 1) := by decide +kernel
theorem dX10_clause_437 : decode cX10_clause 437 = .ok (.getfield 47, 3) := by decide +kernel
theorem dX10_clause_440 : decode cX10_clause 440 = .ok (.iload_n 1, 1) := by decide +kernel
theorem dX10_clause_441 : decode cX10_clause 441 = .ok (.iaload, 1) := by decide +kernel
theorem dX10_clause_442 : decode cX10_clause 442 = .ok (.iadd, 1) := by decide +kernel
theorem dX10_clause_443 : decode cX10_clause 443 = .ok (.iload 4, 2) := by decide +kernel
theorem dX10_clause_445 : decode cX10_clause 445 = .ok (.iastore, 1) := by decide +kernel
theorem dX10_clause_446 : decode cX10_clause 446 = .ok (.aload_n 0, 1) := by decide +kernel
theorem dX10_clause_447 : decode cX10_clause 447 = .ok (.getfield 47, 3) := by decide +kernel
theorem dX10_clause_450 : decode cX10_clause 450 = .ok (.iload_n 1, 1) := by decide +kernel
theorem dX10_clause_451 : decode cX10_clause 451 = .ok (.dup2, 1) := by decide +kernel
theorem dX10_clause_452 : decode cX10_clause 452 = .ok (.iaload, 1) := by decide +kernel
theorem dX10_clause_453 : decode cX10_clause 453 = .ok (.iconst 1, 1) := by decide +kernel
theorem dX10_clause_454 : decode cX10_clause 454 = .ok (.iadd, 1) := by decide +kernel
theorem dX10_clause_455 : decode cX10_clause 455 = .ok (.iastore, 1) := by decide +kernel
theorem dX10_clause_456 : decode cX10_clause 456 = .ok (.goto 18, 3) := by decide +kernel
theorem dX10_clause_459 : decode cX10_clause 459 = .ok (.aload_n 0, 1) := by decide +kernel
theorem dX10_clause_460 : decode cX10_clause 460 = .ok (.getfield 50, 3) := by decide +kernel
theorem dX10_clause_463 : decode cX10_clause 463 = .ok (.iload_n 1, 1) := by decide +kernel
theorem dX10_clause_464 : decode cX10_clause 464 = .ok (.iload_n 3, 1) := by decide +kernel
theorem dX10_clause_465 : decode cX10_clause 465 = .ok (.iastore, 1) := by decide +kernel
theorem dX10_clause_466 : decode cX10_clause 466 = .ok (.aload_n 0, 1) := by decide +kernel
theorem dX10_clause_467 : decode cX10_clause 467 = .ok (.getfield 53, 3) := by decide +kernel
theorem dX10_clause_470 : decode cX10_clause 470 = .ok (.iload_n 1, 1) := by decide +kernel
theorem dX10_clause_471 : decode cX10_clause 471 = .ok (.iload 4, 2) := by decide +kernel
theorem dX10_clause_473 : decode cX10_clause 473 = .ok (.iastore, 1) := by decide +kernel
theorem dX10_clause_474 : decode cX10_clause 474 = .ok (.aload_n 0, 1) := by decide +kernel
theorem dX10_clause_475 : decode cX10_clause 475 = .ok (.iconst 0, 1) := by decide +kernel
theorem dX10_clause_476 : decode cX10_clause 476 = .ok (.putfield 121, 3) := by decide +kernel
theorem dX10_clause_479 : decode cX10_clause 479 = .ok (.iconst 1, 1) := by decide +kernel
theorem dX10_clause_480 : decode cX10_clause 480 = .ok (.ireturn, 1) := by decide +kernel
def VX10_clause_347 (g : jg) (a0 : Nat) (x1 : Int32) (so0 : Option Nat) (s1 : Int32) (s2 : Int32) (h : jh) (k n : Nat) (Q : jq) : Prop := (¬ (so0) = none) ∧ (jt h (jd (so0)) = 20) ∧ (vp_in (s1) (jn h (jd (so0)))) ∧ ∀ h4 : jh, h4 = jsI h (jd (so0)) (s1 : Int32).toNatClampNeg (s2) → (jt h4 a0 = 9) ∧ (¬ (jr h4 521 a0) = none) ∧ (jt h4 (jd (jr h4 521 a0)) = 20) ∧ (vp_in (x1) (jn h4 (jd (jr h4 521 a0)))) ∧ (¬ (jr h4 522 a0) = none) ∧ (jt h4 (jd (jr h4 522 a0)) = 20) ∧ (vp_in (x1) (jn h4 (jd (jr h4 522 a0)))) ∧ ∀ h13 : jh, h13 = jsI h4 (jd (jr h4 522 a0)) (x1 : Int32).toNatClampNeg (jI h4 (jd (jr h4 521 a0)) (x1 : Int32).toNatClampNeg) → ∀ h15 : jh, h15 = jsi h13 533 a0 (0) → Q (.inl (some (.inl (1)))) h15
set_option maxRecDepth 20000 in
theorem vX10_clause_347 {g : jg} {a0 : Nat} {x1 : Int32} {so0 : Option Nat} {s1 : Int32} {s2 : Int32} {h : jh} {k n : Nat} {Q : jq} (hv : VX10_clause_347 g a0 x1 so0 s1 s2 h k n Q) : jG g mX10_clause 347 [(0, .inr (.inr (some (a0)))), (1, .inl (x1))] [.inl (s2), .inl (s1), .inr (.inr (so0))] h k n Q := by
  unfold VX10_clause_347 at hv
  obtain ⟨f1, hv⟩ := hv
  obtain ⟨f2, hv⟩ := hv
  obtain ⟨f3, hv⟩ := hv
  obtain ⟨h4, e5⟩ : ∃ z : jh, z = jsI h (jd (so0)) (s1 : Int32).toNatClampNeg (s2) := ⟨_, rfl⟩
  replace hv := hv h4 e5
  refine jp_iast dX10_clause_347 f1 f2 f3 e5 ?_
  refine jg_aload_n dX10_clause_348 rfl (List.Mem.head _) ?_
  obtain ⟨f6, hv⟩ := hv
  refine jg_getr dX10_clause_349 fl_RX10_34 rfl jsn f6 ?_
  refine jg_iload_n dX10_clause_352 rfl (List.Mem.tail _ (List.Mem.head _)) ?_
  refine jg_aload_n dX10_clause_353 rfl (List.Mem.head _) ?_
  refine jg_getr dX10_clause_354 fl_RX10_31 rfl jsn f6 ?_
  refine jg_iload_n dX10_clause_357 rfl (List.Mem.tail _ (List.Mem.head _)) ?_
  obtain ⟨f7, hv⟩ := hv
  obtain ⟨f8, hv⟩ := hv
  obtain ⟨f9, hv⟩ := hv
  refine jg_iald dX10_clause_358 f7 f8 f9 ?_
  obtain ⟨f10, hv⟩ := hv
  obtain ⟨f11, hv⟩ := hv
  obtain ⟨f12, hv⟩ := hv
  obtain ⟨h13, e14⟩ : ∃ z : jh, z = jsI h4 (jd (jr h4 522 a0)) (x1 : Int32).toNatClampNeg (jI h4 (jd (jr h4 521 a0)) (x1 : Int32).toNatClampNeg) := ⟨_, rfl⟩
  replace hv := hv h13 e14
  refine jp_iast dX10_clause_359 f10 f11 f12 e14 ?_
  refine jg_goto (tgt := 474) dX10_clause_360 (by decide) ?_
  refine jg_aload_n dX10_clause_474 rfl (List.Mem.head _) ?_
  refine jg_iconst (v := 0) dX10_clause_475 (by decide) ?_
  obtain ⟨h15, e16⟩ : ∃ z : jh, z = jsi h13 533 a0 (0) := ⟨_, rfl⟩
  replace hv := hv h15 e16
  refine jp_putz dX10_clause_476 (jfp.nf fl_RX10_121 (fun q hq => by cases hq; rfl)) rfl jsn ((congrArg (fun z => jt z a0) e14).trans f6) (by decide) e16 ?_
  refine jg_iconst (v := 1) dX10_clause_479 (by decide) ?_
  exact jg_iret dX10_clause_480 rfl hv
def VX10_clause_304 (g : jg) (a0 : Nat) (x1 : Int32) (x2 : Int32) (x3 : Int32) (x4 : Int32) (x5 : Int32) (h : jh) (k n : Nat) (Q : jq) : Prop := ((¬ (x5) = 0 → (((2 : Int32) ≤ (x2) → ((¬ (x2) = (2) → ((¬ (x2) = (3) → ((¬ (x2) = (4) → (jt h a0 = 9) ∧ (¬ (jr h 527 a0) = none) ∧ (jt h (jd (jr h 527 a0)) = 20) ∧ (vp_in (x1) (jn h (jd (jr h 527 a0)))) ∧ ∀ h26 : jh, h26 = jsI h (jd (jr h 527 a0)) (x1 : Int32).toNatClampNeg (x3) → (¬ (jr h26 528 a0) = none) ∧ (jt h26 (jd (jr h26 528 a0)) = 20) ∧ (vp_in (x1) (jn h26 (jd (jr h26 528 a0)))) ∧ ∀ h31 : jh, h31 = jsI h26 (jd (jr h26 528 a0)) (x1 : Int32).toNatClampNeg (x4) → ∀ h33 : jh, h33 = jsi h31 533 a0 (0) → Q (.inl (some (.inl (1)))) h33) ∧ ((x2) = (4) → (jt h a0 = 9) ∧ (¬ (jr h 526 a0) = none) ∧ (jt h (jd (jr h 526 a0)) = 20) ∧ (vp_in (x1) (jn h (jd (jr h 526 a0)))) ∧ (¬ (jr h 531 a0) = none) ∧ (jt h (jd (jr h 531 a0)) = 20) ∧ (vp_in ((((8) * (x1)) - (8)) + (jI h (jd (jr h 526 a0)) (x1 : Int32).toNatClampNeg)) (jn h (jd (jr h 531 a0)))) ∧ ∀ h42 : jh, h42 = jsI h (jd (jr h 531 a0)) ((((8) * (x1)) - (8)) + (jI h (jd (jr h 526 a0)) (x1 : Int32).toNatClampNeg) : Int32).toNatClampNeg (x3) → (¬ (jr h42 526 a0) = none) ∧ (jt h42 (jd (jr h42 526 a0)) = 20) ∧ (vp_in (x1) (jn h42 (jd (jr h42 526 a0)))) ∧ (¬ (jr h42 532 a0) = none) ∧ (jt h42 (jd (jr h42 532 a0)) = 20) ∧ (vp_in ((((8) * (x1)) - (8)) + (jI h42 (jd (jr h42 526 a0)) (x1 : Int32).toNatClampNeg)) (jn h42 (jd (jr h42 532 a0)))) ∧ ∀ h50 : jh, h50 = jsI h42 (jd (jr h42 532 a0)) ((((8) * (x1)) - (8)) + (jI h42 (jd (jr h42 526 a0)) (x1 : Int32).toNatClampNeg) : Int32).toNatClampNeg (x4) → (¬ (jr h50 526 a0) = none) ∧ (jt h50 (jd (jr h50 526 a0)) = 20) ∧ (vp_in (x1) (jn h50 (jd (jr h50 526 a0)))) ∧ ∀ h55 : jh, h55 = jsI h50 (jd (jr h50 526 a0)) (x1 : Int32).toNatClampNeg ((jI h50 (jd (jr h50 526 a0)) (x1 : Int32).toNatClampNeg) + (1)) → ∀ h57 : jh, h57 = jsi h55 533 a0 (0) → Q (.inl (some (.inl (1)))) h57))) ∧ ((x2) = (3) → (jt h a0 = 9) ∧ (¬ (jr h 524 a0) = none) ∧ (jt h (jd (jr h 524 a0)) = 24) ∧ (vp_in (x1) (jn h (jd (jr h 524 a0)))) ∧ ∀ h63 : jh, h63 = jsI h (jd (jr h 524 a0)) (x1 : Int32).toNatClampNeg (1) → (¬ (jr h63 525 a0) = none) ∧ (jt h63 (jd (jr h63 525 a0)) = 20) ∧ (vp_in (x1) (jn h63 (jd (jr h63 525 a0)))) ∧ ∀ h68 : jh, h68 = jsI h63 (jd (jr h63 525 a0)) (x1 : Int32).toNatClampNeg (x3) → ∀ h70 : jh, h70 = jsi h68 533 a0 (0) → Q (.inl (some (.inl (1)))) h70))) ∧ ((x2) = (2) → (jt h a0 = 9) ∧ (¬ (jr h 523 a0) = none) ∧ (jt h (jd (jr h 523 a0)) = 24) ∧ (vp_in (x1) (jn h (jd (jr h 523 a0)))) ∧ ∀ h76 : jh, h76 = jsI h (jd (jr h 523 a0)) (x1 : Int32).toNatClampNeg (1) → ∀ h78 : jh, h78 = jsi h76 533 a0 (0) → Q (.inl (some (.inl (1)))) h78))) ∧ (¬ (2 : Int32) ≤ (x2) → (jt h a0 = 9) ∧ (¬ (jr h 519 a0) = none) ∧ (jt h (jd (jr h 519 a0)) = 20) ∧ (vp_in (x1) (jn h (jd (jr h 519 a0)))) ∧ ∀ h84 : jh, h84 = jsI h (jd (jr h 519 a0)) (x1 : Int32).toNatClampNeg ((x2) + (1)) → (¬ (jr h84 520 a0) = none) ∧ (jt h84 (jd (jr h84 520 a0)) = 20) ∧ (vp_in (x1) (jn h84 (jd (jr h84 520 a0)))) ∧ ∀ h89 : jh, h89 = jsI h84 (jd (jr h84 520 a0)) (x1 : Int32).toNatClampNeg (x3) → ((¬ (x2) = 0 → VX10_clause_347 g (a0) (x1) (jr h89 521 a0) (x1) (x4) h89 k n Q) ∧ ((x2) = 0 → VX10_clause_347 g (a0) (x1) (jr h89 521 a0) (x1) (x3) h89 k n Q))))) ∧ ((x5) = 0 → Q (.inl (some (.inl (0)))) h))
set_option maxRecDepth 20000 in
theorem vX10_clause_304 {g : jg} {a0 : Nat} {x1 : Int32} {x2 : Int32} {x3 : Int32} {x4 : Int32} {x5 : Int32} {h : jh} {k n : Nat} {Q : jq} (hv : VX10_clause_304 g a0 x1 x2 x3 x4 x5 h k n Q) : jG g mX10_clause 304 [(0, .inr (.inr (some (a0)))), (1, .inl (x1)), (2, .inl (x2)), (3, .inl (x3)), (4, .inl (x4)), (5, .inl (x5))] [] h k n Q := by
  unfold VX10_clause_304 at hv
  refine jg_iload dX10_clause_304 (List.Mem.tail _ (List.Mem.tail _ (List.Mem.tail _ (List.Mem.tail _ (List.Mem.tail _ (List.Mem.head _)))))) ?_
  refine jg_if_ne (tgt := 311) dX10_clause_306 (by decide) (fun c17 => ?_) (fun c17 => ?_)
  · replace hv := hv.1 c17
    refine jg_iload_n dX10_clause_311 rfl (List.Mem.tail _ (List.Mem.tail _ (List.Mem.head _))) ?_
    refine jg_iconst (v := 2) dX10_clause_312 (by decide) ?_
    refine jg_icmp_ge (tgt := 363) dX10_clause_313 (by decide) (fun c18 => ?_) (fun c18 => ?_)
    · replace hv := hv.1 c18
      refine jg_iload_n dX10_clause_363 rfl (List.Mem.tail _ (List.Mem.tail _ (List.Mem.head _))) ?_
      refine jg_iconst (v := 2) dX10_clause_364 (by decide) ?_
      refine jg_icmp_ne (tgt := 378) dX10_clause_365 (by decide) (fun c19 => ?_) (fun c19 => ?_)
      · replace hv := hv.1 c19
        refine jg_iload_n dX10_clause_378 rfl (List.Mem.tail _ (List.Mem.tail _ (List.Mem.head _))) ?_
        refine jg_iconst (v := 3) dX10_clause_379 (by decide) ?_
        refine jg_icmp_ne (tgt := 400) dX10_clause_380 (by decide) (fun c20 => ?_) (fun c20 => ?_)
        · replace hv := hv.1 c20
          refine jg_iload_n dX10_clause_400 rfl (List.Mem.tail _ (List.Mem.tail _ (List.Mem.head _))) ?_
          refine jg_iconst (v := 4) dX10_clause_401 (by decide) ?_
          refine jg_icmp_ne (tgt := 459) dX10_clause_402 (by decide) (fun c21 => ?_) (fun c21 => ?_)
          · replace hv := hv.1 c21
            refine jg_aload_n dX10_clause_459 rfl (List.Mem.head _) ?_
            obtain ⟨f22, hv⟩ := hv
            refine jg_getr dX10_clause_460 fl_RX10_50 rfl jsn f22 ?_
            refine jg_iload_n dX10_clause_463 rfl (List.Mem.tail _ (List.Mem.head _)) ?_
            refine jg_iload_n dX10_clause_464 rfl (List.Mem.tail _ (List.Mem.tail _ (List.Mem.tail _ (List.Mem.head _)))) ?_
            obtain ⟨f23, hv⟩ := hv
            obtain ⟨f24, hv⟩ := hv
            obtain ⟨f25, hv⟩ := hv
            obtain ⟨h26, e27⟩ : ∃ z : jh, z = jsI h (jd (jr h 527 a0)) (x1 : Int32).toNatClampNeg (x3) := ⟨_, rfl⟩
            replace hv := hv h26 e27
            refine jp_iast dX10_clause_465 f23 f24 f25 e27 ?_
            refine jg_aload_n dX10_clause_466 rfl (List.Mem.head _) ?_
            refine jg_getr dX10_clause_467 fl_RX10_53 rfl jsn ((congrArg (fun z => jt z a0) e27).trans f22) ?_
            refine jg_iload_n dX10_clause_470 rfl (List.Mem.tail _ (List.Mem.head _)) ?_
            refine jg_iload dX10_clause_471 (List.Mem.tail _ (List.Mem.tail _ (List.Mem.tail _ (List.Mem.tail _ (List.Mem.head _))))) ?_
            obtain ⟨f28, hv⟩ := hv
            obtain ⟨f29, hv⟩ := hv
            obtain ⟨f30, hv⟩ := hv
            obtain ⟨h31, e32⟩ : ∃ z : jh, z = jsI h26 (jd (jr h26 528 a0)) (x1 : Int32).toNatClampNeg (x4) := ⟨_, rfl⟩
            replace hv := hv h31 e32
            refine jp_iast dX10_clause_473 f28 f29 f30 e32 ?_
            refine jg_aload_n dX10_clause_474 rfl (List.Mem.head _) ?_
            refine jg_iconst (v := 0) dX10_clause_475 (by decide) ?_
            obtain ⟨h33, e34⟩ : ∃ z : jh, z = jsi h31 533 a0 (0) := ⟨_, rfl⟩
            replace hv := hv h33 e34
            refine jp_putz dX10_clause_476 (jfp.nf fl_RX10_121 (fun q hq => by cases hq; rfl)) rfl jsn ((congrArg (fun z => jt z a0) e32).trans ((congrArg (fun z => jt z a0) e27).trans f22)) (by decide) e34 ?_
            refine jg_iconst (v := 1) dX10_clause_479 (by decide) ?_
            exact jg_iret dX10_clause_480 rfl hv
          · replace hv := hv.2 c21
            refine jg_aload_n dX10_clause_405 rfl (List.Mem.head _) ?_
            obtain ⟨f35, hv⟩ := hv
            refine jg_getr dX10_clause_406 fl_RX10_62 rfl jsn f35 ?_
            refine jg_bipush (v := 8) dX10_clause_409 (by decide) ?_
            refine jg_iload_n dX10_clause_411 rfl (List.Mem.tail _ (List.Mem.head _)) ?_
            refine jg_imul dX10_clause_412 ?_
            refine jg_bipush (v := 8) dX10_clause_413 (by decide) ?_
            refine jg_isub dX10_clause_415 ?_
            refine jg_aload_n dX10_clause_416 rfl (List.Mem.head _) ?_
            refine jg_getr dX10_clause_417 fl_RX10_47 rfl jsn f35 ?_
            refine jg_iload_n dX10_clause_420 rfl (List.Mem.tail _ (List.Mem.head _)) ?_
            obtain ⟨f36, hv⟩ := hv
            obtain ⟨f37, hv⟩ := hv
            obtain ⟨f38, hv⟩ := hv
            refine jg_iald dX10_clause_421 f36 f37 f38 ?_
            refine jg_iadd dX10_clause_422 ?_
            refine jg_iload_n dX10_clause_423 rfl (List.Mem.tail _ (List.Mem.tail _ (List.Mem.tail _ (List.Mem.head _)))) ?_
            obtain ⟨f39, hv⟩ := hv
            obtain ⟨f40, hv⟩ := hv
            obtain ⟨f41, hv⟩ := hv
            obtain ⟨h42, e43⟩ : ∃ z : jh, z = jsI h (jd (jr h 531 a0)) ((((8) * (x1)) - (8)) + (jI h (jd (jr h 526 a0)) (x1 : Int32).toNatClampNeg) : Int32).toNatClampNeg (x3) := ⟨_, rfl⟩
            replace hv := hv h42 e43
            refine jp_iast dX10_clause_424 f39 f40 f41 e43 ?_
            refine jg_aload_n dX10_clause_425 rfl (List.Mem.head _) ?_
            refine jg_getr dX10_clause_426 fl_RX10_65 rfl jsn ((congrArg (fun z => jt z a0) e43).trans f35) ?_
            refine jg_bipush (v := 8) dX10_clause_429 (by decide) ?_
            refine jg_iload_n dX10_clause_431 rfl (List.Mem.tail _ (List.Mem.head _)) ?_
            refine jg_imul dX10_clause_432 ?_
            refine jg_bipush (v := 8) dX10_clause_433 (by decide) ?_
            refine jg_isub dX10_clause_435 ?_
            refine jg_aload_n dX10_clause_436 rfl (List.Mem.head _) ?_
            refine jg_getr dX10_clause_437 fl_RX10_47 rfl jsn ((congrArg (fun z => jt z a0) e43).trans f35) ?_
            refine jg_iload_n dX10_clause_440 rfl (List.Mem.tail _ (List.Mem.head _)) ?_
            obtain ⟨f44, hv⟩ := hv
            obtain ⟨f45, hv⟩ := hv
            obtain ⟨f46, hv⟩ := hv
            refine jg_iald dX10_clause_441 f44 f45 f46 ?_
            refine jg_iadd dX10_clause_442 ?_
            refine jg_iload dX10_clause_443 (List.Mem.tail _ (List.Mem.tail _ (List.Mem.tail _ (List.Mem.tail _ (List.Mem.head _))))) ?_
            obtain ⟨f47, hv⟩ := hv
            obtain ⟨f48, hv⟩ := hv
            obtain ⟨f49, hv⟩ := hv
            obtain ⟨h50, e51⟩ : ∃ z : jh, z = jsI h42 (jd (jr h42 532 a0)) ((((8) * (x1)) - (8)) + (jI h42 (jd (jr h42 526 a0)) (x1 : Int32).toNatClampNeg) : Int32).toNatClampNeg (x4) := ⟨_, rfl⟩
            replace hv := hv h50 e51
            refine jp_iast dX10_clause_445 f47 f48 f49 e51 ?_
            refine jg_aload_n dX10_clause_446 rfl (List.Mem.head _) ?_
            refine jg_getr dX10_clause_447 fl_RX10_47 rfl jsn ((congrArg (fun z => jt z a0) e51).trans ((congrArg (fun z => jt z a0) e43).trans f35)) ?_
            refine jg_iload_n dX10_clause_450 rfl (List.Mem.tail _ (List.Mem.head _)) ?_
            refine jg_dup2 dX10_clause_451 rfl (jw_cat (fun _ q => by cases q)) ?_
            obtain ⟨f52, hv⟩ := hv
            obtain ⟨f53, hv⟩ := hv
            obtain ⟨f54, hv⟩ := hv
            refine jg_iald dX10_clause_452 f52 f53 f54 ?_
            refine jg_iconst (v := 1) dX10_clause_453 (by decide) ?_
            refine jg_iadd dX10_clause_454 ?_
            obtain ⟨h55, e56⟩ : ∃ z : jh, z = jsI h50 (jd (jr h50 526 a0)) (x1 : Int32).toNatClampNeg ((jI h50 (jd (jr h50 526 a0)) (x1 : Int32).toNatClampNeg) + (1)) := ⟨_, rfl⟩
            replace hv := hv h55 e56
            refine jp_iast dX10_clause_455 f52 f53 f54 e56 ?_
            refine jg_goto (tgt := 474) dX10_clause_456 (by decide) ?_
            refine jg_aload_n dX10_clause_474 rfl (List.Mem.head _) ?_
            refine jg_iconst (v := 0) dX10_clause_475 (by decide) ?_
            obtain ⟨h57, e58⟩ : ∃ z : jh, z = jsi h55 533 a0 (0) := ⟨_, rfl⟩
            replace hv := hv h57 e58
            refine jp_putz dX10_clause_476 (jfp.nf fl_RX10_121 (fun q hq => by cases hq; rfl)) rfl jsn ((congrArg (fun z => jt z a0) e56).trans ((congrArg (fun z => jt z a0) e51).trans ((congrArg (fun z => jt z a0) e43).trans f35))) (by decide) e58 ?_
            refine jg_iconst (v := 1) dX10_clause_479 (by decide) ?_
            exact jg_iret dX10_clause_480 rfl hv
        · replace hv := hv.2 c20
          refine jg_aload_n dX10_clause_383 rfl (List.Mem.head _) ?_
          obtain ⟨f59, hv⟩ := hv
          refine jg_getr dX10_clause_384 fl_RX10_41 rfl jsn f59 ?_
          refine jg_iload_n dX10_clause_387 rfl (List.Mem.tail _ (List.Mem.head _)) ?_
          refine jg_iconst (v := 1) dX10_clause_388 (by decide) ?_
          obtain ⟨f60, hv⟩ := hv
          obtain ⟨f61, hv⟩ := hv
          obtain ⟨f62, hv⟩ := hv
          obtain ⟨h63, e64⟩ : ∃ z : jh, z = jsI h (jd (jr h 524 a0)) (x1 : Int32).toNatClampNeg (1) := ⟨_, rfl⟩
          replace hv := hv h63 e64
          refine jp_zast dX10_clause_389 f60 f61 f62 (by decide) e64 ?_
          refine jg_aload_n dX10_clause_390 rfl (List.Mem.head _) ?_
          refine jg_getr dX10_clause_391 fl_RX10_44 rfl jsn ((congrArg (fun z => jt z a0) e64).trans f59) ?_
          refine jg_iload_n dX10_clause_394 rfl (List.Mem.tail _ (List.Mem.head _)) ?_
          refine jg_iload_n dX10_clause_395 rfl (List.Mem.tail _ (List.Mem.tail _ (List.Mem.tail _ (List.Mem.head _)))) ?_
          obtain ⟨f65, hv⟩ := hv
          obtain ⟨f66, hv⟩ := hv
          obtain ⟨f67, hv⟩ := hv
          obtain ⟨h68, e69⟩ : ∃ z : jh, z = jsI h63 (jd (jr h63 525 a0)) (x1 : Int32).toNatClampNeg (x3) := ⟨_, rfl⟩
          replace hv := hv h68 e69
          refine jp_iast dX10_clause_396 f65 f66 f67 e69 ?_
          refine jg_goto (tgt := 474) dX10_clause_397 (by decide) ?_
          refine jg_aload_n dX10_clause_474 rfl (List.Mem.head _) ?_
          refine jg_iconst (v := 0) dX10_clause_475 (by decide) ?_
          obtain ⟨h70, e71⟩ : ∃ z : jh, z = jsi h68 533 a0 (0) := ⟨_, rfl⟩
          replace hv := hv h70 e71
          refine jp_putz dX10_clause_476 (jfp.nf fl_RX10_121 (fun q hq => by cases hq; rfl)) rfl jsn ((congrArg (fun z => jt z a0) e69).trans ((congrArg (fun z => jt z a0) e64).trans f59)) (by decide) e71 ?_
          refine jg_iconst (v := 1) dX10_clause_479 (by decide) ?_
          exact jg_iret dX10_clause_480 rfl hv
      · replace hv := hv.2 c19
        refine jg_aload_n dX10_clause_368 rfl (List.Mem.head _) ?_
        obtain ⟨f72, hv⟩ := hv
        refine jg_getr dX10_clause_369 fl_RX10_37 rfl jsn f72 ?_
        refine jg_iload_n dX10_clause_372 rfl (List.Mem.tail _ (List.Mem.head _)) ?_
        refine jg_iconst (v := 1) dX10_clause_373 (by decide) ?_
        obtain ⟨f73, hv⟩ := hv
        obtain ⟨f74, hv⟩ := hv
        obtain ⟨f75, hv⟩ := hv
        obtain ⟨h76, e77⟩ : ∃ z : jh, z = jsI h (jd (jr h 523 a0)) (x1 : Int32).toNatClampNeg (1) := ⟨_, rfl⟩
        replace hv := hv h76 e77
        refine jp_zast dX10_clause_374 f73 f74 f75 (by decide) e77 ?_
        refine jg_goto (tgt := 474) dX10_clause_375 (by decide) ?_
        refine jg_aload_n dX10_clause_474 rfl (List.Mem.head _) ?_
        refine jg_iconst (v := 0) dX10_clause_475 (by decide) ?_
        obtain ⟨h78, e79⟩ : ∃ z : jh, z = jsi h76 533 a0 (0) := ⟨_, rfl⟩
        replace hv := hv h78 e79
        refine jp_putz dX10_clause_476 (jfp.nf fl_RX10_121 (fun q hq => by cases hq; rfl)) rfl jsn ((congrArg (fun z => jt z a0) e77).trans f72) (by decide) e79 ?_
        refine jg_iconst (v := 1) dX10_clause_479 (by decide) ?_
        exact jg_iret dX10_clause_480 rfl hv
    · replace hv := hv.2 c18
      refine jg_aload_n dX10_clause_316 rfl (List.Mem.head _) ?_
      obtain ⟨f80, hv⟩ := hv
      refine jg_getr dX10_clause_317 fl_RX10_25 rfl jsn f80 ?_
      refine jg_iload_n dX10_clause_320 rfl (List.Mem.tail _ (List.Mem.head _)) ?_
      refine jg_iload_n dX10_clause_321 rfl (List.Mem.tail _ (List.Mem.tail _ (List.Mem.head _))) ?_
      refine jg_iconst (v := 1) dX10_clause_322 (by decide) ?_
      refine jg_iadd dX10_clause_323 ?_
      obtain ⟨f81, hv⟩ := hv
      obtain ⟨f82, hv⟩ := hv
      obtain ⟨f83, hv⟩ := hv
      obtain ⟨h84, e85⟩ : ∃ z : jh, z = jsI h (jd (jr h 519 a0)) (x1 : Int32).toNatClampNeg ((x2) + (1)) := ⟨_, rfl⟩
      replace hv := hv h84 e85
      refine jp_iast dX10_clause_324 f81 f82 f83 e85 ?_
      refine jg_aload_n dX10_clause_325 rfl (List.Mem.head _) ?_
      refine jg_getr dX10_clause_326 fl_RX10_28 rfl jsn ((congrArg (fun z => jt z a0) e85).trans f80) ?_
      refine jg_iload_n dX10_clause_329 rfl (List.Mem.tail _ (List.Mem.head _)) ?_
      refine jg_iload_n dX10_clause_330 rfl (List.Mem.tail _ (List.Mem.tail _ (List.Mem.tail _ (List.Mem.head _)))) ?_
      obtain ⟨f86, hv⟩ := hv
      obtain ⟨f87, hv⟩ := hv
      obtain ⟨f88, hv⟩ := hv
      obtain ⟨h89, e90⟩ : ∃ z : jh, z = jsI h84 (jd (jr h84 520 a0)) (x1 : Int32).toNatClampNeg (x3) := ⟨_, rfl⟩
      replace hv := hv h89 e90
      refine jp_iast dX10_clause_331 f86 f87 f88 e90 ?_
      refine jg_aload_n dX10_clause_332 rfl (List.Mem.head _) ?_
      refine jg_getr dX10_clause_333 fl_RX10_31 rfl jsn ((congrArg (fun z => jt z a0) e90).trans ((congrArg (fun z => jt z a0) e85).trans f80)) ?_
      refine jg_iload_n dX10_clause_336 rfl (List.Mem.tail _ (List.Mem.head _)) ?_
      refine jg_iload_n dX10_clause_337 rfl (List.Mem.tail _ (List.Mem.tail _ (List.Mem.head _))) ?_
      refine jg_if_ne (tgt := 345) dX10_clause_338 (by decide) (fun c91 => ?_) (fun c91 => ?_)
      · replace hv := hv.1 c91
        refine jg_iload dX10_clause_345 (List.Mem.tail _ (List.Mem.tail _ (List.Mem.tail _ (List.Mem.tail _ (List.Mem.head _))))) ?_
        refine jG.sub (lv' := [(0, .inr (.inr (some (a0)))), (1, .inl (x1))]) (by simp) ?_
        exact vX10_clause_347 hv
      · replace hv := hv.2 c91
        refine jg_iload_n dX10_clause_341 rfl (List.Mem.tail _ (List.Mem.tail _ (List.Mem.tail _ (List.Mem.head _)))) ?_
        refine jg_goto (tgt := 347) dX10_clause_342 (by decide) ?_
        refine jG.sub (lv' := [(0, .inr (.inr (some (a0)))), (1, .inl (x1))]) (by simp) ?_
        exact vX10_clause_347 hv
  · replace hv := hv.2 c17
    refine jg_iconst (v := 0) dX10_clause_309 (by decide) ?_
    exact jg_iret dX10_clause_310 rfl hv
def VX10_clause_38 (g : jg) (a0 : Nat) (x1 : Int32) (x2 : Int32) (x3 : Int32) (x4 : Int32) (h : jh) (k n : Nat) (Q : jq) : Prop := jM g mX10_isClause [.inl (x2), .inl (x3), .inl (x4)] h 0 0 (jki (fun (r92 : Int32) (h93 : jh) => ((¬ (r92) = 0 → (((x2) = 0 → ((¬ (x2) = (1) → (jt h93 a0 = 9) ∧ jM g mX10_mayBeTable [.inr (.inr (some a0)), .inl (x1), .inl (0)] h93 0 0 (jki (fun (r98 : Int32) (h99 : jh) => VX10_clause_304 g (a0) (x1) (x2) (x3) (x4) (r98) h99 k n Q) (fun e h9 => Q (.inr e) h9))) ∧ ((x2) = (1) → (jt h93 a0 = 9) ∧ jM g mX10_mayBeTable [.inr (.inr (some a0)), .inl (x1), .inl (1)] h93 0 0 (jki (fun (r101 : Int32) (h102 : jh) => VX10_clause_304 g (a0) (x1) (x2) (x3) (x4) (r101) h102 k n Q) (fun e h9 => Q (.inr e) h9))))) ∧ ((x2) = 1 → ((¬ (x2) = (1) → (jt h93 a0 = 9) ∧ jM g mX10_mayBeTable [.inr (.inr (some a0)), .inl (x1), .inl (0)] h93 0 0 (jki (fun (r106 : Int32) (h107 : jh) => VX10_clause_304 g (a0) (x1) (x2) (x3) (x4) (r106) h107 k n Q) (fun e h9 => Q (.inr e) h9))) ∧ ((x2) = (1) → (jt h93 a0 = 9) ∧ jM g mX10_mayBeTable [.inr (.inr (some a0)), .inl (x1), .inl (1)] h93 0 0 (jki (fun (r109 : Int32) (h110 : jh) => VX10_clause_304 g (a0) (x1) (x2) (x3) (x4) (r109) h110 k n Q) (fun e h9 => Q (.inr e) h9))))) ∧ ((x2) = 2 → (jt h93 a0 = 9) ∧ (¬ (jr h93 515 a0) = none) ∧ (jt h93 (jd (jr h93 515 a0)) = 20) ∧ (vp_in (x1) (jn h93 (jd (jr h93 515 a0)))) ∧ (((jI h93 (jd (jr h93 515 a0)) (x1 : Int32).toNatClampNeg) < (8) → VX10_clause_304 g (a0) (x1) (x2) (x3) (x4) (0) h93 k n Q) ∧ (¬ (jI h93 (jd (jr h93 515 a0)) (x1 : Int32).toNatClampNeg) < (8) → (((11 : Int32) < (jI h93 (jd (jr h93 515 a0)) (x1 : Int32).toNatClampNeg) → VX10_clause_304 g (a0) (x1) (x2) (x3) (x4) (0) h93 k n Q) ∧ (¬ (11 : Int32) < (jI h93 (jd (jr h93 515 a0)) (x1 : Int32).toNatClampNeg) → (¬ (jr h93 523 a0) = none) ∧ (jt h93 (jd (jr h93 523 a0)) = 24) ∧ (vp_in (x1) (jn h93 (jd (jr h93 523 a0)))) ∧ ((¬ (jI h93 (jd (jr h93 523 a0)) (x1 : Int32).toNatClampNeg) = 0 → VX10_clause_304 g (a0) (x1) (x2) (x3) (x4) (0) h93 k n Q) ∧ ((jI h93 (jd (jr h93 523 a0)) (x1 : Int32).toNatClampNeg) = 0 → VX10_clause_304 g (a0) (x1) (x2) (x3) (x4) (1) h93 k n Q))))))) ∧ ((x2) = 3 → (jt h93 a0 = 9) ∧ (¬ (jr h93 515 a0) = none) ∧ (jt h93 (jd (jr h93 515 a0)) = 20) ∧ (vp_in (x1) (jn h93 (jd (jr h93 515 a0)))) ∧ (((jI h93 (jd (jr h93 515 a0)) (x1 : Int32).toNatClampNeg) < (3) → VX10_clause_304 g (a0) (x1) (x2) (x3) (x4) (0) h93 k n Q) ∧ (¬ (jI h93 (jd (jr h93 515 a0)) (x1 : Int32).toNatClampNeg) < (3) → (((8 : Int32) < (jI h93 (jd (jr h93 515 a0)) (x1 : Int32).toNatClampNeg) → VX10_clause_304 g (a0) (x1) (x2) (x3) (x4) (0) h93 k n Q) ∧ (¬ (8 : Int32) < (jI h93 (jd (jr h93 515 a0)) (x1 : Int32).toNatClampNeg) → jM g mX10_digitsOf [.inl (x3)] h93 0 0 (jki (fun (r129 : Int32) (h130 : jh) => (jt h130 a0 = 9) ∧ (¬ (jr h130 516 a0) = none) ∧ (jt h130 (jd (jr h130 516 a0)) = 20) ∧ (vp_in (x1) (jn h130 (jd (jr h130 516 a0)))) ∧ (((jI h130 (jd (jr h130 516 a0)) (x1 : Int32).toNatClampNeg) < (r129) → VX10_clause_304 g (a0) (x1) (x2) (x3) (x4) (0) h130 k n Q) ∧ (¬ (jI h130 (jd (jr h130 516 a0)) (x1 : Int32).toNatClampNeg) < (r129) → (¬ (jr h130 524 a0) = none) ∧ (jt h130 (jd (jr h130 524 a0)) = 24) ∧ (vp_in (x1) (jn h130 (jd (jr h130 524 a0)))) ∧ ((¬ (jI h130 (jd (jr h130 524 a0)) (x1 : Int32).toNatClampNeg) = 0 → VX10_clause_304 g (a0) (x1) (x2) (x3) (x4) (0) h130 k n Q) ∧ ((jI h130 (jd (jr h130 524 a0)) (x1 : Int32).toNatClampNeg) = 0 → jM g mX10_isAside [.inr (.inr (some a0)), .inl (x1)] h130 0 0 (jki (fun (r140 : Int32) (h141 : jh) => ((¬ (r140) = 0 → VX10_clause_304 g (a0) (x1) (x2) (x3) (x4) (0) h141 k n Q) ∧ ((r140) = 0 → VX10_clause_304 g (a0) (x1) (x2) (x3) (x4) (1) h141 k n Q))) (fun e h9 => Q (.inr e) h9))))))) (fun e h9 => Q (.inr e) h9))))))) ∧ ((x2) = 4 → (jt h93 a0 = 9) ∧ (¬ (jr h93 514 a0) = none) ∧ (jt h93 (jd (jr h93 514 a0)) = 20) ∧ (vp_in (x1) (jn h93 (jd (jr h93 514 a0)))) ∧ ((¬ (jI h93 (jd (jr h93 514 a0)) (x1 : Int32).toNatClampNeg) = (88) → VX10_clause_304 g (a0) (x1) (x2) (x3) (x4) (0) h93 k n Q) ∧ ((jI h93 (jd (jr h93 514 a0)) (x1 : Int32).toNatClampNeg) = (88) → (¬ (jr h93 526 a0) = none) ∧ (jt h93 (jd (jr h93 526 a0)) = 20) ∧ (vp_in (x1) (jn h93 (jd (jr h93 526 a0)))) ∧ (((8 : Int32) ≤ (jI h93 (jd (jr h93 526 a0)) (x1 : Int32).toNatClampNeg) → VX10_clause_304 g (a0) (x1) (x2) (x3) (x4) (0) h93 k n Q) ∧ (¬ (8 : Int32) ≤ (jI h93 (jd (jr h93 526 a0)) (x1 : Int32).toNatClampNeg) → VX10_clause_304 g (a0) (x1) (x2) (x3) (x4) (1) h93 k n Q))))) ∧ ((x2 : Int32).toInt < 0 ∨ 4 < (x2 : Int32).toInt → (jt h93 a0 = 9) ∧ (¬ (jr h93 514 a0) = none) ∧ (jt h93 (jd (jr h93 514 a0)) = 20) ∧ (vp_in (x1) (jn h93 (jd (jr h93 514 a0)))) ∧ ((¬ (jI h93 (jd (jr h93 514 a0)) (x1 : Int32).toNatClampNeg) = (66) → VX10_clause_304 g (a0) (x1) (x2) (x3) (x4) (0) h93 k n Q) ∧ ((jI h93 (jd (jr h93 514 a0)) (x1 : Int32).toNatClampNeg) = (66) → (¬ (jr h93 527 a0) = none) ∧ (jt h93 (jd (jr h93 527 a0)) = 20) ∧ (vp_in (x1) (jn h93 (jd (jr h93 527 a0)))) ∧ ((¬ (jI h93 (jd (jr h93 527 a0)) (x1 : Int32).toNatClampNeg) = 0 → VX10_clause_304 g (a0) (x1) (x2) (x3) (x4) (0) h93 k n Q) ∧ ((jI h93 (jd (jr h93 527 a0)) (x1 : Int32).toNatClampNeg) = 0 → jM g mX10_isPart [.inr (.inr (some a0)), .inl (x1), .inl (x3)] h93 0 0 (jki (fun (r162 : Int32) (h163 : jh) => (((r162) = 0 → VX10_clause_304 g (a0) (x1) (x2) (x3) (x4) (0) h163 k n Q) ∧ (¬ (r162) = 0 → (jt h163 a0 = 9) ∧ jM g mX10_isPart [.inr (.inr (some a0)), .inl (x1), .inl (x4)] h163 0 0 (jki (fun (r166 : Int32) (h167 : jh) => (((r166) = 0 → VX10_clause_304 g (a0) (x1) (x2) (x3) (x4) (0) h167 k n Q) ∧ (¬ (r166) = 0 → (((x4) < (x3) → VX10_clause_304 g (a0) (x1) (x2) (x3) (x4) (0) h167 k n Q) ∧ (¬ (x4) < (x3) → (jt h167 a0 = 9) ∧ jM g mX10_isBelow [.inr (.inr (some a0)), .inl (x4), .inl (x3)] h167 0 0 (jki (fun (r171 : Int32) (h172 : jh) => ((¬ (r171) = 0 → VX10_clause_304 g (a0) (x1) (x2) (x3) (x4) (0) h172 k n Q) ∧ ((r171) = 0 → VX10_clause_304 g (a0) (x1) (x2) (x3) (x4) (1) h172 k n Q))) (fun e h9 => Q (.inr e) h9))))))) (fun e h9 => Q (.inr e) h9))))) (fun e h9 => Q (.inr e) h9))))))))) ∧ ((r92) = 0 → Q (.inl (some (.inl ((-4))))) h93))) (fun e h9 => Q (.inr e) h9))
set_option maxRecDepth 20000 in
theorem vX10_clause_38 {g : jg} {a0 : Nat} {x1 : Int32} {x2 : Int32} {x3 : Int32} {x4 : Int32} {h : jh} {k n : Nat} {Q : jq} (hv : VX10_clause_38 g a0 x1 x2 x3 x4 h k n Q) : jG g mX10_clause 38 [(0, .inr (.inr (some (a0)))), (1, .inl (x1)), (2, .inl (x2)), (3, .inl (x3)), (4, .inl (x4))] [] h k n Q := by
  unfold VX10_clause_38 at hv
  refine jg_iload_n dX10_clause_38 rfl (List.Mem.tail _ (List.Mem.tail _ (List.Mem.head _))) ?_
  refine jg_iload_n dX10_clause_39 rfl (List.Mem.tail _ (List.Mem.tail _ (List.Mem.tail _ (List.Mem.head _)))) ?_
  refine jg_iload dX10_clause_40 (List.Mem.tail _ (List.Mem.tail _ (List.Mem.tail _ (List.Mem.tail _ (List.Mem.head _))))) ?_
  refine jg_callS mX10_isClause [.inl (x2), .inl (x3), .inl (x4)] [] dX10_clause_42 rfl cl_RX10_139 ⟨⟨by decide, by decide⟩, by decide⟩ (Nat.zero_le _) (Nat.zero_le _) (jM.mono (jki_k (fun r92 h93 hv => ?_)) hv)
  refine jg_if_ne (tgt := 51) dX10_clause_45 (by decide) (fun c94 => ?_) (fun c94 => ?_)
  · replace hv := hv.1 c94
    refine jg_iload_n dX10_clause_51 rfl (List.Mem.tail _ (List.Mem.tail _ (List.Mem.head _))) ?_
    by_cases c95 : (x2) = 0
    · replace hv := hv.1 c95
      refine jg_tsIn 0 0 (tgt := 88) dX10_clause_52 c95 (by decide) (by decide) rfl (by decide) ?_
      refine jg_aload_n dX10_clause_88 rfl (List.Mem.head _) ?_
      refine jg_iload_n dX10_clause_89 rfl (List.Mem.tail _ (List.Mem.head _)) ?_
      refine jg_iload_n dX10_clause_90 rfl (List.Mem.tail _ (List.Mem.tail _ (List.Mem.head _))) ?_
      refine jg_iconst (v := 1) dX10_clause_91 (by decide) ?_
      refine jg_icmp_ne (tgt := 99) dX10_clause_92 (by decide) (fun c96 => ?_) (fun c96 => ?_)
      · replace hv := hv.1 c96
        refine jg_iconst (v := 0) dX10_clause_99 (by decide) ?_
        obtain ⟨f97, hv⟩ := hv
        refine jp_callV mX10_mayBeTable [.inl (x1), .inl (0)] [] dX10_clause_100 rfl cl_RX10_143 ⟨⟨by decide, by decide⟩, by decide⟩ jsn f97 (Nat.zero_le _) (Nat.zero_le _) (jM.mono (jki_k (fun r98 h99 hv => ?_)) hv)
        refine jg_istore (lv' := [(5, .inl (r98)), (0, .inr (.inr (some (a0)))), (1, .inl (x1)), (2, .inl (x2)), (3, .inl (x3)), (4, .inl (x4))]) dX10_clause_103 (by decide) rfl ?_
        refine jg_goto (tgt := 304) dX10_clause_105 (by decide) ?_
        refine jG.sub (lv' := [(0, .inr (.inr (some (a0)))), (1, .inl (x1)), (2, .inl (x2)), (3, .inl (x3)), (4, .inl (x4)), (5, .inl (r98))]) (by simp) ?_
        exact vX10_clause_304 hv
      · replace hv := hv.2 c96
        refine jg_iconst (v := 1) dX10_clause_95 (by decide) ?_
        refine jg_goto (tgt := 100) dX10_clause_96 (by decide) ?_
        obtain ⟨f100, hv⟩ := hv
        refine jp_callV mX10_mayBeTable [.inl (x1), .inl (1)] [] dX10_clause_100 rfl cl_RX10_143 ⟨⟨by decide, by decide⟩, by decide⟩ jsn f100 (Nat.zero_le _) (Nat.zero_le _) (jM.mono (jki_k (fun r101 h102 hv => ?_)) hv)
        refine jg_istore (lv' := [(5, .inl (r101)), (0, .inr (.inr (some (a0)))), (1, .inl (x1)), (2, .inl (x2)), (3, .inl (x3)), (4, .inl (x4))]) dX10_clause_103 (by decide) rfl ?_
        refine jg_goto (tgt := 304) dX10_clause_105 (by decide) ?_
        refine jG.sub (lv' := [(0, .inr (.inr (some (a0)))), (1, .inl (x1)), (2, .inl (x2)), (3, .inl (x3)), (4, .inl (x4)), (5, .inl (r101))]) (by simp) ?_
        exact vX10_clause_304 hv
    by_cases c103 : (x2) = 1
    · replace hv := hv.2.1 c103
      refine jg_tsIn 1 1 (tgt := 88) dX10_clause_52 c103 (by decide) (by decide) rfl (by decide) ?_
      refine jg_aload_n dX10_clause_88 rfl (List.Mem.head _) ?_
      refine jg_iload_n dX10_clause_89 rfl (List.Mem.tail _ (List.Mem.head _)) ?_
      refine jg_iload_n dX10_clause_90 rfl (List.Mem.tail _ (List.Mem.tail _ (List.Mem.head _))) ?_
      refine jg_iconst (v := 1) dX10_clause_91 (by decide) ?_
      refine jg_icmp_ne (tgt := 99) dX10_clause_92 (by decide) (fun c104 => ?_) (fun c104 => ?_)
      · replace hv := hv.1 c104
        refine jg_iconst (v := 0) dX10_clause_99 (by decide) ?_
        obtain ⟨f105, hv⟩ := hv
        refine jp_callV mX10_mayBeTable [.inl (x1), .inl (0)] [] dX10_clause_100 rfl cl_RX10_143 ⟨⟨by decide, by decide⟩, by decide⟩ jsn f105 (Nat.zero_le _) (Nat.zero_le _) (jM.mono (jki_k (fun r106 h107 hv => ?_)) hv)
        refine jg_istore (lv' := [(5, .inl (r106)), (0, .inr (.inr (some (a0)))), (1, .inl (x1)), (2, .inl (x2)), (3, .inl (x3)), (4, .inl (x4))]) dX10_clause_103 (by decide) rfl ?_
        refine jg_goto (tgt := 304) dX10_clause_105 (by decide) ?_
        refine jG.sub (lv' := [(0, .inr (.inr (some (a0)))), (1, .inl (x1)), (2, .inl (x2)), (3, .inl (x3)), (4, .inl (x4)), (5, .inl (r106))]) (by simp) ?_
        exact vX10_clause_304 hv
      · replace hv := hv.2 c104
        refine jg_iconst (v := 1) dX10_clause_95 (by decide) ?_
        refine jg_goto (tgt := 100) dX10_clause_96 (by decide) ?_
        obtain ⟨f108, hv⟩ := hv
        refine jp_callV mX10_mayBeTable [.inl (x1), .inl (1)] [] dX10_clause_100 rfl cl_RX10_143 ⟨⟨by decide, by decide⟩, by decide⟩ jsn f108 (Nat.zero_le _) (Nat.zero_le _) (jM.mono (jki_k (fun r109 h110 hv => ?_)) hv)
        refine jg_istore (lv' := [(5, .inl (r109)), (0, .inr (.inr (some (a0)))), (1, .inl (x1)), (2, .inl (x2)), (3, .inl (x3)), (4, .inl (x4))]) dX10_clause_103 (by decide) rfl ?_
        refine jg_goto (tgt := 304) dX10_clause_105 (by decide) ?_
        refine jG.sub (lv' := [(0, .inr (.inr (some (a0)))), (1, .inl (x1)), (2, .inl (x2)), (3, .inl (x3)), (4, .inl (x4)), (5, .inl (r109))]) (by simp) ?_
        exact vX10_clause_304 hv
    by_cases c111 : (x2) = 2
    · replace hv := hv.2.2.1 c111
      refine jg_tsIn 2 2 (tgt := 108) dX10_clause_52 c111 (by decide) (by decide) rfl (by decide) ?_
      refine jg_aload_n dX10_clause_108 rfl (List.Mem.head _) ?_
      obtain ⟨f112, hv⟩ := hv
      refine jg_getr dX10_clause_109 fl_RX10_13 rfl jsn f112 ?_
      refine jg_iload_n dX10_clause_112 rfl (List.Mem.tail _ (List.Mem.head _)) ?_
      obtain ⟨f113, hv⟩ := hv
      obtain ⟨f114, hv⟩ := hv
      obtain ⟨f115, hv⟩ := hv
      refine jg_iald dX10_clause_113 f113 f114 f115 ?_
      refine jg_bipush (v := 8) dX10_clause_114 (by decide) ?_
      refine jg_icmp_lt (tgt := 143) dX10_clause_116 (by decide) (fun c116 => ?_) (fun c116 => ?_)
      · replace hv := hv.1 c116
        refine jg_iconst (v := 0) dX10_clause_143 (by decide) ?_
        refine jg_istore (lv' := [(5, .inl (0)), (0, .inr (.inr (some (a0)))), (1, .inl (x1)), (2, .inl (x2)), (3, .inl (x3)), (4, .inl (x4))]) dX10_clause_144 (by decide) rfl ?_
        refine jg_goto (tgt := 304) dX10_clause_146 (by decide) ?_
        refine jG.sub (lv' := [(0, .inr (.inr (some (a0)))), (1, .inl (x1)), (2, .inl (x2)), (3, .inl (x3)), (4, .inl (x4)), (5, .inl (0))]) (by simp) ?_
        exact vX10_clause_304 hv
      · replace hv := hv.2 c116
        refine jg_aload_n dX10_clause_119 rfl (List.Mem.head _) ?_
        refine jg_getr dX10_clause_120 fl_RX10_13 rfl jsn f112 ?_
        refine jg_iload_n dX10_clause_123 rfl (List.Mem.tail _ (List.Mem.head _)) ?_
        refine jg_iald dX10_clause_124 f113 f114 f115 ?_
        refine jg_bipush (v := 11) dX10_clause_125 (by decide) ?_
        refine jg_icmp_gt (tgt := 143) dX10_clause_127 (by decide) (fun c117 => ?_) (fun c117 => ?_)
        · replace hv := hv.1 c117
          refine jg_iconst (v := 0) dX10_clause_143 (by decide) ?_
          refine jg_istore (lv' := [(5, .inl (0)), (0, .inr (.inr (some (a0)))), (1, .inl (x1)), (2, .inl (x2)), (3, .inl (x3)), (4, .inl (x4))]) dX10_clause_144 (by decide) rfl ?_
          refine jg_goto (tgt := 304) dX10_clause_146 (by decide) ?_
          refine jG.sub (lv' := [(0, .inr (.inr (some (a0)))), (1, .inl (x1)), (2, .inl (x2)), (3, .inl (x3)), (4, .inl (x4)), (5, .inl (0))]) (by simp) ?_
          exact vX10_clause_304 hv
        · replace hv := hv.2 c117
          refine jg_aload_n dX10_clause_130 rfl (List.Mem.head _) ?_
          refine jg_getr dX10_clause_131 fl_RX10_37 rfl jsn f112 ?_
          refine jg_iload_n dX10_clause_134 rfl (List.Mem.tail _ (List.Mem.head _)) ?_
          obtain ⟨f118, hv⟩ := hv
          obtain ⟨f119, hv⟩ := hv
          obtain ⟨f120, hv⟩ := hv
          refine jg_zald dX10_clause_135 f118 f119 f120 ?_
          refine jg_if_ne (tgt := 143) dX10_clause_136 (by decide) (fun c121 => ?_) (fun c121 => ?_)
          · replace hv := hv.1 c121
            refine jg_iconst (v := 0) dX10_clause_143 (by decide) ?_
            refine jg_istore (lv' := [(5, .inl (0)), (0, .inr (.inr (some (a0)))), (1, .inl (x1)), (2, .inl (x2)), (3, .inl (x3)), (4, .inl (x4))]) dX10_clause_144 (by decide) rfl ?_
            refine jg_goto (tgt := 304) dX10_clause_146 (by decide) ?_
            refine jG.sub (lv' := [(0, .inr (.inr (some (a0)))), (1, .inl (x1)), (2, .inl (x2)), (3, .inl (x3)), (4, .inl (x4)), (5, .inl (0))]) (by simp) ?_
            exact vX10_clause_304 hv
          · replace hv := hv.2 c121
            refine jg_iconst (v := 1) dX10_clause_139 (by decide) ?_
            refine jg_goto (tgt := 144) dX10_clause_140 (by decide) ?_
            refine jg_istore (lv' := [(5, .inl (1)), (0, .inr (.inr (some (a0)))), (1, .inl (x1)), (2, .inl (x2)), (3, .inl (x3)), (4, .inl (x4))]) dX10_clause_144 (by decide) rfl ?_
            refine jg_goto (tgt := 304) dX10_clause_146 (by decide) ?_
            refine jG.sub (lv' := [(0, .inr (.inr (some (a0)))), (1, .inl (x1)), (2, .inl (x2)), (3, .inl (x3)), (4, .inl (x4)), (5, .inl (1))]) (by simp) ?_
            exact vX10_clause_304 hv
    by_cases c122 : (x2) = 3
    · replace hv := hv.2.2.2.1 c122
      refine jg_tsIn 3 3 (tgt := 149) dX10_clause_52 c122 (by decide) (by decide) rfl (by decide) ?_
      refine jg_aload_n dX10_clause_149 rfl (List.Mem.head _) ?_
      obtain ⟨f123, hv⟩ := hv
      refine jg_getr dX10_clause_150 fl_RX10_13 rfl jsn f123 ?_
      refine jg_iload_n dX10_clause_153 rfl (List.Mem.tail _ (List.Mem.head _)) ?_
      obtain ⟨f124, hv⟩ := hv
      obtain ⟨f125, hv⟩ := hv
      obtain ⟨f126, hv⟩ := hv
      refine jg_iald dX10_clause_154 f124 f125 f126 ?_
      refine jg_iconst (v := 3) dX10_clause_155 (by decide) ?_
      refine jg_icmp_lt (tgt := 204) dX10_clause_156 (by decide) (fun c127 => ?_) (fun c127 => ?_)
      · replace hv := hv.1 c127
        refine jg_iconst (v := 0) dX10_clause_204 (by decide) ?_
        refine jg_istore (lv' := [(5, .inl (0)), (0, .inr (.inr (some (a0)))), (1, .inl (x1)), (2, .inl (x2)), (3, .inl (x3)), (4, .inl (x4))]) dX10_clause_205 (by decide) rfl ?_
        refine jg_goto (tgt := 304) dX10_clause_207 (by decide) ?_
        refine jG.sub (lv' := [(0, .inr (.inr (some (a0)))), (1, .inl (x1)), (2, .inl (x2)), (3, .inl (x3)), (4, .inl (x4)), (5, .inl (0))]) (by simp) ?_
        exact vX10_clause_304 hv
      · replace hv := hv.2 c127
        refine jg_aload_n dX10_clause_159 rfl (List.Mem.head _) ?_
        refine jg_getr dX10_clause_160 fl_RX10_13 rfl jsn f123 ?_
        refine jg_iload_n dX10_clause_163 rfl (List.Mem.tail _ (List.Mem.head _)) ?_
        refine jg_iald dX10_clause_164 f124 f125 f126 ?_
        refine jg_bipush (v := 8) dX10_clause_165 (by decide) ?_
        refine jg_icmp_gt (tgt := 204) dX10_clause_167 (by decide) (fun c128 => ?_) (fun c128 => ?_)
        · replace hv := hv.1 c128
          refine jg_iconst (v := 0) dX10_clause_204 (by decide) ?_
          refine jg_istore (lv' := [(5, .inl (0)), (0, .inr (.inr (some (a0)))), (1, .inl (x1)), (2, .inl (x2)), (3, .inl (x3)), (4, .inl (x4))]) dX10_clause_205 (by decide) rfl ?_
          refine jg_goto (tgt := 304) dX10_clause_207 (by decide) ?_
          refine jG.sub (lv' := [(0, .inr (.inr (some (a0)))), (1, .inl (x1)), (2, .inl (x2)), (3, .inl (x3)), (4, .inl (x4)), (5, .inl (0))]) (by simp) ?_
          exact vX10_clause_304 hv
        · replace hv := hv.2 c128
          refine jg_iload_n dX10_clause_170 rfl (List.Mem.tail _ (List.Mem.tail _ (List.Mem.tail _ (List.Mem.head _)))) ?_
          refine jg_callS mX10_digitsOf [.inl (x3)] [] dX10_clause_171 rfl cl_RX10_147 ⟨⟨by decide, by decide⟩, by decide⟩ (Nat.zero_le _) (Nat.zero_le _) (jM.mono (jki_k (fun r129 h130 hv => ?_)) hv)
          refine jg_aload_n dX10_clause_174 rfl (List.Mem.head _) ?_
          obtain ⟨f131, hv⟩ := hv
          refine jg_getr dX10_clause_175 fl_RX10_16 rfl jsn f131 ?_
          refine jg_iload_n dX10_clause_178 rfl (List.Mem.tail _ (List.Mem.head _)) ?_
          obtain ⟨f132, hv⟩ := hv
          obtain ⟨f133, hv⟩ := hv
          obtain ⟨f134, hv⟩ := hv
          refine jg_iald dX10_clause_179 f132 f133 f134 ?_
          refine jg_icmp_gt (tgt := 204) dX10_clause_180 (by decide) (fun c135 => ?_) (fun c135 => ?_)
          · replace hv := hv.1 c135
            refine jg_iconst (v := 0) dX10_clause_204 (by decide) ?_
            refine jg_istore (lv' := [(5, .inl (0)), (0, .inr (.inr (some (a0)))), (1, .inl (x1)), (2, .inl (x2)), (3, .inl (x3)), (4, .inl (x4))]) dX10_clause_205 (by decide) rfl ?_
            refine jg_goto (tgt := 304) dX10_clause_207 (by decide) ?_
            refine jG.sub (lv' := [(0, .inr (.inr (some (a0)))), (1, .inl (x1)), (2, .inl (x2)), (3, .inl (x3)), (4, .inl (x4)), (5, .inl (0))]) (by simp) ?_
            exact vX10_clause_304 hv
          · replace hv := hv.2 c135
            refine jg_aload_n dX10_clause_183 rfl (List.Mem.head _) ?_
            refine jg_getr dX10_clause_184 fl_RX10_41 rfl jsn f131 ?_
            refine jg_iload_n dX10_clause_187 rfl (List.Mem.tail _ (List.Mem.head _)) ?_
            obtain ⟨f136, hv⟩ := hv
            obtain ⟨f137, hv⟩ := hv
            obtain ⟨f138, hv⟩ := hv
            refine jg_zald dX10_clause_188 f136 f137 f138 ?_
            refine jg_if_ne (tgt := 204) dX10_clause_189 (by decide) (fun c139 => ?_) (fun c139 => ?_)
            · replace hv := hv.1 c139
              refine jg_iconst (v := 0) dX10_clause_204 (by decide) ?_
              refine jg_istore (lv' := [(5, .inl (0)), (0, .inr (.inr (some (a0)))), (1, .inl (x1)), (2, .inl (x2)), (3, .inl (x3)), (4, .inl (x4))]) dX10_clause_205 (by decide) rfl ?_
              refine jg_goto (tgt := 304) dX10_clause_207 (by decide) ?_
              refine jG.sub (lv' := [(0, .inr (.inr (some (a0)))), (1, .inl (x1)), (2, .inl (x2)), (3, .inl (x3)), (4, .inl (x4)), (5, .inl (0))]) (by simp) ?_
              exact vX10_clause_304 hv
            · replace hv := hv.2 c139
              refine jg_aload_n dX10_clause_192 rfl (List.Mem.head _) ?_
              refine jg_iload_n dX10_clause_193 rfl (List.Mem.tail _ (List.Mem.head _)) ?_
              refine jp_callV mX10_isAside [.inl (x1)] [] dX10_clause_194 rfl cl_RX10_150 ⟨⟨by decide, by decide⟩, by decide⟩ jsn f131 (Nat.zero_le _) (Nat.zero_le _) (jM.mono (jki_k (fun r140 h141 hv => ?_)) hv)
              refine jg_if_ne (tgt := 204) dX10_clause_197 (by decide) (fun c142 => ?_) (fun c142 => ?_)
              · replace hv := hv.1 c142
                refine jg_iconst (v := 0) dX10_clause_204 (by decide) ?_
                refine jg_istore (lv' := [(5, .inl (0)), (0, .inr (.inr (some (a0)))), (1, .inl (x1)), (2, .inl (x2)), (3, .inl (x3)), (4, .inl (x4))]) dX10_clause_205 (by decide) rfl ?_
                refine jg_goto (tgt := 304) dX10_clause_207 (by decide) ?_
                refine jG.sub (lv' := [(0, .inr (.inr (some (a0)))), (1, .inl (x1)), (2, .inl (x2)), (3, .inl (x3)), (4, .inl (x4)), (5, .inl (0))]) (by simp) ?_
                exact vX10_clause_304 hv
              · replace hv := hv.2 c142
                refine jg_iconst (v := 1) dX10_clause_200 (by decide) ?_
                refine jg_goto (tgt := 205) dX10_clause_201 (by decide) ?_
                refine jg_istore (lv' := [(5, .inl (1)), (0, .inr (.inr (some (a0)))), (1, .inl (x1)), (2, .inl (x2)), (3, .inl (x3)), (4, .inl (x4))]) dX10_clause_205 (by decide) rfl ?_
                refine jg_goto (tgt := 304) dX10_clause_207 (by decide) ?_
                refine jG.sub (lv' := [(0, .inr (.inr (some (a0)))), (1, .inl (x1)), (2, .inl (x2)), (3, .inl (x3)), (4, .inl (x4)), (5, .inl (1))]) (by simp) ?_
                exact vX10_clause_304 hv
    by_cases c143 : (x2) = 4
    · replace hv := hv.2.2.2.2.1 c143
      refine jg_tsIn 4 4 (tgt := 210) dX10_clause_52 c143 (by decide) (by decide) rfl (by decide) ?_
      refine jg_aload_n dX10_clause_210 rfl (List.Mem.head _) ?_
      obtain ⟨f144, hv⟩ := hv
      refine jg_getr dX10_clause_211 fl_RX10_7 rfl jsn f144 ?_
      refine jg_iload_n dX10_clause_214 rfl (List.Mem.tail _ (List.Mem.head _)) ?_
      obtain ⟨f145, hv⟩ := hv
      obtain ⟨f146, hv⟩ := hv
      obtain ⟨f147, hv⟩ := hv
      refine jg_iald dX10_clause_215 f145 f146 f147 ?_
      refine jg_bipush (v := 88) dX10_clause_216 (by decide) ?_
      refine jg_icmp_ne (tgt := 236) dX10_clause_218 (by decide) (fun c148 => ?_) (fun c148 => ?_)
      · replace hv := hv.1 c148
        refine jg_iconst (v := 0) dX10_clause_236 (by decide) ?_
        refine jg_istore (lv' := [(5, .inl (0)), (0, .inr (.inr (some (a0)))), (1, .inl (x1)), (2, .inl (x2)), (3, .inl (x3)), (4, .inl (x4))]) dX10_clause_237 (by decide) rfl ?_
        refine jg_goto (tgt := 304) dX10_clause_239 (by decide) ?_
        refine jG.sub (lv' := [(0, .inr (.inr (some (a0)))), (1, .inl (x1)), (2, .inl (x2)), (3, .inl (x3)), (4, .inl (x4)), (5, .inl (0))]) (by simp) ?_
        exact vX10_clause_304 hv
      · replace hv := hv.2 c148
        refine jg_aload_n dX10_clause_221 rfl (List.Mem.head _) ?_
        refine jg_getr dX10_clause_222 fl_RX10_47 rfl jsn f144 ?_
        refine jg_iload_n dX10_clause_225 rfl (List.Mem.tail _ (List.Mem.head _)) ?_
        obtain ⟨f149, hv⟩ := hv
        obtain ⟨f150, hv⟩ := hv
        obtain ⟨f151, hv⟩ := hv
        refine jg_iald dX10_clause_226 f149 f150 f151 ?_
        refine jg_bipush (v := 8) dX10_clause_227 (by decide) ?_
        refine jg_icmp_ge (tgt := 236) dX10_clause_229 (by decide) (fun c152 => ?_) (fun c152 => ?_)
        · replace hv := hv.1 c152
          refine jg_iconst (v := 0) dX10_clause_236 (by decide) ?_
          refine jg_istore (lv' := [(5, .inl (0)), (0, .inr (.inr (some (a0)))), (1, .inl (x1)), (2, .inl (x2)), (3, .inl (x3)), (4, .inl (x4))]) dX10_clause_237 (by decide) rfl ?_
          refine jg_goto (tgt := 304) dX10_clause_239 (by decide) ?_
          refine jG.sub (lv' := [(0, .inr (.inr (some (a0)))), (1, .inl (x1)), (2, .inl (x2)), (3, .inl (x3)), (4, .inl (x4)), (5, .inl (0))]) (by simp) ?_
          exact vX10_clause_304 hv
        · replace hv := hv.2 c152
          refine jg_iconst (v := 1) dX10_clause_232 (by decide) ?_
          refine jg_goto (tgt := 237) dX10_clause_233 (by decide) ?_
          refine jg_istore (lv' := [(5, .inl (1)), (0, .inr (.inr (some (a0)))), (1, .inl (x1)), (2, .inl (x2)), (3, .inl (x3)), (4, .inl (x4))]) dX10_clause_237 (by decide) rfl ?_
          refine jg_goto (tgt := 304) dX10_clause_239 (by decide) ?_
          refine jG.sub (lv' := [(0, .inr (.inr (some (a0)))), (1, .inl (x1)), (2, .inl (x2)), (3, .inl (x3)), (4, .inl (x4)), (5, .inl (1))]) (by simp) ?_
          exact vX10_clause_304 hv
    have c174 : (x2 : Int32).toInt < 0 ∨ 4 < (x2 : Int32).toInt := by
      have c95n : ¬ (x2 : Int32).toInt = 0 := fun q => c95 (Int32.toInt_inj.mp (q.trans (by decide)))
      have c103n : ¬ (x2 : Int32).toInt = 1 := fun q => c103 (Int32.toInt_inj.mp (q.trans (by decide)))
      have c111n : ¬ (x2 : Int32).toInt = 2 := fun q => c111 (Int32.toInt_inj.mp (q.trans (by decide)))
      have c122n : ¬ (x2 : Int32).toInt = 3 := fun q => c122 (Int32.toInt_inj.mp (q.trans (by decide)))
      have c143n : ¬ (x2 : Int32).toInt = 4 := fun q => c143 (Int32.toInt_inj.mp (q.trans (by decide)))
      omega
    replace hv := hv.2.2.2.2.2 c174
    refine jg_tsOut (tgt := 242) dX10_clause_52 c174 (by decide) ?_
    refine jg_aload_n dX10_clause_242 rfl (List.Mem.head _) ?_
    obtain ⟨f153, hv⟩ := hv
    refine jg_getr dX10_clause_243 fl_RX10_7 rfl jsn f153 ?_
    refine jg_iload_n dX10_clause_246 rfl (List.Mem.tail _ (List.Mem.head _)) ?_
    obtain ⟨f154, hv⟩ := hv
    obtain ⟨f155, hv⟩ := hv
    obtain ⟨f156, hv⟩ := hv
    refine jg_iald dX10_clause_247 f154 f155 f156 ?_
    refine jg_bipush (v := 66) dX10_clause_248 (by decide) ?_
    refine jg_icmp_ne (tgt := 301) dX10_clause_250 (by decide) (fun c157 => ?_) (fun c157 => ?_)
    · replace hv := hv.1 c157
      refine jg_iconst (v := 0) dX10_clause_301 (by decide) ?_
      refine jg_istore (lv' := [(5, .inl (0)), (0, .inr (.inr (some (a0)))), (1, .inl (x1)), (2, .inl (x2)), (3, .inl (x3)), (4, .inl (x4))]) dX10_clause_302 (by decide) rfl ?_
      refine jG.sub (lv' := [(0, .inr (.inr (some (a0)))), (1, .inl (x1)), (2, .inl (x2)), (3, .inl (x3)), (4, .inl (x4)), (5, .inl (0))]) (by simp) ?_
      exact vX10_clause_304 hv
    · replace hv := hv.2 c157
      refine jg_aload_n dX10_clause_253 rfl (List.Mem.head _) ?_
      refine jg_getr dX10_clause_254 fl_RX10_50 rfl jsn f153 ?_
      refine jg_iload_n dX10_clause_257 rfl (List.Mem.tail _ (List.Mem.head _)) ?_
      obtain ⟨f158, hv⟩ := hv
      obtain ⟨f159, hv⟩ := hv
      obtain ⟨f160, hv⟩ := hv
      refine jg_iald dX10_clause_258 f158 f159 f160 ?_
      refine jg_if_ne (tgt := 301) dX10_clause_259 (by decide) (fun c161 => ?_) (fun c161 => ?_)
      · replace hv := hv.1 c161
        refine jg_iconst (v := 0) dX10_clause_301 (by decide) ?_
        refine jg_istore (lv' := [(5, .inl (0)), (0, .inr (.inr (some (a0)))), (1, .inl (x1)), (2, .inl (x2)), (3, .inl (x3)), (4, .inl (x4))]) dX10_clause_302 (by decide) rfl ?_
        refine jG.sub (lv' := [(0, .inr (.inr (some (a0)))), (1, .inl (x1)), (2, .inl (x2)), (3, .inl (x3)), (4, .inl (x4)), (5, .inl (0))]) (by simp) ?_
        exact vX10_clause_304 hv
      · replace hv := hv.2 c161
        refine jg_aload_n dX10_clause_262 rfl (List.Mem.head _) ?_
        refine jg_iload_n dX10_clause_263 rfl (List.Mem.tail _ (List.Mem.head _)) ?_
        refine jg_iload_n dX10_clause_264 rfl (List.Mem.tail _ (List.Mem.tail _ (List.Mem.tail _ (List.Mem.head _)))) ?_
        refine jp_callV mX10_isPart [.inl (x1), .inl (x3)] [] dX10_clause_265 rfl cl_RX10_153 ⟨⟨by decide, by decide⟩, by decide⟩ jsn f153 (Nat.zero_le _) (Nat.zero_le _) (jM.mono (jki_k (fun r162 h163 hv => ?_)) hv)
        refine jg_if_eq (tgt := 301) dX10_clause_268 (by decide) (fun c164 => ?_) (fun c164 => ?_)
        · replace hv := hv.1 c164
          refine jg_iconst (v := 0) dX10_clause_301 (by decide) ?_
          refine jg_istore (lv' := [(5, .inl (0)), (0, .inr (.inr (some (a0)))), (1, .inl (x1)), (2, .inl (x2)), (3, .inl (x3)), (4, .inl (x4))]) dX10_clause_302 (by decide) rfl ?_
          refine jG.sub (lv' := [(0, .inr (.inr (some (a0)))), (1, .inl (x1)), (2, .inl (x2)), (3, .inl (x3)), (4, .inl (x4)), (5, .inl (0))]) (by simp) ?_
          exact vX10_clause_304 hv
        · replace hv := hv.2 c164
          refine jg_aload_n dX10_clause_271 rfl (List.Mem.head _) ?_
          refine jg_iload_n dX10_clause_272 rfl (List.Mem.tail _ (List.Mem.head _)) ?_
          refine jg_iload dX10_clause_273 (List.Mem.tail _ (List.Mem.tail _ (List.Mem.tail _ (List.Mem.tail _ (List.Mem.head _))))) ?_
          obtain ⟨f165, hv⟩ := hv
          refine jp_callV mX10_isPart [.inl (x1), .inl (x4)] [] dX10_clause_275 rfl cl_RX10_153 ⟨⟨by decide, by decide⟩, by decide⟩ jsn f165 (Nat.zero_le _) (Nat.zero_le _) (jM.mono (jki_k (fun r166 h167 hv => ?_)) hv)
          refine jg_if_eq (tgt := 301) dX10_clause_278 (by decide) (fun c168 => ?_) (fun c168 => ?_)
          · replace hv := hv.1 c168
            refine jg_iconst (v := 0) dX10_clause_301 (by decide) ?_
            refine jg_istore (lv' := [(5, .inl (0)), (0, .inr (.inr (some (a0)))), (1, .inl (x1)), (2, .inl (x2)), (3, .inl (x3)), (4, .inl (x4))]) dX10_clause_302 (by decide) rfl ?_
            refine jG.sub (lv' := [(0, .inr (.inr (some (a0)))), (1, .inl (x1)), (2, .inl (x2)), (3, .inl (x3)), (4, .inl (x4)), (5, .inl (0))]) (by simp) ?_
            exact vX10_clause_304 hv
          · replace hv := hv.2 c168
            refine jg_iload_n dX10_clause_281 rfl (List.Mem.tail _ (List.Mem.tail _ (List.Mem.tail _ (List.Mem.head _)))) ?_
            refine jg_iload dX10_clause_282 (List.Mem.tail _ (List.Mem.tail _ (List.Mem.tail _ (List.Mem.tail _ (List.Mem.head _))))) ?_
            refine jg_icmp_gt (tgt := 301) dX10_clause_284 (by decide) (fun c169 => ?_) (fun c169 => ?_)
            · replace hv := hv.1 c169
              refine jg_iconst (v := 0) dX10_clause_301 (by decide) ?_
              refine jg_istore (lv' := [(5, .inl (0)), (0, .inr (.inr (some (a0)))), (1, .inl (x1)), (2, .inl (x2)), (3, .inl (x3)), (4, .inl (x4))]) dX10_clause_302 (by decide) rfl ?_
              refine jG.sub (lv' := [(0, .inr (.inr (some (a0)))), (1, .inl (x1)), (2, .inl (x2)), (3, .inl (x3)), (4, .inl (x4)), (5, .inl (0))]) (by simp) ?_
              exact vX10_clause_304 hv
            · replace hv := hv.2 c169
              refine jg_aload_n dX10_clause_287 rfl (List.Mem.head _) ?_
              refine jg_iload dX10_clause_288 (List.Mem.tail _ (List.Mem.tail _ (List.Mem.tail _ (List.Mem.tail _ (List.Mem.head _))))) ?_
              refine jg_iload_n dX10_clause_290 rfl (List.Mem.tail _ (List.Mem.tail _ (List.Mem.tail _ (List.Mem.head _)))) ?_
              obtain ⟨f170, hv⟩ := hv
              refine jp_callV mX10_isBelow [.inl (x4), .inl (x3)] [] dX10_clause_291 rfl cl_RX10_131 ⟨⟨by decide, by decide⟩, by decide⟩ jsn f170 (Nat.zero_le _) (Nat.zero_le _) (jM.mono (jki_k (fun r171 h172 hv => ?_)) hv)
              refine jg_if_ne (tgt := 301) dX10_clause_294 (by decide) (fun c173 => ?_) (fun c173 => ?_)
              · replace hv := hv.1 c173
                refine jg_iconst (v := 0) dX10_clause_301 (by decide) ?_
                refine jg_istore (lv' := [(5, .inl (0)), (0, .inr (.inr (some (a0)))), (1, .inl (x1)), (2, .inl (x2)), (3, .inl (x3)), (4, .inl (x4))]) dX10_clause_302 (by decide) rfl ?_
                refine jG.sub (lv' := [(0, .inr (.inr (some (a0)))), (1, .inl (x1)), (2, .inl (x2)), (3, .inl (x3)), (4, .inl (x4)), (5, .inl (0))]) (by simp) ?_
                exact vX10_clause_304 hv
              · replace hv := hv.2 c173
                refine jg_iconst (v := 1) dX10_clause_297 (by decide) ?_
                refine jg_goto (tgt := 302) dX10_clause_298 (by decide) ?_
                refine jg_istore (lv' := [(5, .inl (1)), (0, .inr (.inr (some (a0)))), (1, .inl (x1)), (2, .inl (x2)), (3, .inl (x3)), (4, .inl (x4))]) dX10_clause_302 (by decide) rfl ?_
                refine jG.sub (lv' := [(0, .inr (.inr (some (a0)))), (1, .inl (x1)), (2, .inl (x2)), (3, .inl (x3)), (4, .inl (x4)), (5, .inl (1))]) (by simp) ?_
                exact vX10_clause_304 hv
  · replace hv := hv.2 c94
    refine jg_bipush (v := (-4)) dX10_clause_48 (by decide) ?_
    exact jg_iret dX10_clause_50 rfl hv
def VX10_clause_0 (g : jg) (a0 : Nat) (x1 : Int32) (x2 : Int32) (x3 : Int32) (x4 : Int32) (h : jh) (k n : Nat) (Q : jq) : Prop := (jt h a0 = 9) ∧ ∀ h176 : jh, h176 = jsi h 512 a0 (0) → jM g mX10_is [.inr (.inr (some a0)), .inl (x1)] h176 0 0 (jki (fun (r178 : Int32) (h179 : jh) => (((r178) = 0 → Q (.inl (some (.inl ((-2))))) h179) ∧ (¬ (r178) = 0 → ((¬ (x2) = (5) → VX10_clause_38 g (a0) (x1) (x2) (x3) (x4) h179 k n Q) ∧ ((x2) = (5) → (jt h179 a0 = 9) ∧ jM g mX10_is [.inr (.inr (some a0)), .inl (x3)] h179 0 0 (jki (fun (r183 : Int32) (h184 : jh) => (((r183) = 0 → Q (.inl (some (.inl ((-2))))) h184) ∧ (¬ (r183) = 0 → (jt h184 a0 = 9) ∧ jM g mX10_is [.inr (.inr (some a0)), .inl (x4)] h184 0 0 (jki (fun (r187 : Int32) (h188 : jh) => ((¬ (r187) = 0 → VX10_clause_38 g (a0) (x1) (x2) (x3) (x4) h188 k n Q) ∧ ((r187) = 0 → Q (.inl (some (.inl ((-2))))) h188))) (fun e h9 => Q (.inr e) h9))))) (fun e h9 => Q (.inr e) h9))))))) (fun e h9 => Q (.inr e) h9))
set_option maxRecDepth 20000 in
theorem vX10_clause_0 {g : jg} {a0 : Nat} {x1 : Int32} {x2 : Int32} {x3 : Int32} {x4 : Int32} {h : jh} {k n : Nat} {Q : jq} (hv : VX10_clause_0 g a0 x1 x2 x3 x4 h k n Q) : jG g mX10_clause 0 [(0, .inr (.inr (some (a0)))), (1, .inl (x1)), (2, .inl (x2)), (3, .inl (x3)), (4, .inl (x4))] [] h k n Q := by
  unfold VX10_clause_0 at hv
  refine jg_aload_n dX10_clause_0 rfl (List.Mem.head _) ?_
  refine jg_iconst (v := 0) dX10_clause_1 (by decide) ?_
  obtain ⟨f175, hv⟩ := hv
  obtain ⟨h176, e177⟩ : ∃ z : jh, z = jsi h 512 a0 (0) := ⟨_, rfl⟩
  replace hv := hv h176 e177
  refine jp_puti dX10_clause_2 (jfp.nf fl_RX10_98 (fun q hq => by cases hq; rfl)) rfl jsn f175 e177 ?_
  refine jg_aload_n dX10_clause_5 rfl (List.Mem.head _) ?_
  refine jg_iload_n dX10_clause_6 rfl (List.Mem.tail _ (List.Mem.head _)) ?_
  refine jp_callV mX10_is [.inl (x1)] [] dX10_clause_7 rfl cl_RX10_136 ⟨⟨by decide, by decide⟩, by decide⟩ jsn ((congrArg (fun z => jt z a0) e177).trans f175) (Nat.zero_le _) (Nat.zero_le _) (jM.mono (jki_k (fun r178 h179 hv => ?_)) hv)
  refine jg_if_eq (tgt := 35) dX10_clause_10 (by decide) (fun c180 => ?_) (fun c180 => ?_)
  · replace hv := hv.1 c180
    refine jg_bipush (v := (-2)) dX10_clause_35 (by decide) ?_
    exact jg_iret dX10_clause_37 rfl hv
  · replace hv := hv.2 c180
    refine jg_iload_n dX10_clause_13 rfl (List.Mem.tail _ (List.Mem.tail _ (List.Mem.head _))) ?_
    refine jg_iconst (v := 5) dX10_clause_14 (by decide) ?_
    refine jg_icmp_ne (tgt := 38) dX10_clause_15 (by decide) (fun c181 => ?_) (fun c181 => ?_)
    · replace hv := hv.1 c181
      exact vX10_clause_38 hv
    · replace hv := hv.2 c181
      refine jg_aload_n dX10_clause_18 rfl (List.Mem.head _) ?_
      refine jg_iload_n dX10_clause_19 rfl (List.Mem.tail _ (List.Mem.tail _ (List.Mem.tail _ (List.Mem.head _)))) ?_
      obtain ⟨f182, hv⟩ := hv
      refine jp_callV mX10_is [.inl (x3)] [] dX10_clause_20 rfl cl_RX10_136 ⟨⟨by decide, by decide⟩, by decide⟩ jsn f182 (Nat.zero_le _) (Nat.zero_le _) (jM.mono (jki_k (fun r183 h184 hv => ?_)) hv)
      refine jg_if_eq (tgt := 35) dX10_clause_23 (by decide) (fun c185 => ?_) (fun c185 => ?_)
      · replace hv := hv.1 c185
        refine jg_bipush (v := (-2)) dX10_clause_35 (by decide) ?_
        exact jg_iret dX10_clause_37 rfl hv
      · replace hv := hv.2 c185
        refine jg_aload_n dX10_clause_26 rfl (List.Mem.head _) ?_
        refine jg_iload dX10_clause_27 (List.Mem.tail _ (List.Mem.tail _ (List.Mem.tail _ (List.Mem.tail _ (List.Mem.head _))))) ?_
        obtain ⟨f186, hv⟩ := hv
        refine jp_callV mX10_is [.inl (x4)] [] dX10_clause_29 rfl cl_RX10_136 ⟨⟨by decide, by decide⟩, by decide⟩ jsn f186 (Nat.zero_le _) (Nat.zero_le _) (jM.mono (jki_k (fun r187 h188 hv => ?_)) hv)
        refine jg_if_ne (tgt := 38) dX10_clause_32 (by decide) (fun c189 => ?_) (fun c189 => ?_)
        · replace hv := hv.1 c189
          exact vX10_clause_38 hv
        · replace hv := hv.2 c189
          refine jg_bipush (v := (-2)) dX10_clause_35 (by decide) ?_
          exact jg_iret dX10_clause_37 rfl hv
theorem eX10_clause {g : jg} {a0 : Nat} {x1 : Int32} {x2 : Int32} {x3 : Int32} {x4 : Int32} {h : jh} {mc ms : Nat} {Q : jq} (hv : VX10_clause_0 g a0 x1 x2 x3 x4 h mc ms Q) : jM g mX10_clause [.inr (.inr (some (a0))), .inl (x1), .inl (x2), .inl (x3), .inl (x4)] h mc ms Q := jM.of (by decide) (Nat.le_of_ble_eq_true rfl) (lv := [(0, .inr (.inr (some (a0)))), (1, .inl (x1)), (2, .inl (x2)), (3, .inl (x3)), (4, .inl (x4))]) rfl (vX10_clause_0 hv)
