/-! ===== the bytecode of these methods, walked (by program): X4_restsIn X4_looseIn X4_leftOf X4_stepsFrom X4_settle X12_leftWithout X12_fallsOf X12_safeOf X12_noteWithout X4_weighIn X4_weighAll X3_leftOf X3_fallenWithout X3_countWithout X3_isSafeIn X4_lay X4_takeOut X4_turnProp X4_becomeAs X12_laysAt ===== -/
theorem kX4_restsIn_0 : zD cX4_restsIn 0 1 (.iload_n 2) 1 := by decide +kernel
theorem kX4_restsIn_1 : zD cX4_restsIn 1 2 (.iconst 4) 1 := by decide +kernel
theorem kX4_restsIn_2 : zD cX4_restsIn 2 3 (.isub) 1 := by decide +kernel
theorem kX4_restsIn_3 : zD cX4_restsIn 3 4 (.istore_n 3) 1 := by decide +kernel
theorem kX4_restsIn_4 : zD cX4_restsIn 4 5 (.aload_n 0) 1 := by decide +kernel
theorem kX4_restsIn_5 : zD cX4_restsIn 5 8 (.getfield 18) 3 := by decide +kernel
theorem kX4_restsIn_8 : zD cX4_restsIn 8 9 (.iload_n 2) 1 := by decide +kernel
theorem kX4_restsIn_9 : zD cX4_restsIn 9 10 (.iaload) 1 := by decide +kernel
theorem kX4_restsIn_10 : zD cX4_restsIn 10 11 (.aload_n 0) 1 := by decide +kernel
theorem kX4_restsIn_11 : zD cX4_restsIn 11 14 (.getfield 27) 3 := by decide +kernel
theorem kX4_restsIn_14 : zD cX4_restsIn 14 15 (.iload_n 2) 1 := by decide +kernel
theorem kX4_restsIn_15 : zD cX4_restsIn 15 16 (.iaload) 1 := by decide +kernel
theorem kX4_restsIn_16 : zD cX4_restsIn 16 17 (.iadd) 1 := by decide +kernel
theorem kX4_restsIn_17 : zD cX4_restsIn 17 19 (.istore 4) 2 := by decide +kernel
theorem kX4_restsIn_19 : zD cX4_restsIn 19 20 (.iload_n 1) 1 := by decide +kernel
theorem kX4_restsIn_20 : zD cX4_restsIn 20 21 (.iload_n 3) 1 := by decide +kernel
theorem kX4_restsIn_21 : zD cX4_restsIn 21 22 (.ishr) 1 := by decide +kernel
theorem kX4_restsIn_22 : zD cX4_restsIn 22 23 (.iconst 1) 1 := by decide +kernel
theorem kX4_restsIn_23 : zD cX4_restsIn 23 24 (.iand) 1 := by decide +kernel
theorem kX4_restsIn_24 : zB cX4_restsIn 24 27 40 (.ifCond .eq 16) 16 := by decide +kernel
theorem kX4_restsIn_27 : zD cX4_restsIn 27 28 (.aload_n 0) 1 := by decide +kernel
theorem kX4_restsIn_28 : zD cX4_restsIn 28 31 (.getfield 27) 3 := by decide +kernel
theorem kX4_restsIn_31 : zD cX4_restsIn 31 32 (.iload_n 3) 1 := by decide +kernel
theorem kX4_restsIn_32 : zD cX4_restsIn 32 33 (.dup2) 1 := by decide +kernel
theorem kX4_restsIn_33 : zD cX4_restsIn 33 34 (.iaload) 1 := by decide +kernel
theorem kX4_restsIn_34 : zD cX4_restsIn 34 36 (.iload 4) 2 := by decide +kernel
theorem kX4_restsIn_36 : zD cX4_restsIn 36 37 (.iadd) 1 := by decide +kernel
theorem kX4_restsIn_37 : zD cX4_restsIn 37 38 (.iastore) 1 := by decide +kernel
theorem kX4_restsIn_38 : zD cX4_restsIn 38 39 (.iconst 1) 1 := by decide +kernel
theorem kX4_restsIn_39 : zD cX4_restsIn 39 40 (.ireturn) 1 := by decide +kernel
theorem kX4_restsIn_40 : zD cX4_restsIn 40 41 (.iload_n 2) 1 := by decide +kernel
theorem kX4_restsIn_41 : zD cX4_restsIn 41 42 (.iconst 4) 1 := by decide +kernel
theorem kX4_restsIn_42 : zD cX4_restsIn 42 43 (.irem) 1 := by decide +kernel
theorem kX4_restsIn_43 : zB cX4_restsIn 43 46 60 (.ifCond .le 17) 17 := by decide +kernel
theorem kX4_restsIn_46 : zD cX4_restsIn 46 47 (.iload_n 1) 1 := by decide +kernel
theorem kX4_restsIn_47 : zD cX4_restsIn 47 48 (.iload_n 3) 1 := by decide +kernel
theorem kX4_restsIn_48 : zD cX4_restsIn 48 49 (.iconst 1) 1 := by decide +kernel
theorem kX4_restsIn_49 : zD cX4_restsIn 49 50 (.isub) 1 := by decide +kernel
theorem kX4_restsIn_50 : zD cX4_restsIn 50 51 (.ishr) 1 := by decide +kernel
theorem kX4_restsIn_51 : zD cX4_restsIn 51 52 (.iconst 1) 1 := by decide +kernel
theorem kX4_restsIn_52 : zD cX4_restsIn 52 53 (.iand) 1 := by decide +kernel
theorem kX4_restsIn_53 : zB cX4_restsIn 53 56 60 (.ifCond .eq 7) 7 := by decide +kernel
theorem kX4_restsIn_56 : zD cX4_restsIn 56 57 (.iconst 1) 1 := by decide +kernel
theorem kX4_restsIn_57 : zB cX4_restsIn 57 60 61 (.goto 4) 4 := by decide +kernel
theorem kX4_restsIn_60 : zD cX4_restsIn 60 61 (.iconst 0) 1 := by decide +kernel
theorem kX4_restsIn_61 : zD cX4_restsIn 61 63 (.istore 5) 2 := by decide +kernel
theorem kX4_restsIn_63 : zD cX4_restsIn 63 64 (.iload_n 2) 1 := by decide +kernel
theorem kX4_restsIn_64 : zD cX4_restsIn 64 65 (.iconst 4) 1 := by decide +kernel
theorem kX4_restsIn_65 : zD cX4_restsIn 65 66 (.irem) 1 := by decide +kernel
theorem kX4_restsIn_66 : zD cX4_restsIn 66 67 (.iconst 3) 1 := by decide +kernel
theorem kX4_restsIn_67 : zB cX4_restsIn 67 70 84 (.if_icmp .ge 17) 17 := by decide +kernel
theorem kX4_restsIn_70 : zD cX4_restsIn 70 71 (.iload_n 1) 1 := by decide +kernel
theorem kX4_restsIn_71 : zD cX4_restsIn 71 72 (.iload_n 3) 1 := by decide +kernel
theorem kX4_restsIn_72 : zD cX4_restsIn 72 73 (.iconst 1) 1 := by decide +kernel
theorem kX4_restsIn_73 : zD cX4_restsIn 73 74 (.iadd) 1 := by decide +kernel
theorem kX4_restsIn_74 : zD cX4_restsIn 74 75 (.ishr) 1 := by decide +kernel
theorem kX4_restsIn_75 : zD cX4_restsIn 75 76 (.iconst 1) 1 := by decide +kernel
theorem kX4_restsIn_76 : zD cX4_restsIn 76 77 (.iand) 1 := by decide +kernel
theorem kX4_restsIn_77 : zB cX4_restsIn 77 80 84 (.ifCond .eq 7) 7 := by decide +kernel
theorem kX4_restsIn_80 : zD cX4_restsIn 80 81 (.iconst 1) 1 := by decide +kernel
theorem kX4_restsIn_81 : zB cX4_restsIn 81 84 85 (.goto 4) 4 := by decide +kernel
theorem kX4_restsIn_84 : zD cX4_restsIn 84 85 (.iconst 0) 1 := by decide +kernel
theorem kX4_restsIn_85 : zD cX4_restsIn 85 87 (.istore 6) 2 := by decide +kernel
theorem kX4_restsIn_87 : zD cX4_restsIn 87 88 (.aload_n 0) 1 := by decide +kernel
theorem kX4_restsIn_88 : zD cX4_restsIn 88 91 (.getfield 24) 3 := by decide +kernel
theorem kX4_restsIn_91 : zD cX4_restsIn 91 92 (.iload_n 2) 1 := by decide +kernel
theorem kX4_restsIn_92 : zD cX4_restsIn 92 93 (.iaload) 1 := by decide +kernel
theorem kX4_restsIn_93 : decode cX4_restsIn 93 = .ok (.tableswitch 133 1 3 #[27, 74, 112], 27) := by decide +kernel
theorem kX4_restsIn_120 : zD cX4_restsIn 120 122 (.iload 5) 2 := by decide +kernel
theorem kX4_restsIn_122 : zB cX4_restsIn 122 125 130 (.ifCond .eq 8) 8 := by decide +kernel
theorem kX4_restsIn_125 : zD cX4_restsIn 125 127 (.iload 6) 2 := by decide +kernel
theorem kX4_restsIn_127 : zB cX4_restsIn 127 130 132 (.ifCond .ne 5) 5 := by decide +kernel
theorem kX4_restsIn_130 : zD cX4_restsIn 130 131 (.iconst 0) 1 := by decide +kernel
theorem kX4_restsIn_131 : zD cX4_restsIn 131 132 (.ireturn) 1 := by decide +kernel
theorem kX4_restsIn_132 : zD cX4_restsIn 132 133 (.aload_n 0) 1 := by decide +kernel
theorem kX4_restsIn_133 : zD cX4_restsIn 133 136 (.getfield 27) 3 := by decide +kernel
theorem kX4_restsIn_136 : zD cX4_restsIn 136 137 (.iload_n 3) 1 := by decide +kernel
theorem kX4_restsIn_137 : zD cX4_restsIn 137 138 (.iconst 1) 1 := by decide +kernel
theorem kX4_restsIn_138 : zD cX4_restsIn 138 139 (.isub) 1 := by decide +kernel
theorem kX4_restsIn_139 : zD cX4_restsIn 139 140 (.dup2) 1 := by decide +kernel
theorem kX4_restsIn_140 : zD cX4_restsIn 140 141 (.iaload) 1 := by decide +kernel
theorem kX4_restsIn_141 : zD cX4_restsIn 141 143 (.iload 4) 2 := by decide +kernel
theorem kX4_restsIn_143 : zD cX4_restsIn 143 144 (.iconst 2) 1 := by decide +kernel
theorem kX4_restsIn_144 : zD cX4_restsIn 144 145 (.idiv) 1 := by decide +kernel
theorem kX4_restsIn_145 : zD cX4_restsIn 145 146 (.iadd) 1 := by decide +kernel
theorem kX4_restsIn_146 : zD cX4_restsIn 146 147 (.iastore) 1 := by decide +kernel
theorem kX4_restsIn_147 : zD cX4_restsIn 147 148 (.aload_n 0) 1 := by decide +kernel
theorem kX4_restsIn_148 : zD cX4_restsIn 148 151 (.getfield 27) 3 := by decide +kernel
theorem kX4_restsIn_151 : zD cX4_restsIn 151 152 (.iload_n 3) 1 := by decide +kernel
theorem kX4_restsIn_152 : zD cX4_restsIn 152 153 (.iconst 1) 1 := by decide +kernel
theorem kX4_restsIn_153 : zD cX4_restsIn 153 154 (.iadd) 1 := by decide +kernel
theorem kX4_restsIn_154 : zD cX4_restsIn 154 155 (.dup2) 1 := by decide +kernel
theorem kX4_restsIn_155 : zD cX4_restsIn 155 156 (.iaload) 1 := by decide +kernel
theorem kX4_restsIn_156 : zD cX4_restsIn 156 158 (.iload 4) 2 := by decide +kernel
theorem kX4_restsIn_158 : zD cX4_restsIn 158 160 (.iload 4) 2 := by decide +kernel
theorem kX4_restsIn_160 : zD cX4_restsIn 160 161 (.iconst 2) 1 := by decide +kernel
theorem kX4_restsIn_161 : zD cX4_restsIn 161 162 (.idiv) 1 := by decide +kernel
theorem kX4_restsIn_162 : zD cX4_restsIn 162 163 (.isub) 1 := by decide +kernel
theorem kX4_restsIn_163 : zD cX4_restsIn 163 164 (.iadd) 1 := by decide +kernel
theorem kX4_restsIn_164 : zD cX4_restsIn 164 165 (.iastore) 1 := by decide +kernel
theorem kX4_restsIn_165 : zD cX4_restsIn 165 166 (.iconst 1) 1 := by decide +kernel
theorem kX4_restsIn_166 : zD cX4_restsIn 166 167 (.ireturn) 1 := by decide +kernel
theorem kX4_restsIn_167 : zD cX4_restsIn 167 169 (.iload 5) 2 := by decide +kernel
theorem kX4_restsIn_169 : zB cX4_restsIn 169 172 179 (.ifCond .ne 10) 10 := by decide +kernel
theorem kX4_restsIn_172 : zD cX4_restsIn 172 174 (.iload 6) 2 := by decide +kernel
theorem kX4_restsIn_174 : zB cX4_restsIn 174 177 179 (.ifCond .ne 5) 5 := by decide +kernel
theorem kX4_restsIn_177 : zD cX4_restsIn 177 178 (.iconst 0) 1 := by decide +kernel
theorem kX4_restsIn_178 : zD cX4_restsIn 178 179 (.ireturn) 1 := by decide +kernel
theorem kX4_restsIn_179 : zD cX4_restsIn 179 180 (.aload_n 0) 1 := by decide +kernel
theorem kX4_restsIn_180 : zD cX4_restsIn 180 183 (.getfield 27) 3 := by decide +kernel
theorem kX4_restsIn_183 : zD cX4_restsIn 183 185 (.iload 5) 2 := by decide +kernel
theorem kX4_restsIn_185 : zB cX4_restsIn 185 188 194 (.ifCond .eq 9) 9 := by decide +kernel
theorem kX4_restsIn_188 : zD cX4_restsIn 188 189 (.iload_n 3) 1 := by decide +kernel
theorem kX4_restsIn_189 : zD cX4_restsIn 189 190 (.iconst 1) 1 := by decide +kernel
theorem kX4_restsIn_190 : zD cX4_restsIn 190 191 (.isub) 1 := by decide +kernel
theorem kX4_restsIn_191 : zB cX4_restsIn 191 194 197 (.goto 6) 6 := by decide +kernel
theorem kX4_restsIn_194 : zD cX4_restsIn 194 195 (.iload_n 3) 1 := by decide +kernel
theorem kX4_restsIn_195 : zD cX4_restsIn 195 196 (.iconst 1) 1 := by decide +kernel
theorem kX4_restsIn_196 : zD cX4_restsIn 196 197 (.iadd) 1 := by decide +kernel
theorem kX4_restsIn_197 : zD cX4_restsIn 197 198 (.dup2) 1 := by decide +kernel
theorem kX4_restsIn_198 : zD cX4_restsIn 198 199 (.iaload) 1 := by decide +kernel
theorem kX4_restsIn_199 : zD cX4_restsIn 199 201 (.iload 4) 2 := by decide +kernel
theorem kX4_restsIn_201 : zD cX4_restsIn 201 202 (.iadd) 1 := by decide +kernel
theorem kX4_restsIn_202 : zD cX4_restsIn 202 203 (.iastore) 1 := by decide +kernel
theorem kX4_restsIn_203 : zD cX4_restsIn 203 204 (.iconst 1) 1 := by decide +kernel
theorem kX4_restsIn_204 : zD cX4_restsIn 204 205 (.ireturn) 1 := by decide +kernel
theorem kX4_restsIn_205 : zD cX4_restsIn 205 206 (.iload_n 1) 1 := by decide +kernel
theorem kX4_restsIn_206 : zD cX4_restsIn 206 207 (.aload_n 0) 1 := by decide +kernel
theorem kX4_restsIn_207 : zD cX4_restsIn 207 210 (.getfield 37) 3 := by decide +kernel
theorem kX4_restsIn_210 : zD cX4_restsIn 210 211 (.iand) 1 := by decide +kernel
theorem kX4_restsIn_211 : zD cX4_restsIn 211 214 (.getstatic 89) 3 := by decide +kernel
theorem kX4_restsIn_214 : zD cX4_restsIn 214 215 (.iload_n 2) 1 := by decide +kernel
theorem kX4_restsIn_215 : zD cX4_restsIn 215 216 (.iaload) 1 := by decide +kernel
theorem kX4_restsIn_216 : zD cX4_restsIn 216 217 (.iand) 1 := by decide +kernel
theorem kX4_restsIn_217 : zB cX4_restsIn 217 220 224 (.ifCond .eq 7) 7 := by decide +kernel
theorem kX4_restsIn_220 : zD cX4_restsIn 220 221 (.iconst 1) 1 := by decide +kernel
theorem kX4_restsIn_221 : zB cX4_restsIn 221 224 225 (.goto 4) 4 := by decide +kernel
theorem kX4_restsIn_224 : zD cX4_restsIn 224 225 (.iconst 0) 1 := by decide +kernel
theorem kX4_restsIn_225 : zD cX4_restsIn 225 226 (.ireturn) 1 := by decide +kernel
theorem kX4_restsIn_226 : zD cX4_restsIn 226 227 (.iconst 0) 1 := by decide +kernel
theorem kX4_restsIn_227 : zD cX4_restsIn 227 228 (.ireturn) 1 := by decide +kernel
set_option maxRecDepth 10000 in
theorem wX4_restsIn_0 {G : ZG} {d : Nat} {h : ZH} {Q : Option ZV → ZH → Prop} {i0 : Nat} {x1 : Int32} {x2 : Int32} (hi0 : i0 < zcnt 2)
  (H : vp_in x2 12 ∧ vp_in x2 12 ∧ ∀ y1 : Int32, y1 = ((h.1 12 i0 x2.toNatClampNeg) + (h.1 15 i0 x2.toNatClampNeg)) → (((x1 >>> ((x2 - 4) &&& 31)) &&& 1) = 0 → ((x2 - x2 / 4 * 4) ≤ 0 → (3 ≤ (x2 - x2 / 4 * 4) → vp_in x2 12 ∧ ((h.1 14 i0 x2.toNatClampNeg) = 1 → Q (some (zi 0)) h) ∧ (¬ (h.1 14 i0 x2.toNatClampNeg) = 1 → ((h.1 14 i0 x2.toNatClampNeg) = 2 → Q (some (zi 0)) h) ∧ (¬ (h.1 14 i0 x2.toNatClampNeg) = 2 → ((h.1 14 i0 x2.toNatClampNeg) = 3 → vp_in x2 12 ∧ (((x1 &&& (h.1 2 i0 8)) &&& (zbes x2.toNatClampNeg)) = 0 → Q (some (zi 0)) h) ∧ (¬ ((x1 &&& (h.1 2 i0 8)) &&& (zbes x2.toNatClampNeg)) = 0 → Q (some (zi 1)) h)) ∧ (¬ (h.1 14 i0 x2.toNatClampNeg) = 3 → Q (some (zi 0)) h)))) ∧ (¬ 3 ≤ (x2 - x2 / 4 * 4) → (((x1 >>> (((x2 - 4) + 1) &&& 31)) &&& 1) = 0 → vp_in x2 12 ∧ ((h.1 14 i0 x2.toNatClampNeg) = 1 → Q (some (zi 0)) h) ∧ (¬ (h.1 14 i0 x2.toNatClampNeg) = 1 → ((h.1 14 i0 x2.toNatClampNeg) = 2 → Q (some (zi 0)) h) ∧ (¬ (h.1 14 i0 x2.toNatClampNeg) = 2 → ((h.1 14 i0 x2.toNatClampNeg) = 3 → vp_in x2 12 ∧ (((x1 &&& (h.1 2 i0 8)) &&& (zbes x2.toNatClampNeg)) = 0 → Q (some (zi 0)) h) ∧ (¬ ((x1 &&& (h.1 2 i0 8)) &&& (zbes x2.toNatClampNeg)) = 0 → Q (some (zi 1)) h)) ∧ (¬ (h.1 14 i0 x2.toNatClampNeg) = 3 → Q (some (zi 0)) h)))) ∧ (¬ ((x1 >>> (((x2 - 4) + 1) &&& 31)) &&& 1) = 0 → vp_in x2 12 ∧ ((h.1 14 i0 x2.toNatClampNeg) = 1 → Q (some (zi 0)) h) ∧ (¬ (h.1 14 i0 x2.toNatClampNeg) = 1 → ((h.1 14 i0 x2.toNatClampNeg) = 2 → vp_in ((x2 - 4) + 1) 12 ∧ vp_in ((x2 - 4) + 1) 12 ∧ (∀ h2 : ZH, h2 = zs1 h 15 i0 ((x2 - 4) + 1).toNatClampNeg ((h.1 15 i0 ((x2 - 4) + 1).toNatClampNeg) + y1) → Q (some (zi 1)) h2)) ∧ (¬ (h.1 14 i0 x2.toNatClampNeg) = 2 → ((h.1 14 i0 x2.toNatClampNeg) = 3 → vp_in x2 12 ∧ (((x1 &&& (h.1 2 i0 8)) &&& (zbes x2.toNatClampNeg)) = 0 → Q (some (zi 0)) h) ∧ (¬ ((x1 &&& (h.1 2 i0 8)) &&& (zbes x2.toNatClampNeg)) = 0 → Q (some (zi 1)) h)) ∧ (¬ (h.1 14 i0 x2.toNatClampNeg) = 3 → Q (some (zi 0)) h)))))) ∧ (¬ (x2 - x2 / 4 * 4) ≤ 0 → (((x1 >>> (((x2 - 4) - 1) &&& 31)) &&& 1) = 0 → (3 ≤ (x2 - x2 / 4 * 4) → vp_in x2 12 ∧ ((h.1 14 i0 x2.toNatClampNeg) = 1 → Q (some (zi 0)) h) ∧ (¬ (h.1 14 i0 x2.toNatClampNeg) = 1 → ((h.1 14 i0 x2.toNatClampNeg) = 2 → Q (some (zi 0)) h) ∧ (¬ (h.1 14 i0 x2.toNatClampNeg) = 2 → ((h.1 14 i0 x2.toNatClampNeg) = 3 → vp_in x2 12 ∧ (((x1 &&& (h.1 2 i0 8)) &&& (zbes x2.toNatClampNeg)) = 0 → Q (some (zi 0)) h) ∧ (¬ ((x1 &&& (h.1 2 i0 8)) &&& (zbes x2.toNatClampNeg)) = 0 → Q (some (zi 1)) h)) ∧ (¬ (h.1 14 i0 x2.toNatClampNeg) = 3 → Q (some (zi 0)) h)))) ∧ (¬ 3 ≤ (x2 - x2 / 4 * 4) → (((x1 >>> (((x2 - 4) + 1) &&& 31)) &&& 1) = 0 → vp_in x2 12 ∧ ((h.1 14 i0 x2.toNatClampNeg) = 1 → Q (some (zi 0)) h) ∧ (¬ (h.1 14 i0 x2.toNatClampNeg) = 1 → ((h.1 14 i0 x2.toNatClampNeg) = 2 → Q (some (zi 0)) h) ∧ (¬ (h.1 14 i0 x2.toNatClampNeg) = 2 → ((h.1 14 i0 x2.toNatClampNeg) = 3 → vp_in x2 12 ∧ (((x1 &&& (h.1 2 i0 8)) &&& (zbes x2.toNatClampNeg)) = 0 → Q (some (zi 0)) h) ∧ (¬ ((x1 &&& (h.1 2 i0 8)) &&& (zbes x2.toNatClampNeg)) = 0 → Q (some (zi 1)) h)) ∧ (¬ (h.1 14 i0 x2.toNatClampNeg) = 3 → Q (some (zi 0)) h)))) ∧ (¬ ((x1 >>> (((x2 - 4) + 1) &&& 31)) &&& 1) = 0 → vp_in x2 12 ∧ ((h.1 14 i0 x2.toNatClampNeg) = 1 → Q (some (zi 0)) h) ∧ (¬ (h.1 14 i0 x2.toNatClampNeg) = 1 → ((h.1 14 i0 x2.toNatClampNeg) = 2 → vp_in ((x2 - 4) + 1) 12 ∧ vp_in ((x2 - 4) + 1) 12 ∧ (∀ h3 : ZH, h3 = zs1 h 15 i0 ((x2 - 4) + 1).toNatClampNeg ((h.1 15 i0 ((x2 - 4) + 1).toNatClampNeg) + y1) → Q (some (zi 1)) h3)) ∧ (¬ (h.1 14 i0 x2.toNatClampNeg) = 2 → ((h.1 14 i0 x2.toNatClampNeg) = 3 → vp_in x2 12 ∧ (((x1 &&& (h.1 2 i0 8)) &&& (zbes x2.toNatClampNeg)) = 0 → Q (some (zi 0)) h) ∧ (¬ ((x1 &&& (h.1 2 i0 8)) &&& (zbes x2.toNatClampNeg)) = 0 → Q (some (zi 1)) h)) ∧ (¬ (h.1 14 i0 x2.toNatClampNeg) = 3 → Q (some (zi 0)) h)))))) ∧ (¬ ((x1 >>> (((x2 - 4) - 1) &&& 31)) &&& 1) = 0 → (3 ≤ (x2 - x2 / 4 * 4) → vp_in x2 12 ∧ ((h.1 14 i0 x2.toNatClampNeg) = 1 → Q (some (zi 0)) h) ∧ (¬ (h.1 14 i0 x2.toNatClampNeg) = 1 → ((h.1 14 i0 x2.toNatClampNeg) = 2 → vp_in ((x2 - 4) - 1) 12 ∧ vp_in ((x2 - 4) - 1) 12 ∧ (∀ h4 : ZH, h4 = zs1 h 15 i0 ((x2 - 4) - 1).toNatClampNeg ((h.1 15 i0 ((x2 - 4) - 1).toNatClampNeg) + y1) → Q (some (zi 1)) h4)) ∧ (¬ (h.1 14 i0 x2.toNatClampNeg) = 2 → ((h.1 14 i0 x2.toNatClampNeg) = 3 → vp_in x2 12 ∧ (((x1 &&& (h.1 2 i0 8)) &&& (zbes x2.toNatClampNeg)) = 0 → Q (some (zi 0)) h) ∧ (¬ ((x1 &&& (h.1 2 i0 8)) &&& (zbes x2.toNatClampNeg)) = 0 → Q (some (zi 1)) h)) ∧ (¬ (h.1 14 i0 x2.toNatClampNeg) = 3 → Q (some (zi 0)) h)))) ∧ (¬ 3 ≤ (x2 - x2 / 4 * 4) → (((x1 >>> (((x2 - 4) + 1) &&& 31)) &&& 1) = 0 → vp_in x2 12 ∧ ((h.1 14 i0 x2.toNatClampNeg) = 1 → Q (some (zi 0)) h) ∧ (¬ (h.1 14 i0 x2.toNatClampNeg) = 1 → ((h.1 14 i0 x2.toNatClampNeg) = 2 → vp_in ((x2 - 4) - 1) 12 ∧ vp_in ((x2 - 4) - 1) 12 ∧ (∀ h5 : ZH, h5 = zs1 h 15 i0 ((x2 - 4) - 1).toNatClampNeg ((h.1 15 i0 ((x2 - 4) - 1).toNatClampNeg) + y1) → Q (some (zi 1)) h5)) ∧ (¬ (h.1 14 i0 x2.toNatClampNeg) = 2 → ((h.1 14 i0 x2.toNatClampNeg) = 3 → vp_in x2 12 ∧ (((x1 &&& (h.1 2 i0 8)) &&& (zbes x2.toNatClampNeg)) = 0 → Q (some (zi 0)) h) ∧ (¬ ((x1 &&& (h.1 2 i0 8)) &&& (zbes x2.toNatClampNeg)) = 0 → Q (some (zi 1)) h)) ∧ (¬ (h.1 14 i0 x2.toNatClampNeg) = 3 → Q (some (zi 0)) h)))) ∧ (¬ ((x1 >>> (((x2 - 4) + 1) &&& 31)) &&& 1) = 0 → vp_in x2 12 ∧ ((h.1 14 i0 x2.toNatClampNeg) = 1 → vp_in ((x2 - 4) - 1) 12 ∧ vp_in ((x2 - 4) - 1) 12 ∧ (∀ h6 : ZH, h6 = zs1 h 15 i0 ((x2 - 4) - 1).toNatClampNeg ((h.1 15 i0 ((x2 - 4) - 1).toNatClampNeg) + (y1 / 2)) → vp_in ((x2 - 4) + 1) 12 ∧ vp_in ((x2 - 4) + 1) 12 ∧ (∀ h7 : ZH, h7 = zs1 h6 15 i0 ((x2 - 4) + 1).toNatClampNeg ((h6.1 15 i0 ((x2 - 4) + 1).toNatClampNeg) + (y1 - (y1 / 2))) → Q (some (zi 1)) h7))) ∧ (¬ (h.1 14 i0 x2.toNatClampNeg) = 1 → ((h.1 14 i0 x2.toNatClampNeg) = 2 → vp_in ((x2 - 4) - 1) 12 ∧ vp_in ((x2 - 4) - 1) 12 ∧ (∀ h8 : ZH, h8 = zs1 h 15 i0 ((x2 - 4) - 1).toNatClampNeg ((h.1 15 i0 ((x2 - 4) - 1).toNatClampNeg) + y1) → Q (some (zi 1)) h8)) ∧ (¬ (h.1 14 i0 x2.toNatClampNeg) = 2 → ((h.1 14 i0 x2.toNatClampNeg) = 3 → vp_in x2 12 ∧ (((x1 &&& (h.1 2 i0 8)) &&& (zbes x2.toNatClampNeg)) = 0 → Q (some (zi 0)) h) ∧ (¬ ((x1 &&& (h.1 2 i0 8)) &&& (zbes x2.toNatClampNeg)) = 0 → Q (some (zi 1)) h)) ∧ (¬ (h.1 14 i0 x2.toNatClampNeg) = 3 → Q (some (zi 0)) h)))))))) ∧ (¬ ((x1 >>> ((x2 - 4) &&& 31)) &&& 1) = 0 → vp_in (x2 - 4) 12 ∧ vp_in (x2 - 4) 12 ∧ (∀ h9 : ZH, h9 = zs1 h 15 i0 (x2 - 4).toNatClampNeg ((h.1 15 i0 (x2 - 4).toNatClampNeg) + y1) → Q (some (zi 1)) h9))) :
  zT G (d + 1) mX4_restsIn 0 [zr 2 i0, zi x1, zi x2, zu, zu, zu, zu] [] h Q := by
  refine zt_iload_n kX4_restsIn_0 rfl ?_
  refine zt_iconst (v := 4) kX4_restsIn_1 rfl ?_
  refine zt_isub kX4_restsIn_2 ?_
  refine zt_istore_n (L' := [zr 2 i0, zi x1, zi x2, zi (x2 - 4), zu, zu, zu]) kX4_restsIn_3 (by decide) rfl ?_
  refine zt_aload_n kX4_restsIn_4 rfl ?_
  refine zt_get (v := zr 12 i0) kX4_restsIn_5 fRX4_18 rfl hi0 rfl ?_
  refine zt_iload_n kX4_restsIn_8 rfl ?_
  obtain ⟨hv, H⟩ := H
  refine zt_iald kX4_restsIn_9 rfl hi0 hv ?_
  refine zt_aload_n kX4_restsIn_10 rfl ?_
  refine zt_get (v := zr 15 i0) kX4_restsIn_11 fRX4_27 rfl hi0 rfl ?_
  refine zt_iload_n kX4_restsIn_14 rfl ?_
  obtain ⟨hv, H⟩ := H
  refine zt_iald kX4_restsIn_15 rfl hi0 hv ?_
  refine zt_iadd kX4_restsIn_16 ?_
  refine zt_topi (fun y1 ey1 => ?_)
  replace H := H y1 ey1
  refine zt_istore (L' := [zr 2 i0, zi x1, zi x2, zi (x2 - 4), zi y1, zu, zu]) kX4_restsIn_17 (by decide) rfl ?_
  refine zt_iload_n kX4_restsIn_19 rfl ?_
  refine zt_iload_n kX4_restsIn_20 rfl ?_
  refine zt_ishr kX4_restsIn_21 ?_
  refine zt_iconst (v := 1) kX4_restsIn_22 rfl ?_
  refine zt_iand kX4_restsIn_23 ?_
  refine zt_if_eq kX4_restsIn_24 (fun c => ?_) (fun c => ?_)
  · replace H := H.1 c
    refine zt_iload_n kX4_restsIn_40 rfl ?_
    refine zt_iconst (v := 4) kX4_restsIn_41 rfl ?_
    refine zt_irem kX4_restsIn_42 (by decide) ?_
    refine zt_if_le kX4_restsIn_43 (fun c => ?_) (fun c => ?_)
    · replace H := H.1 c
      refine zt_iconst (v := 0) kX4_restsIn_60 rfl ?_
      refine zt_istore (L' := [zr 2 i0, zi x1, zi x2, zi (x2 - 4), zi y1, zi 0, zu]) kX4_restsIn_61 (by decide) rfl ?_
      refine zt_iload_n kX4_restsIn_63 rfl ?_
      refine zt_iconst (v := 4) kX4_restsIn_64 rfl ?_
      refine zt_irem kX4_restsIn_65 (by decide) ?_
      refine zt_iconst (v := 3) kX4_restsIn_66 rfl ?_
      refine zt_icmp_ge kX4_restsIn_67 (fun c => ?_) (fun c => ?_)
      · replace H := H.1 c
        refine zt_iconst (v := 0) kX4_restsIn_84 rfl ?_
        refine zt_istore (L' := [zr 2 i0, zi x1, zi x2, zi (x2 - 4), zi y1, zi 0, zi 0]) kX4_restsIn_85 (by decide) rfl ?_
        refine zt_aload_n kX4_restsIn_87 rfl ?_
        refine zt_get (v := zr 14 i0) kX4_restsIn_88 fRX4_24 rfl hi0 rfl ?_
        refine zt_iload_n kX4_restsIn_91 rfl ?_
        obtain ⟨hv, H⟩ := H
        refine zt_iald kX4_restsIn_92 rfl hi0 hv ?_
        rcases Classical.em ((h.1 14 i0 x2.toNatClampNeg) = 1) with c0 | c0
        · replace H := H.1 c0
          refine zt_tabIn (tgt := 120) kX4_restsIn_93 (by rw [c0]; decide) (by rw [c0]; decide) (by rw [c0]; rfl) (by decide) ?_
          refine zt_iload kX4_restsIn_120 rfl ?_
          refine zt_if_eq kX4_restsIn_122 (fun _ => ?_) (fun c => absurd c (by decide))
          refine zt_iconst (v := 0) kX4_restsIn_130 rfl ?_
          exact zt_zret kX4_restsIn_131 rfl (by decide) H
        replace H := H.2 c0
        rcases Classical.em ((h.1 14 i0 x2.toNatClampNeg) = 2) with c1 | c1
        · replace H := H.1 c1
          refine zt_tabIn (tgt := 167) kX4_restsIn_93 (by rw [c1]; decide) (by rw [c1]; decide) (by rw [c1]; rfl) (by decide) ?_
          refine zt_iload kX4_restsIn_167 rfl ?_
          refine zt_if_ne kX4_restsIn_169 (fun c => absurd c (by decide)) (fun _ => ?_)
          refine zt_iload kX4_restsIn_172 rfl ?_
          refine zt_if_ne kX4_restsIn_174 (fun c => absurd c (by decide)) (fun _ => ?_)
          refine zt_iconst (v := 0) kX4_restsIn_177 rfl ?_
          exact zt_zret kX4_restsIn_178 rfl (by decide) H
        replace H := H.2 c1
        rcases Classical.em ((h.1 14 i0 x2.toNatClampNeg) = 3) with c2 | c2
        · replace H := H.1 c2
          refine zt_tabIn (tgt := 205) kX4_restsIn_93 (by rw [c2]; decide) (by rw [c2]; decide) (by rw [c2]; rfl) (by decide) ?_
          refine zt_iload_n kX4_restsIn_205 rfl ?_
          refine zt_aload_n kX4_restsIn_206 rfl ?_
          refine zt_get (v := zi (h.1 2 i0 8)) kX4_restsIn_207 fRX4_37 rfl hi0 rfl ?_
          refine zt_iand kX4_restsIn_210 ?_
          refine zt_bes kX4_restsIn_211 wn_298 ?_
          refine zt_iload_n kX4_restsIn_214 rfl ?_
          obtain ⟨hv, H⟩ := H
          refine zt_besld kX4_restsIn_215 hv ?_
          refine zt_iand kX4_restsIn_216 ?_
          refine zt_if_eq kX4_restsIn_217 (fun c => ?_) (fun c => ?_)
          · replace H := H.1 c
            refine zt_iconst (v := 0) kX4_restsIn_224 rfl ?_
            exact zt_zret kX4_restsIn_225 rfl (by decide) H
          · replace H := H.2 c
            refine zt_iconst (v := 1) kX4_restsIn_220 rfl ?_
            refine zt_goto kX4_restsIn_221 ?_
            exact zt_zret kX4_restsIn_225 rfl (by decide) H
        replace H := H.2 c2
        refine zt_tabOut (tgt := 226) kX4_restsIn_93 (by have n0 := lv_neT (a := 1) c0 rfl; have n1 := lv_neT (a := 2) c1 rfl; have n2 := lv_neT (a := 3) c2 rfl; omega) (by decide) ?_
        refine zt_iconst (v := 0) kX4_restsIn_226 rfl ?_
        exact zt_zret kX4_restsIn_227 rfl (by decide) H
      · replace H := H.2 c
        refine zt_iload_n kX4_restsIn_70 rfl ?_
        refine zt_iload_n kX4_restsIn_71 rfl ?_
        refine zt_iconst (v := 1) kX4_restsIn_72 rfl ?_
        refine zt_iadd kX4_restsIn_73 ?_
        refine zt_ishr kX4_restsIn_74 ?_
        refine zt_iconst (v := 1) kX4_restsIn_75 rfl ?_
        refine zt_iand kX4_restsIn_76 ?_
        refine zt_if_eq kX4_restsIn_77 (fun c => ?_) (fun c => ?_)
        · replace H := H.1 c
          refine zt_iconst (v := 0) kX4_restsIn_84 rfl ?_
          refine zt_istore (L' := [zr 2 i0, zi x1, zi x2, zi (x2 - 4), zi y1, zi 0, zi 0]) kX4_restsIn_85 (by decide) rfl ?_
          refine zt_aload_n kX4_restsIn_87 rfl ?_
          refine zt_get (v := zr 14 i0) kX4_restsIn_88 fRX4_24 rfl hi0 rfl ?_
          refine zt_iload_n kX4_restsIn_91 rfl ?_
          obtain ⟨hv, H⟩ := H
          refine zt_iald kX4_restsIn_92 rfl hi0 hv ?_
          rcases Classical.em ((h.1 14 i0 x2.toNatClampNeg) = 1) with c0 | c0
          · replace H := H.1 c0
            refine zt_tabIn (tgt := 120) kX4_restsIn_93 (by rw [c0]; decide) (by rw [c0]; decide) (by rw [c0]; rfl) (by decide) ?_
            refine zt_iload kX4_restsIn_120 rfl ?_
            refine zt_if_eq kX4_restsIn_122 (fun _ => ?_) (fun c => absurd c (by decide))
            refine zt_iconst (v := 0) kX4_restsIn_130 rfl ?_
            exact zt_zret kX4_restsIn_131 rfl (by decide) H
          replace H := H.2 c0
          rcases Classical.em ((h.1 14 i0 x2.toNatClampNeg) = 2) with c1 | c1
          · replace H := H.1 c1
            refine zt_tabIn (tgt := 167) kX4_restsIn_93 (by rw [c1]; decide) (by rw [c1]; decide) (by rw [c1]; rfl) (by decide) ?_
            refine zt_iload kX4_restsIn_167 rfl ?_
            refine zt_if_ne kX4_restsIn_169 (fun c => absurd c (by decide)) (fun _ => ?_)
            refine zt_iload kX4_restsIn_172 rfl ?_
            refine zt_if_ne kX4_restsIn_174 (fun c => absurd c (by decide)) (fun _ => ?_)
            refine zt_iconst (v := 0) kX4_restsIn_177 rfl ?_
            exact zt_zret kX4_restsIn_178 rfl (by decide) H
          replace H := H.2 c1
          rcases Classical.em ((h.1 14 i0 x2.toNatClampNeg) = 3) with c2 | c2
          · replace H := H.1 c2
            refine zt_tabIn (tgt := 205) kX4_restsIn_93 (by rw [c2]; decide) (by rw [c2]; decide) (by rw [c2]; rfl) (by decide) ?_
            refine zt_iload_n kX4_restsIn_205 rfl ?_
            refine zt_aload_n kX4_restsIn_206 rfl ?_
            refine zt_get (v := zi (h.1 2 i0 8)) kX4_restsIn_207 fRX4_37 rfl hi0 rfl ?_
            refine zt_iand kX4_restsIn_210 ?_
            refine zt_bes kX4_restsIn_211 wn_298 ?_
            refine zt_iload_n kX4_restsIn_214 rfl ?_
            obtain ⟨hv, H⟩ := H
            refine zt_besld kX4_restsIn_215 hv ?_
            refine zt_iand kX4_restsIn_216 ?_
            refine zt_if_eq kX4_restsIn_217 (fun c => ?_) (fun c => ?_)
            · replace H := H.1 c
              refine zt_iconst (v := 0) kX4_restsIn_224 rfl ?_
              exact zt_zret kX4_restsIn_225 rfl (by decide) H
            · replace H := H.2 c
              refine zt_iconst (v := 1) kX4_restsIn_220 rfl ?_
              refine zt_goto kX4_restsIn_221 ?_
              exact zt_zret kX4_restsIn_225 rfl (by decide) H
          replace H := H.2 c2
          refine zt_tabOut (tgt := 226) kX4_restsIn_93 (by have n0 := lv_neT (a := 1) c0 rfl; have n1 := lv_neT (a := 2) c1 rfl; have n2 := lv_neT (a := 3) c2 rfl; omega) (by decide) ?_
          refine zt_iconst (v := 0) kX4_restsIn_226 rfl ?_
          exact zt_zret kX4_restsIn_227 rfl (by decide) H
        · replace H := H.2 c
          refine zt_iconst (v := 1) kX4_restsIn_80 rfl ?_
          refine zt_goto kX4_restsIn_81 ?_
          refine zt_istore (L' := [zr 2 i0, zi x1, zi x2, zi (x2 - 4), zi y1, zi 0, zi 1]) kX4_restsIn_85 (by decide) rfl ?_
          refine zt_aload_n kX4_restsIn_87 rfl ?_
          refine zt_get (v := zr 14 i0) kX4_restsIn_88 fRX4_24 rfl hi0 rfl ?_
          refine zt_iload_n kX4_restsIn_91 rfl ?_
          obtain ⟨hv, H⟩ := H
          refine zt_iald kX4_restsIn_92 rfl hi0 hv ?_
          rcases Classical.em ((h.1 14 i0 x2.toNatClampNeg) = 1) with c0 | c0
          · replace H := H.1 c0
            refine zt_tabIn (tgt := 120) kX4_restsIn_93 (by rw [c0]; decide) (by rw [c0]; decide) (by rw [c0]; rfl) (by decide) ?_
            refine zt_iload kX4_restsIn_120 rfl ?_
            refine zt_if_eq kX4_restsIn_122 (fun _ => ?_) (fun c => absurd c (by decide))
            refine zt_iconst (v := 0) kX4_restsIn_130 rfl ?_
            exact zt_zret kX4_restsIn_131 rfl (by decide) H
          replace H := H.2 c0
          rcases Classical.em ((h.1 14 i0 x2.toNatClampNeg) = 2) with c1 | c1
          · replace H := H.1 c1
            refine zt_tabIn (tgt := 167) kX4_restsIn_93 (by rw [c1]; decide) (by rw [c1]; decide) (by rw [c1]; rfl) (by decide) ?_
            refine zt_iload kX4_restsIn_167 rfl ?_
            refine zt_if_ne kX4_restsIn_169 (fun c => absurd c (by decide)) (fun _ => ?_)
            refine zt_iload kX4_restsIn_172 rfl ?_
            refine zt_if_ne kX4_restsIn_174 (fun _ => ?_) (fun c => absurd c (by decide))
            refine zt_aload_n kX4_restsIn_179 rfl ?_
            refine zt_get (v := zr 15 i0) kX4_restsIn_180 fRX4_27 rfl hi0 rfl ?_
            refine zt_iload kX4_restsIn_183 rfl ?_
            refine zt_if_eq kX4_restsIn_185 (fun _ => ?_) (fun c => absurd c (by decide))
            refine zt_iload_n kX4_restsIn_194 rfl ?_
            refine zt_iconst (v := 1) kX4_restsIn_195 rfl ?_
            refine zt_iadd kX4_restsIn_196 ?_
            refine zt_dup2 kX4_restsIn_197 (by intro x q; cases q) (by intro x q; cases q) ?_
            obtain ⟨hv, H⟩ := H
            refine zt_iald kX4_restsIn_198 rfl hi0 hv ?_
            refine zt_iload kX4_restsIn_199 rfl ?_
            refine zt_iadd kX4_restsIn_201 ?_
            obtain ⟨hv, H⟩ := H
            refine zt_iast kX4_restsIn_202 rfl hi0 hv ?_
            refine zt_heap (fun h2 eh2 => ?_)
            replace H := H h2 eh2
            refine zt_iconst (v := 1) kX4_restsIn_203 rfl ?_
            exact zt_zret kX4_restsIn_204 rfl (by decide) H
          replace H := H.2 c1
          rcases Classical.em ((h.1 14 i0 x2.toNatClampNeg) = 3) with c2 | c2
          · replace H := H.1 c2
            refine zt_tabIn (tgt := 205) kX4_restsIn_93 (by rw [c2]; decide) (by rw [c2]; decide) (by rw [c2]; rfl) (by decide) ?_
            refine zt_iload_n kX4_restsIn_205 rfl ?_
            refine zt_aload_n kX4_restsIn_206 rfl ?_
            refine zt_get (v := zi (h.1 2 i0 8)) kX4_restsIn_207 fRX4_37 rfl hi0 rfl ?_
            refine zt_iand kX4_restsIn_210 ?_
            refine zt_bes kX4_restsIn_211 wn_298 ?_
            refine zt_iload_n kX4_restsIn_214 rfl ?_
            obtain ⟨hv, H⟩ := H
            refine zt_besld kX4_restsIn_215 hv ?_
            refine zt_iand kX4_restsIn_216 ?_
            refine zt_if_eq kX4_restsIn_217 (fun c => ?_) (fun c => ?_)
            · replace H := H.1 c
              refine zt_iconst (v := 0) kX4_restsIn_224 rfl ?_
              exact zt_zret kX4_restsIn_225 rfl (by decide) H
            · replace H := H.2 c
              refine zt_iconst (v := 1) kX4_restsIn_220 rfl ?_
              refine zt_goto kX4_restsIn_221 ?_
              exact zt_zret kX4_restsIn_225 rfl (by decide) H
          replace H := H.2 c2
          refine zt_tabOut (tgt := 226) kX4_restsIn_93 (by have n0 := lv_neT (a := 1) c0 rfl; have n1 := lv_neT (a := 2) c1 rfl; have n2 := lv_neT (a := 3) c2 rfl; omega) (by decide) ?_
          refine zt_iconst (v := 0) kX4_restsIn_226 rfl ?_
          exact zt_zret kX4_restsIn_227 rfl (by decide) H
    · replace H := H.2 c
      refine zt_iload_n kX4_restsIn_46 rfl ?_
      refine zt_iload_n kX4_restsIn_47 rfl ?_
      refine zt_iconst (v := 1) kX4_restsIn_48 rfl ?_
      refine zt_isub kX4_restsIn_49 ?_
      refine zt_ishr kX4_restsIn_50 ?_
      refine zt_iconst (v := 1) kX4_restsIn_51 rfl ?_
      refine zt_iand kX4_restsIn_52 ?_
      refine zt_if_eq kX4_restsIn_53 (fun c => ?_) (fun c => ?_)
      · replace H := H.1 c
        refine zt_iconst (v := 0) kX4_restsIn_60 rfl ?_
        refine zt_istore (L' := [zr 2 i0, zi x1, zi x2, zi (x2 - 4), zi y1, zi 0, zu]) kX4_restsIn_61 (by decide) rfl ?_
        refine zt_iload_n kX4_restsIn_63 rfl ?_
        refine zt_iconst (v := 4) kX4_restsIn_64 rfl ?_
        refine zt_irem kX4_restsIn_65 (by decide) ?_
        refine zt_iconst (v := 3) kX4_restsIn_66 rfl ?_
        refine zt_icmp_ge kX4_restsIn_67 (fun c => ?_) (fun c => ?_)
        · replace H := H.1 c
          refine zt_iconst (v := 0) kX4_restsIn_84 rfl ?_
          refine zt_istore (L' := [zr 2 i0, zi x1, zi x2, zi (x2 - 4), zi y1, zi 0, zi 0]) kX4_restsIn_85 (by decide) rfl ?_
          refine zt_aload_n kX4_restsIn_87 rfl ?_
          refine zt_get (v := zr 14 i0) kX4_restsIn_88 fRX4_24 rfl hi0 rfl ?_
          refine zt_iload_n kX4_restsIn_91 rfl ?_
          obtain ⟨hv, H⟩ := H
          refine zt_iald kX4_restsIn_92 rfl hi0 hv ?_
          rcases Classical.em ((h.1 14 i0 x2.toNatClampNeg) = 1) with c0 | c0
          · replace H := H.1 c0
            refine zt_tabIn (tgt := 120) kX4_restsIn_93 (by rw [c0]; decide) (by rw [c0]; decide) (by rw [c0]; rfl) (by decide) ?_
            refine zt_iload kX4_restsIn_120 rfl ?_
            refine zt_if_eq kX4_restsIn_122 (fun _ => ?_) (fun c => absurd c (by decide))
            refine zt_iconst (v := 0) kX4_restsIn_130 rfl ?_
            exact zt_zret kX4_restsIn_131 rfl (by decide) H
          replace H := H.2 c0
          rcases Classical.em ((h.1 14 i0 x2.toNatClampNeg) = 2) with c1 | c1
          · replace H := H.1 c1
            refine zt_tabIn (tgt := 167) kX4_restsIn_93 (by rw [c1]; decide) (by rw [c1]; decide) (by rw [c1]; rfl) (by decide) ?_
            refine zt_iload kX4_restsIn_167 rfl ?_
            refine zt_if_ne kX4_restsIn_169 (fun c => absurd c (by decide)) (fun _ => ?_)
            refine zt_iload kX4_restsIn_172 rfl ?_
            refine zt_if_ne kX4_restsIn_174 (fun c => absurd c (by decide)) (fun _ => ?_)
            refine zt_iconst (v := 0) kX4_restsIn_177 rfl ?_
            exact zt_zret kX4_restsIn_178 rfl (by decide) H
          replace H := H.2 c1
          rcases Classical.em ((h.1 14 i0 x2.toNatClampNeg) = 3) with c2 | c2
          · replace H := H.1 c2
            refine zt_tabIn (tgt := 205) kX4_restsIn_93 (by rw [c2]; decide) (by rw [c2]; decide) (by rw [c2]; rfl) (by decide) ?_
            refine zt_iload_n kX4_restsIn_205 rfl ?_
            refine zt_aload_n kX4_restsIn_206 rfl ?_
            refine zt_get (v := zi (h.1 2 i0 8)) kX4_restsIn_207 fRX4_37 rfl hi0 rfl ?_
            refine zt_iand kX4_restsIn_210 ?_
            refine zt_bes kX4_restsIn_211 wn_298 ?_
            refine zt_iload_n kX4_restsIn_214 rfl ?_
            obtain ⟨hv, H⟩ := H
            refine zt_besld kX4_restsIn_215 hv ?_
            refine zt_iand kX4_restsIn_216 ?_
            refine zt_if_eq kX4_restsIn_217 (fun c => ?_) (fun c => ?_)
            · replace H := H.1 c
              refine zt_iconst (v := 0) kX4_restsIn_224 rfl ?_
              exact zt_zret kX4_restsIn_225 rfl (by decide) H
            · replace H := H.2 c
              refine zt_iconst (v := 1) kX4_restsIn_220 rfl ?_
              refine zt_goto kX4_restsIn_221 ?_
              exact zt_zret kX4_restsIn_225 rfl (by decide) H
          replace H := H.2 c2
          refine zt_tabOut (tgt := 226) kX4_restsIn_93 (by have n0 := lv_neT (a := 1) c0 rfl; have n1 := lv_neT (a := 2) c1 rfl; have n2 := lv_neT (a := 3) c2 rfl; omega) (by decide) ?_
          refine zt_iconst (v := 0) kX4_restsIn_226 rfl ?_
          exact zt_zret kX4_restsIn_227 rfl (by decide) H
        · replace H := H.2 c
          refine zt_iload_n kX4_restsIn_70 rfl ?_
          refine zt_iload_n kX4_restsIn_71 rfl ?_
          refine zt_iconst (v := 1) kX4_restsIn_72 rfl ?_
          refine zt_iadd kX4_restsIn_73 ?_
          refine zt_ishr kX4_restsIn_74 ?_
          refine zt_iconst (v := 1) kX4_restsIn_75 rfl ?_
          refine zt_iand kX4_restsIn_76 ?_
          refine zt_if_eq kX4_restsIn_77 (fun c => ?_) (fun c => ?_)
          · replace H := H.1 c
            refine zt_iconst (v := 0) kX4_restsIn_84 rfl ?_
            refine zt_istore (L' := [zr 2 i0, zi x1, zi x2, zi (x2 - 4), zi y1, zi 0, zi 0]) kX4_restsIn_85 (by decide) rfl ?_
            refine zt_aload_n kX4_restsIn_87 rfl ?_
            refine zt_get (v := zr 14 i0) kX4_restsIn_88 fRX4_24 rfl hi0 rfl ?_
            refine zt_iload_n kX4_restsIn_91 rfl ?_
            obtain ⟨hv, H⟩ := H
            refine zt_iald kX4_restsIn_92 rfl hi0 hv ?_
            rcases Classical.em ((h.1 14 i0 x2.toNatClampNeg) = 1) with c0 | c0
            · replace H := H.1 c0
              refine zt_tabIn (tgt := 120) kX4_restsIn_93 (by rw [c0]; decide) (by rw [c0]; decide) (by rw [c0]; rfl) (by decide) ?_
              refine zt_iload kX4_restsIn_120 rfl ?_
              refine zt_if_eq kX4_restsIn_122 (fun _ => ?_) (fun c => absurd c (by decide))
              refine zt_iconst (v := 0) kX4_restsIn_130 rfl ?_
              exact zt_zret kX4_restsIn_131 rfl (by decide) H
            replace H := H.2 c0
            rcases Classical.em ((h.1 14 i0 x2.toNatClampNeg) = 2) with c1 | c1
            · replace H := H.1 c1
              refine zt_tabIn (tgt := 167) kX4_restsIn_93 (by rw [c1]; decide) (by rw [c1]; decide) (by rw [c1]; rfl) (by decide) ?_
              refine zt_iload kX4_restsIn_167 rfl ?_
              refine zt_if_ne kX4_restsIn_169 (fun c => absurd c (by decide)) (fun _ => ?_)
              refine zt_iload kX4_restsIn_172 rfl ?_
              refine zt_if_ne kX4_restsIn_174 (fun c => absurd c (by decide)) (fun _ => ?_)
              refine zt_iconst (v := 0) kX4_restsIn_177 rfl ?_
              exact zt_zret kX4_restsIn_178 rfl (by decide) H
            replace H := H.2 c1
            rcases Classical.em ((h.1 14 i0 x2.toNatClampNeg) = 3) with c2 | c2
            · replace H := H.1 c2
              refine zt_tabIn (tgt := 205) kX4_restsIn_93 (by rw [c2]; decide) (by rw [c2]; decide) (by rw [c2]; rfl) (by decide) ?_
              refine zt_iload_n kX4_restsIn_205 rfl ?_
              refine zt_aload_n kX4_restsIn_206 rfl ?_
              refine zt_get (v := zi (h.1 2 i0 8)) kX4_restsIn_207 fRX4_37 rfl hi0 rfl ?_
              refine zt_iand kX4_restsIn_210 ?_
              refine zt_bes kX4_restsIn_211 wn_298 ?_
              refine zt_iload_n kX4_restsIn_214 rfl ?_
              obtain ⟨hv, H⟩ := H
              refine zt_besld kX4_restsIn_215 hv ?_
              refine zt_iand kX4_restsIn_216 ?_
              refine zt_if_eq kX4_restsIn_217 (fun c => ?_) (fun c => ?_)
              · replace H := H.1 c
                refine zt_iconst (v := 0) kX4_restsIn_224 rfl ?_
                exact zt_zret kX4_restsIn_225 rfl (by decide) H
              · replace H := H.2 c
                refine zt_iconst (v := 1) kX4_restsIn_220 rfl ?_
                refine zt_goto kX4_restsIn_221 ?_
                exact zt_zret kX4_restsIn_225 rfl (by decide) H
            replace H := H.2 c2
            refine zt_tabOut (tgt := 226) kX4_restsIn_93 (by have n0 := lv_neT (a := 1) c0 rfl; have n1 := lv_neT (a := 2) c1 rfl; have n2 := lv_neT (a := 3) c2 rfl; omega) (by decide) ?_
            refine zt_iconst (v := 0) kX4_restsIn_226 rfl ?_
            exact zt_zret kX4_restsIn_227 rfl (by decide) H
          · replace H := H.2 c
            refine zt_iconst (v := 1) kX4_restsIn_80 rfl ?_
            refine zt_goto kX4_restsIn_81 ?_
            refine zt_istore (L' := [zr 2 i0, zi x1, zi x2, zi (x2 - 4), zi y1, zi 0, zi 1]) kX4_restsIn_85 (by decide) rfl ?_
            refine zt_aload_n kX4_restsIn_87 rfl ?_
            refine zt_get (v := zr 14 i0) kX4_restsIn_88 fRX4_24 rfl hi0 rfl ?_
            refine zt_iload_n kX4_restsIn_91 rfl ?_
            obtain ⟨hv, H⟩ := H
            refine zt_iald kX4_restsIn_92 rfl hi0 hv ?_
            rcases Classical.em ((h.1 14 i0 x2.toNatClampNeg) = 1) with c0 | c0
            · replace H := H.1 c0
              refine zt_tabIn (tgt := 120) kX4_restsIn_93 (by rw [c0]; decide) (by rw [c0]; decide) (by rw [c0]; rfl) (by decide) ?_
              refine zt_iload kX4_restsIn_120 rfl ?_
              refine zt_if_eq kX4_restsIn_122 (fun _ => ?_) (fun c => absurd c (by decide))
              refine zt_iconst (v := 0) kX4_restsIn_130 rfl ?_
              exact zt_zret kX4_restsIn_131 rfl (by decide) H
            replace H := H.2 c0
            rcases Classical.em ((h.1 14 i0 x2.toNatClampNeg) = 2) with c1 | c1
            · replace H := H.1 c1
              refine zt_tabIn (tgt := 167) kX4_restsIn_93 (by rw [c1]; decide) (by rw [c1]; decide) (by rw [c1]; rfl) (by decide) ?_
              refine zt_iload kX4_restsIn_167 rfl ?_
              refine zt_if_ne kX4_restsIn_169 (fun c => absurd c (by decide)) (fun _ => ?_)
              refine zt_iload kX4_restsIn_172 rfl ?_
              refine zt_if_ne kX4_restsIn_174 (fun _ => ?_) (fun c => absurd c (by decide))
              refine zt_aload_n kX4_restsIn_179 rfl ?_
              refine zt_get (v := zr 15 i0) kX4_restsIn_180 fRX4_27 rfl hi0 rfl ?_
              refine zt_iload kX4_restsIn_183 rfl ?_
              refine zt_if_eq kX4_restsIn_185 (fun _ => ?_) (fun c => absurd c (by decide))
              refine zt_iload_n kX4_restsIn_194 rfl ?_
              refine zt_iconst (v := 1) kX4_restsIn_195 rfl ?_
              refine zt_iadd kX4_restsIn_196 ?_
              refine zt_dup2 kX4_restsIn_197 (by intro x q; cases q) (by intro x q; cases q) ?_
              obtain ⟨hv, H⟩ := H
              refine zt_iald kX4_restsIn_198 rfl hi0 hv ?_
              refine zt_iload kX4_restsIn_199 rfl ?_
              refine zt_iadd kX4_restsIn_201 ?_
              obtain ⟨hv, H⟩ := H
              refine zt_iast kX4_restsIn_202 rfl hi0 hv ?_
              refine zt_heap (fun h3 eh3 => ?_)
              replace H := H h3 eh3
              refine zt_iconst (v := 1) kX4_restsIn_203 rfl ?_
              exact zt_zret kX4_restsIn_204 rfl (by decide) H
            replace H := H.2 c1
            rcases Classical.em ((h.1 14 i0 x2.toNatClampNeg) = 3) with c2 | c2
            · replace H := H.1 c2
              refine zt_tabIn (tgt := 205) kX4_restsIn_93 (by rw [c2]; decide) (by rw [c2]; decide) (by rw [c2]; rfl) (by decide) ?_
              refine zt_iload_n kX4_restsIn_205 rfl ?_
              refine zt_aload_n kX4_restsIn_206 rfl ?_
              refine zt_get (v := zi (h.1 2 i0 8)) kX4_restsIn_207 fRX4_37 rfl hi0 rfl ?_
              refine zt_iand kX4_restsIn_210 ?_
              refine zt_bes kX4_restsIn_211 wn_298 ?_
              refine zt_iload_n kX4_restsIn_214 rfl ?_
              obtain ⟨hv, H⟩ := H
              refine zt_besld kX4_restsIn_215 hv ?_
              refine zt_iand kX4_restsIn_216 ?_
              refine zt_if_eq kX4_restsIn_217 (fun c => ?_) (fun c => ?_)
              · replace H := H.1 c
                refine zt_iconst (v := 0) kX4_restsIn_224 rfl ?_
                exact zt_zret kX4_restsIn_225 rfl (by decide) H
              · replace H := H.2 c
                refine zt_iconst (v := 1) kX4_restsIn_220 rfl ?_
                refine zt_goto kX4_restsIn_221 ?_
                exact zt_zret kX4_restsIn_225 rfl (by decide) H
            replace H := H.2 c2
            refine zt_tabOut (tgt := 226) kX4_restsIn_93 (by have n0 := lv_neT (a := 1) c0 rfl; have n1 := lv_neT (a := 2) c1 rfl; have n2 := lv_neT (a := 3) c2 rfl; omega) (by decide) ?_
            refine zt_iconst (v := 0) kX4_restsIn_226 rfl ?_
            exact zt_zret kX4_restsIn_227 rfl (by decide) H
      · replace H := H.2 c
        refine zt_iconst (v := 1) kX4_restsIn_56 rfl ?_
        refine zt_goto kX4_restsIn_57 ?_
        refine zt_istore (L' := [zr 2 i0, zi x1, zi x2, zi (x2 - 4), zi y1, zi 1, zu]) kX4_restsIn_61 (by decide) rfl ?_
        refine zt_iload_n kX4_restsIn_63 rfl ?_
        refine zt_iconst (v := 4) kX4_restsIn_64 rfl ?_
        refine zt_irem kX4_restsIn_65 (by decide) ?_
        refine zt_iconst (v := 3) kX4_restsIn_66 rfl ?_
        refine zt_icmp_ge kX4_restsIn_67 (fun c => ?_) (fun c => ?_)
        · replace H := H.1 c
          refine zt_iconst (v := 0) kX4_restsIn_84 rfl ?_
          refine zt_istore (L' := [zr 2 i0, zi x1, zi x2, zi (x2 - 4), zi y1, zi 1, zi 0]) kX4_restsIn_85 (by decide) rfl ?_
          refine zt_aload_n kX4_restsIn_87 rfl ?_
          refine zt_get (v := zr 14 i0) kX4_restsIn_88 fRX4_24 rfl hi0 rfl ?_
          refine zt_iload_n kX4_restsIn_91 rfl ?_
          obtain ⟨hv, H⟩ := H
          refine zt_iald kX4_restsIn_92 rfl hi0 hv ?_
          rcases Classical.em ((h.1 14 i0 x2.toNatClampNeg) = 1) with c0 | c0
          · replace H := H.1 c0
            refine zt_tabIn (tgt := 120) kX4_restsIn_93 (by rw [c0]; decide) (by rw [c0]; decide) (by rw [c0]; rfl) (by decide) ?_
            refine zt_iload kX4_restsIn_120 rfl ?_
            refine zt_if_eq kX4_restsIn_122 (fun c => absurd c (by decide)) (fun _ => ?_)
            refine zt_iload kX4_restsIn_125 rfl ?_
            refine zt_if_ne kX4_restsIn_127 (fun c => absurd c (by decide)) (fun _ => ?_)
            refine zt_iconst (v := 0) kX4_restsIn_130 rfl ?_
            exact zt_zret kX4_restsIn_131 rfl (by decide) H
          replace H := H.2 c0
          rcases Classical.em ((h.1 14 i0 x2.toNatClampNeg) = 2) with c1 | c1
          · replace H := H.1 c1
            refine zt_tabIn (tgt := 167) kX4_restsIn_93 (by rw [c1]; decide) (by rw [c1]; decide) (by rw [c1]; rfl) (by decide) ?_
            refine zt_iload kX4_restsIn_167 rfl ?_
            refine zt_if_ne kX4_restsIn_169 (fun _ => ?_) (fun c => absurd c (by decide))
            refine zt_aload_n kX4_restsIn_179 rfl ?_
            refine zt_get (v := zr 15 i0) kX4_restsIn_180 fRX4_27 rfl hi0 rfl ?_
            refine zt_iload kX4_restsIn_183 rfl ?_
            refine zt_if_eq kX4_restsIn_185 (fun c => absurd c (by decide)) (fun _ => ?_)
            refine zt_iload_n kX4_restsIn_188 rfl ?_
            refine zt_iconst (v := 1) kX4_restsIn_189 rfl ?_
            refine zt_isub kX4_restsIn_190 ?_
            refine zt_goto kX4_restsIn_191 ?_
            refine zt_dup2 kX4_restsIn_197 (by intro x q; cases q) (by intro x q; cases q) ?_
            obtain ⟨hv, H⟩ := H
            refine zt_iald kX4_restsIn_198 rfl hi0 hv ?_
            refine zt_iload kX4_restsIn_199 rfl ?_
            refine zt_iadd kX4_restsIn_201 ?_
            obtain ⟨hv, H⟩ := H
            refine zt_iast kX4_restsIn_202 rfl hi0 hv ?_
            refine zt_heap (fun h4 eh4 => ?_)
            replace H := H h4 eh4
            refine zt_iconst (v := 1) kX4_restsIn_203 rfl ?_
            exact zt_zret kX4_restsIn_204 rfl (by decide) H
          replace H := H.2 c1
          rcases Classical.em ((h.1 14 i0 x2.toNatClampNeg) = 3) with c2 | c2
          · replace H := H.1 c2
            refine zt_tabIn (tgt := 205) kX4_restsIn_93 (by rw [c2]; decide) (by rw [c2]; decide) (by rw [c2]; rfl) (by decide) ?_
            refine zt_iload_n kX4_restsIn_205 rfl ?_
            refine zt_aload_n kX4_restsIn_206 rfl ?_
            refine zt_get (v := zi (h.1 2 i0 8)) kX4_restsIn_207 fRX4_37 rfl hi0 rfl ?_
            refine zt_iand kX4_restsIn_210 ?_
            refine zt_bes kX4_restsIn_211 wn_298 ?_
            refine zt_iload_n kX4_restsIn_214 rfl ?_
            obtain ⟨hv, H⟩ := H
            refine zt_besld kX4_restsIn_215 hv ?_
            refine zt_iand kX4_restsIn_216 ?_
            refine zt_if_eq kX4_restsIn_217 (fun c => ?_) (fun c => ?_)
            · replace H := H.1 c
              refine zt_iconst (v := 0) kX4_restsIn_224 rfl ?_
              exact zt_zret kX4_restsIn_225 rfl (by decide) H
            · replace H := H.2 c
              refine zt_iconst (v := 1) kX4_restsIn_220 rfl ?_
              refine zt_goto kX4_restsIn_221 ?_
              exact zt_zret kX4_restsIn_225 rfl (by decide) H
          replace H := H.2 c2
          refine zt_tabOut (tgt := 226) kX4_restsIn_93 (by have n0 := lv_neT (a := 1) c0 rfl; have n1 := lv_neT (a := 2) c1 rfl; have n2 := lv_neT (a := 3) c2 rfl; omega) (by decide) ?_
          refine zt_iconst (v := 0) kX4_restsIn_226 rfl ?_
          exact zt_zret kX4_restsIn_227 rfl (by decide) H
        · replace H := H.2 c
          refine zt_iload_n kX4_restsIn_70 rfl ?_
          refine zt_iload_n kX4_restsIn_71 rfl ?_
          refine zt_iconst (v := 1) kX4_restsIn_72 rfl ?_
          refine zt_iadd kX4_restsIn_73 ?_
          refine zt_ishr kX4_restsIn_74 ?_
          refine zt_iconst (v := 1) kX4_restsIn_75 rfl ?_
          refine zt_iand kX4_restsIn_76 ?_
          refine zt_if_eq kX4_restsIn_77 (fun c => ?_) (fun c => ?_)
          · replace H := H.1 c
            refine zt_iconst (v := 0) kX4_restsIn_84 rfl ?_
            refine zt_istore (L' := [zr 2 i0, zi x1, zi x2, zi (x2 - 4), zi y1, zi 1, zi 0]) kX4_restsIn_85 (by decide) rfl ?_
            refine zt_aload_n kX4_restsIn_87 rfl ?_
            refine zt_get (v := zr 14 i0) kX4_restsIn_88 fRX4_24 rfl hi0 rfl ?_
            refine zt_iload_n kX4_restsIn_91 rfl ?_
            obtain ⟨hv, H⟩ := H
            refine zt_iald kX4_restsIn_92 rfl hi0 hv ?_
            rcases Classical.em ((h.1 14 i0 x2.toNatClampNeg) = 1) with c0 | c0
            · replace H := H.1 c0
              refine zt_tabIn (tgt := 120) kX4_restsIn_93 (by rw [c0]; decide) (by rw [c0]; decide) (by rw [c0]; rfl) (by decide) ?_
              refine zt_iload kX4_restsIn_120 rfl ?_
              refine zt_if_eq kX4_restsIn_122 (fun c => absurd c (by decide)) (fun _ => ?_)
              refine zt_iload kX4_restsIn_125 rfl ?_
              refine zt_if_ne kX4_restsIn_127 (fun c => absurd c (by decide)) (fun _ => ?_)
              refine zt_iconst (v := 0) kX4_restsIn_130 rfl ?_
              exact zt_zret kX4_restsIn_131 rfl (by decide) H
            replace H := H.2 c0
            rcases Classical.em ((h.1 14 i0 x2.toNatClampNeg) = 2) with c1 | c1
            · replace H := H.1 c1
              refine zt_tabIn (tgt := 167) kX4_restsIn_93 (by rw [c1]; decide) (by rw [c1]; decide) (by rw [c1]; rfl) (by decide) ?_
              refine zt_iload kX4_restsIn_167 rfl ?_
              refine zt_if_ne kX4_restsIn_169 (fun _ => ?_) (fun c => absurd c (by decide))
              refine zt_aload_n kX4_restsIn_179 rfl ?_
              refine zt_get (v := zr 15 i0) kX4_restsIn_180 fRX4_27 rfl hi0 rfl ?_
              refine zt_iload kX4_restsIn_183 rfl ?_
              refine zt_if_eq kX4_restsIn_185 (fun c => absurd c (by decide)) (fun _ => ?_)
              refine zt_iload_n kX4_restsIn_188 rfl ?_
              refine zt_iconst (v := 1) kX4_restsIn_189 rfl ?_
              refine zt_isub kX4_restsIn_190 ?_
              refine zt_goto kX4_restsIn_191 ?_
              refine zt_dup2 kX4_restsIn_197 (by intro x q; cases q) (by intro x q; cases q) ?_
              obtain ⟨hv, H⟩ := H
              refine zt_iald kX4_restsIn_198 rfl hi0 hv ?_
              refine zt_iload kX4_restsIn_199 rfl ?_
              refine zt_iadd kX4_restsIn_201 ?_
              obtain ⟨hv, H⟩ := H
              refine zt_iast kX4_restsIn_202 rfl hi0 hv ?_
              refine zt_heap (fun h5 eh5 => ?_)
              replace H := H h5 eh5
              refine zt_iconst (v := 1) kX4_restsIn_203 rfl ?_
              exact zt_zret kX4_restsIn_204 rfl (by decide) H
            replace H := H.2 c1
            rcases Classical.em ((h.1 14 i0 x2.toNatClampNeg) = 3) with c2 | c2
            · replace H := H.1 c2
              refine zt_tabIn (tgt := 205) kX4_restsIn_93 (by rw [c2]; decide) (by rw [c2]; decide) (by rw [c2]; rfl) (by decide) ?_
              refine zt_iload_n kX4_restsIn_205 rfl ?_
              refine zt_aload_n kX4_restsIn_206 rfl ?_
              refine zt_get (v := zi (h.1 2 i0 8)) kX4_restsIn_207 fRX4_37 rfl hi0 rfl ?_
              refine zt_iand kX4_restsIn_210 ?_
              refine zt_bes kX4_restsIn_211 wn_298 ?_
              refine zt_iload_n kX4_restsIn_214 rfl ?_
              obtain ⟨hv, H⟩ := H
              refine zt_besld kX4_restsIn_215 hv ?_
              refine zt_iand kX4_restsIn_216 ?_
              refine zt_if_eq kX4_restsIn_217 (fun c => ?_) (fun c => ?_)
              · replace H := H.1 c
                refine zt_iconst (v := 0) kX4_restsIn_224 rfl ?_
                exact zt_zret kX4_restsIn_225 rfl (by decide) H
              · replace H := H.2 c
                refine zt_iconst (v := 1) kX4_restsIn_220 rfl ?_
                refine zt_goto kX4_restsIn_221 ?_
                exact zt_zret kX4_restsIn_225 rfl (by decide) H
            replace H := H.2 c2
            refine zt_tabOut (tgt := 226) kX4_restsIn_93 (by have n0 := lv_neT (a := 1) c0 rfl; have n1 := lv_neT (a := 2) c1 rfl; have n2 := lv_neT (a := 3) c2 rfl; omega) (by decide) ?_
            refine zt_iconst (v := 0) kX4_restsIn_226 rfl ?_
            exact zt_zret kX4_restsIn_227 rfl (by decide) H
          · replace H := H.2 c
            refine zt_iconst (v := 1) kX4_restsIn_80 rfl ?_
            refine zt_goto kX4_restsIn_81 ?_
            refine zt_istore (L' := [zr 2 i0, zi x1, zi x2, zi (x2 - 4), zi y1, zi 1, zi 1]) kX4_restsIn_85 (by decide) rfl ?_
            refine zt_aload_n kX4_restsIn_87 rfl ?_
            refine zt_get (v := zr 14 i0) kX4_restsIn_88 fRX4_24 rfl hi0 rfl ?_
            refine zt_iload_n kX4_restsIn_91 rfl ?_
            obtain ⟨hv, H⟩ := H
            refine zt_iald kX4_restsIn_92 rfl hi0 hv ?_
            rcases Classical.em ((h.1 14 i0 x2.toNatClampNeg) = 1) with c0 | c0
            · replace H := H.1 c0
              refine zt_tabIn (tgt := 120) kX4_restsIn_93 (by rw [c0]; decide) (by rw [c0]; decide) (by rw [c0]; rfl) (by decide) ?_
              refine zt_iload kX4_restsIn_120 rfl ?_
              refine zt_if_eq kX4_restsIn_122 (fun c => absurd c (by decide)) (fun _ => ?_)
              refine zt_iload kX4_restsIn_125 rfl ?_
              refine zt_if_ne kX4_restsIn_127 (fun _ => ?_) (fun c => absurd c (by decide))
              refine zt_aload_n kX4_restsIn_132 rfl ?_
              refine zt_get (v := zr 15 i0) kX4_restsIn_133 fRX4_27 rfl hi0 rfl ?_
              refine zt_iload_n kX4_restsIn_136 rfl ?_
              refine zt_iconst (v := 1) kX4_restsIn_137 rfl ?_
              refine zt_isub kX4_restsIn_138 ?_
              refine zt_dup2 kX4_restsIn_139 (by intro x q; cases q) (by intro x q; cases q) ?_
              obtain ⟨hv, H⟩ := H
              refine zt_iald kX4_restsIn_140 rfl hi0 hv ?_
              refine zt_iload kX4_restsIn_141 rfl ?_
              refine zt_iconst (v := 2) kX4_restsIn_143 rfl ?_
              refine zt_idiv kX4_restsIn_144 (by decide) ?_
              refine zt_iadd kX4_restsIn_145 ?_
              obtain ⟨hv, H⟩ := H
              refine zt_iast kX4_restsIn_146 rfl hi0 hv ?_
              refine zt_heap (fun h6 eh6 => ?_)
              replace H := H h6 eh6
              refine zt_aload_n kX4_restsIn_147 rfl ?_
              refine zt_get (v := zr 15 i0) kX4_restsIn_148 fRX4_27 rfl hi0 rfl ?_
              refine zt_iload_n kX4_restsIn_151 rfl ?_
              refine zt_iconst (v := 1) kX4_restsIn_152 rfl ?_
              refine zt_iadd kX4_restsIn_153 ?_
              refine zt_dup2 kX4_restsIn_154 (by intro x q; cases q) (by intro x q; cases q) ?_
              obtain ⟨hv, H⟩ := H
              refine zt_iald kX4_restsIn_155 rfl hi0 hv ?_
              refine zt_iload kX4_restsIn_156 rfl ?_
              refine zt_iload kX4_restsIn_158 rfl ?_
              refine zt_iconst (v := 2) kX4_restsIn_160 rfl ?_
              refine zt_idiv kX4_restsIn_161 (by decide) ?_
              refine zt_isub kX4_restsIn_162 ?_
              refine zt_iadd kX4_restsIn_163 ?_
              obtain ⟨hv, H⟩ := H
              refine zt_iast kX4_restsIn_164 rfl hi0 hv ?_
              refine zt_heap (fun h7 eh7 => ?_)
              replace H := H h7 eh7
              refine zt_iconst (v := 1) kX4_restsIn_165 rfl ?_
              exact zt_zret kX4_restsIn_166 rfl (by decide) H
            replace H := H.2 c0
            rcases Classical.em ((h.1 14 i0 x2.toNatClampNeg) = 2) with c1 | c1
            · replace H := H.1 c1
              refine zt_tabIn (tgt := 167) kX4_restsIn_93 (by rw [c1]; decide) (by rw [c1]; decide) (by rw [c1]; rfl) (by decide) ?_
              refine zt_iload kX4_restsIn_167 rfl ?_
              refine zt_if_ne kX4_restsIn_169 (fun _ => ?_) (fun c => absurd c (by decide))
              refine zt_aload_n kX4_restsIn_179 rfl ?_
              refine zt_get (v := zr 15 i0) kX4_restsIn_180 fRX4_27 rfl hi0 rfl ?_
              refine zt_iload kX4_restsIn_183 rfl ?_
              refine zt_if_eq kX4_restsIn_185 (fun c => absurd c (by decide)) (fun _ => ?_)
              refine zt_iload_n kX4_restsIn_188 rfl ?_
              refine zt_iconst (v := 1) kX4_restsIn_189 rfl ?_
              refine zt_isub kX4_restsIn_190 ?_
              refine zt_goto kX4_restsIn_191 ?_
              refine zt_dup2 kX4_restsIn_197 (by intro x q; cases q) (by intro x q; cases q) ?_
              obtain ⟨hv, H⟩ := H
              refine zt_iald kX4_restsIn_198 rfl hi0 hv ?_
              refine zt_iload kX4_restsIn_199 rfl ?_
              refine zt_iadd kX4_restsIn_201 ?_
              obtain ⟨hv, H⟩ := H
              refine zt_iast kX4_restsIn_202 rfl hi0 hv ?_
              refine zt_heap (fun h8 eh8 => ?_)
              replace H := H h8 eh8
              refine zt_iconst (v := 1) kX4_restsIn_203 rfl ?_
              exact zt_zret kX4_restsIn_204 rfl (by decide) H
            replace H := H.2 c1
            rcases Classical.em ((h.1 14 i0 x2.toNatClampNeg) = 3) with c2 | c2
            · replace H := H.1 c2
              refine zt_tabIn (tgt := 205) kX4_restsIn_93 (by rw [c2]; decide) (by rw [c2]; decide) (by rw [c2]; rfl) (by decide) ?_
              refine zt_iload_n kX4_restsIn_205 rfl ?_
              refine zt_aload_n kX4_restsIn_206 rfl ?_
              refine zt_get (v := zi (h.1 2 i0 8)) kX4_restsIn_207 fRX4_37 rfl hi0 rfl ?_
              refine zt_iand kX4_restsIn_210 ?_
              refine zt_bes kX4_restsIn_211 wn_298 ?_
              refine zt_iload_n kX4_restsIn_214 rfl ?_
              obtain ⟨hv, H⟩ := H
              refine zt_besld kX4_restsIn_215 hv ?_
              refine zt_iand kX4_restsIn_216 ?_
              refine zt_if_eq kX4_restsIn_217 (fun c => ?_) (fun c => ?_)
              · replace H := H.1 c
                refine zt_iconst (v := 0) kX4_restsIn_224 rfl ?_
                exact zt_zret kX4_restsIn_225 rfl (by decide) H
              · replace H := H.2 c
                refine zt_iconst (v := 1) kX4_restsIn_220 rfl ?_
                refine zt_goto kX4_restsIn_221 ?_
                exact zt_zret kX4_restsIn_225 rfl (by decide) H
            replace H := H.2 c2
            refine zt_tabOut (tgt := 226) kX4_restsIn_93 (by have n0 := lv_neT (a := 1) c0 rfl; have n1 := lv_neT (a := 2) c1 rfl; have n2 := lv_neT (a := 3) c2 rfl; omega) (by decide) ?_
            refine zt_iconst (v := 0) kX4_restsIn_226 rfl ?_
            exact zt_zret kX4_restsIn_227 rfl (by decide) H
  · replace H := H.2 c
    refine zt_aload_n kX4_restsIn_27 rfl ?_
    refine zt_get (v := zr 15 i0) kX4_restsIn_28 fRX4_27 rfl hi0 rfl ?_
    refine zt_iload_n kX4_restsIn_31 rfl ?_
    refine zt_dup2 kX4_restsIn_32 (by intro x q; cases q) (by intro x q; cases q) ?_
    obtain ⟨hv, H⟩ := H
    refine zt_iald kX4_restsIn_33 rfl hi0 hv ?_
    refine zt_iload kX4_restsIn_34 rfl ?_
    refine zt_iadd kX4_restsIn_36 ?_
    obtain ⟨hv, H⟩ := H
    refine zt_iast kX4_restsIn_37 rfl hi0 hv ?_
    refine zt_heap (fun h9 eh9 => ?_)
    replace H := H h9 eh9
    refine zt_iconst (v := 1) kX4_restsIn_38 rfl ?_
    exact zt_zret kX4_restsIn_39 rfl (by decide) H

theorem kX4_looseIn_0 : zD cX4_looseIn 0 1 (.aload_n 0) 1 := by decide +kernel
theorem kX4_looseIn_1 : zD cX4_looseIn 1 4 (.getfield 27) 3 := by decide +kernel
theorem kX4_looseIn_4 : zD cX4_looseIn 4 5 (.iconst 0) 1 := by decide +kernel
theorem kX4_looseIn_5 : zD cX4_looseIn 5 8 (.invokestatic 80) 3 := by decide +kernel
theorem kX4_looseIn_8 : zD cX4_looseIn 8 9 (.iconst 0) 1 := by decide +kernel
theorem kX4_looseIn_9 : zD cX4_looseIn 9 10 (.istore_n 3) 1 := by decide +kernel
theorem kX4_looseIn_10 : zD cX4_looseIn 10 12 (.bipush 11) 2 := by decide +kernel
theorem kX4_looseIn_12 : zD cX4_looseIn 12 14 (.istore 4) 2 := by decide +kernel
theorem kX4_looseIn_14 : zD cX4_looseIn 14 16 (.iload 4) 2 := by decide +kernel
theorem kX4_looseIn_16 : zB cX4_looseIn 16 19 98 (.ifCond .lt 82) 82 := by decide +kernel
theorem kX4_looseIn_19 : zD cX4_looseIn 19 20 (.iconst 1) 1 := by decide +kernel
theorem kX4_looseIn_20 : zD cX4_looseIn 20 22 (.iload 4) 2 := by decide +kernel
theorem kX4_looseIn_22 : zD cX4_looseIn 22 23 (.ishl) 1 := by decide +kernel
theorem kX4_looseIn_23 : zD cX4_looseIn 23 25 (.istore 5) 2 := by decide +kernel
theorem kX4_looseIn_25 : zD cX4_looseIn 25 26 (.iload_n 1) 1 := by decide +kernel
theorem kX4_looseIn_26 : zD cX4_looseIn 26 28 (.iload 5) 2 := by decide +kernel
theorem kX4_looseIn_28 : zD cX4_looseIn 28 29 (.iand) 1 := by decide +kernel
theorem kX4_looseIn_29 : zB cX4_looseIn 29 32 35 (.ifCond .ne 6) 6 := by decide +kernel
theorem kX4_looseIn_32 : zB cX4_looseIn 32 35 92 (.goto 60) 60 := by decide +kernel
theorem kX4_looseIn_35 : zD cX4_looseIn 35 37 (.iload 4) 2 := by decide +kernel
theorem kX4_looseIn_37 : zD cX4_looseIn 37 38 (.iconst 4) 1 := by decide +kernel
theorem kX4_looseIn_38 : zB cX4_looseIn 38 41 58 (.if_icmp .lt 20) 20 := by decide +kernel
theorem kX4_looseIn_41 : zD cX4_looseIn 41 42 (.iload_n 2) 1 := by decide +kernel
theorem kX4_looseIn_42 : zD cX4_looseIn 42 44 (.iload 5) 2 := by decide +kernel
theorem kX4_looseIn_44 : zD cX4_looseIn 44 45 (.iand) 1 := by decide +kernel
theorem kX4_looseIn_45 : zB cX4_looseIn 45 48 58 (.ifCond .ne 13) 13 := by decide +kernel
theorem kX4_looseIn_48 : zD cX4_looseIn 48 49 (.aload_n 0) 1 := by decide +kernel
theorem kX4_looseIn_49 : zD cX4_looseIn 49 50 (.iload_n 1) 1 := by decide +kernel
theorem kX4_looseIn_50 : zD cX4_looseIn 50 52 (.iload 4) 2 := by decide +kernel
theorem kX4_looseIn_52 : zD cX4_looseIn 52 55 (.invokevirtual 86) 3 := by decide +kernel
theorem kX4_looseIn_55 : zB cX4_looseIn 55 58 62 (.ifCond .eq 7) 7 := by decide +kernel
theorem kX4_looseIn_58 : zD cX4_looseIn 58 59 (.iconst 1) 1 := by decide +kernel
theorem kX4_looseIn_59 : zB cX4_looseIn 59 62 63 (.goto 4) 4 := by decide +kernel
theorem kX4_looseIn_62 : zD cX4_looseIn 62 63 (.iconst 0) 1 := by decide +kernel
theorem kX4_looseIn_63 : zD cX4_looseIn 63 65 (.istore 6) 2 := by decide +kernel
theorem kX4_looseIn_65 : zD cX4_looseIn 65 67 (.iload 6) 2 := by decide +kernel
theorem kX4_looseIn_67 : zB cX4_looseIn 67 70 87 (.ifCond .eq 20) 20 := by decide +kernel
theorem kX4_looseIn_70 : zD cX4_looseIn 70 71 (.aload_n 0) 1 := by decide +kernel
theorem kX4_looseIn_71 : zD cX4_looseIn 71 74 (.getfield 27) 3 := by decide +kernel
theorem kX4_looseIn_74 : zD cX4_looseIn 74 76 (.iload 4) 2 := by decide +kernel
theorem kX4_looseIn_76 : zD cX4_looseIn 76 77 (.iaload) 1 := by decide +kernel
theorem kX4_looseIn_77 : zD cX4_looseIn 77 78 (.aload_n 0) 1 := by decide +kernel
theorem kX4_looseIn_78 : zD cX4_looseIn 78 81 (.getfield 21) 3 := by decide +kernel
theorem kX4_looseIn_81 : zD cX4_looseIn 81 83 (.iload 4) 2 := by decide +kernel
theorem kX4_looseIn_83 : zD cX4_looseIn 83 84 (.iaload) 1 := by decide +kernel
theorem kX4_looseIn_84 : zB cX4_looseIn 84 87 92 (.if_icmp .le 8) 8 := by decide +kernel
theorem kX4_looseIn_87 : zD cX4_looseIn 87 88 (.iload_n 3) 1 := by decide +kernel
theorem kX4_looseIn_88 : zD cX4_looseIn 88 90 (.iload 5) 2 := by decide +kernel
theorem kX4_looseIn_90 : zD cX4_looseIn 90 91 (.ior) 1 := by decide +kernel
theorem kX4_looseIn_91 : zD cX4_looseIn 91 92 (.istore_n 3) 1 := by decide +kernel
theorem kX4_looseIn_92 : zD cX4_looseIn 92 95 (.iinc 4 (-1)) 3 := by decide +kernel
theorem kX4_looseIn_95 : zB cX4_looseIn 95 98 14 (.goto (-81)) (-81) := by decide +kernel
theorem kX4_looseIn_98 : zD cX4_looseIn 98 99 (.iload_n 3) 1 := by decide +kernel
theorem kX4_looseIn_99 : zD cX4_looseIn 99 100 (.ireturn) 1 := by decide +kernel
set_option maxRecDepth 10000 in
theorem wX4_looseIn_0 {G : ZG} {d : Nat} {h : ZH} {Q : Option ZV → ZH → Prop} {i0 : Nat} {x1 : Int32} {x2 : Int32} (hi0 : i0 < zcnt 2)
  (H : zC G (d + 1) mJ7_fill_53178 [zr 15 i0, zi 0] h (fun r2 h1 => r2 = none ∧ zT G (d + 2) mX4_looseIn 14 [zr 2 i0, zi x1, zi x2, zi 0, zi 11, zu, zu] [] h1 Q)) :
  zT G (d + 2) mX4_looseIn 0 [zr 2 i0, zi x1, zi x2, zu, zu, zu, zu] [] h Q := by
  refine zt_aload_n kX4_looseIn_0 rfl ?_
  refine zt_get (v := zr 15 i0) kX4_looseIn_1 fRX4_27 rfl hi0 rfl ?_
  refine zt_iconst (v := 0) kX4_looseIn_4 rfl ?_
  refine zt_cS (as := [zr 15 i0, zi 0]) kX4_looseIn_5 sRX4_80 rfl (by simp) rfl H (fun r2 h1 H => ?_)
  obtain ⟨rfl, H⟩ := H
  refine zt_iconst (v := 0) kX4_looseIn_8 rfl ?_
  refine zt_istore_n (L' := [zr 2 i0, zi x1, zi x2, zi 0, zu, zu, zu]) kX4_looseIn_9 (by decide) rfl ?_
  refine zt_bipush (v := 11) kX4_looseIn_10 rfl ?_
  refine zt_istore (L' := [zr 2 i0, zi x1, zi x2, zi 0, zi 11, zu, zu]) kX4_looseIn_12 (by decide) rfl ?_
  exact H

set_option maxRecDepth 10000 in
theorem wX4_looseIn_14 {G : ZG} {d : Nat} {h : ZH} {Q : Option ZV → ZH → Prop} {i0 : Nat} {x1 : Int32} {x2 : Int32} {x3 : Int32} {x4 : Int32} (hi0 : i0 < zcnt 2)
  (H : (x4 < 0 → Q (some (zi x3)) h) ∧ (¬ x4 < 0 → (¬ (x1 &&& ((1 : Int32) <<< (x4 &&& 31))) = 0 → (x4 < 4 → vp_in x4 12 ∧ vp_in x4 12 ∧ ((h.1 15 i0 x4.toNatClampNeg) ≤ (h.1 13 i0 x4.toNatClampNeg) → zT G (d + 2) mX4_looseIn 14 [zr 2 i0, zi x1, zi x2, zi x3, zi (x4 + (-1)), zu, zu] [] h Q) ∧ (¬ (h.1 15 i0 x4.toNatClampNeg) ≤ (h.1 13 i0 x4.toNatClampNeg) → zT G (d + 2) mX4_looseIn 14 [zr 2 i0, zi x1, zi x2, zi (x3 ||| ((1 : Int32) <<< (x4 &&& 31))), zi (x4 + (-1)), zu, zu] [] h Q)) ∧ (¬ x4 < 4 → (¬ (x2 &&& ((1 : Int32) <<< (x4 &&& 31))) = 0 → vp_in x4 12 ∧ vp_in x4 12 ∧ ((h.1 15 i0 x4.toNatClampNeg) ≤ (h.1 13 i0 x4.toNatClampNeg) → zT G (d + 2) mX4_looseIn 14 [zr 2 i0, zi x1, zi x2, zi x3, zi (x4 + (-1)), zu, zu] [] h Q) ∧ (¬ (h.1 15 i0 x4.toNatClampNeg) ≤ (h.1 13 i0 x4.toNatClampNeg) → zT G (d + 2) mX4_looseIn 14 [zr 2 i0, zi x1, zi x2, zi (x3 ||| ((1 : Int32) <<< (x4 &&& 31))), zi (x4 + (-1)), zu, zu] [] h Q)) ∧ ((x2 &&& ((1 : Int32) <<< (x4 &&& 31))) = 0 → zC G (d + 1) mX4_restsIn [zr 2 i0, zi x1, zi x4] h (fun r2 h1 => ∃ y3 : Int32, r2 = some (zi y3) ∧ (y3 = 0 → zT G (d + 2) mX4_looseIn 14 [zr 2 i0, zi x1, zi x2, zi (x3 ||| ((1 : Int32) <<< (x4 &&& 31))), zi (x4 + (-1)), zu, zu] [] h1 Q) ∧ (¬ y3 = 0 → vp_in x4 12 ∧ vp_in x4 12 ∧ ((h1.1 15 i0 x4.toNatClampNeg) ≤ (h1.1 13 i0 x4.toNatClampNeg) → zT G (d + 2) mX4_looseIn 14 [zr 2 i0, zi x1, zi x2, zi x3, zi (x4 + (-1)), zu, zu] [] h1 Q) ∧ (¬ (h1.1 15 i0 x4.toNatClampNeg) ≤ (h1.1 13 i0 x4.toNatClampNeg) → zT G (d + 2) mX4_looseIn 14 [zr 2 i0, zi x1, zi x2, zi (x3 ||| ((1 : Int32) <<< (x4 &&& 31))), zi (x4 + (-1)), zu, zu] [] h1 Q)))))) ∧ ((x1 &&& ((1 : Int32) <<< (x4 &&& 31))) = 0 → zT G (d + 2) mX4_looseIn 14 [zr 2 i0, zi x1, zi x2, zi x3, zi (x4 + (-1)), zu, zu] [] h Q))) :
  zT G (d + 2) mX4_looseIn 14 [zr 2 i0, zi x1, zi x2, zi x3, zi x4, zu, zu] [] h Q := by
  refine zt_iload kX4_looseIn_14 rfl ?_
  refine zt_if_lt kX4_looseIn_16 (fun c => ?_) (fun c => ?_)
  · replace H := H.1 c
    refine zt_iload_n kX4_looseIn_98 rfl ?_
    exact zt_iret kX4_looseIn_99 rfl H
  · replace H := H.2 c
    refine zt_iconst (v := 1) kX4_looseIn_19 rfl ?_
    refine zt_iload kX4_looseIn_20 rfl ?_
    refine zt_ishl kX4_looseIn_22 ?_
    refine zt_istore (L' := [zr 2 i0, zi x1, zi x2, zi x3, zi x4, zi ((1 : Int32) <<< (x4 &&& 31)), zu]) kX4_looseIn_23 (by decide) rfl ?_
    refine zt_iload_n kX4_looseIn_25 rfl ?_
    refine zt_iload kX4_looseIn_26 rfl ?_
    refine zt_iand kX4_looseIn_28 ?_
    refine zt_if_ne kX4_looseIn_29 (fun c => ?_) (fun c => ?_)
    · replace H := H.1 c
      refine zt_iload kX4_looseIn_35 rfl ?_
      refine zt_iconst (v := 4) kX4_looseIn_37 rfl ?_
      refine zt_icmp_lt kX4_looseIn_38 (fun c => ?_) (fun c => ?_)
      · replace H := H.1 c
        refine zt_iconst (v := 1) kX4_looseIn_58 rfl ?_
        refine zt_goto kX4_looseIn_59 ?_
        refine zt_istore (L' := [zr 2 i0, zi x1, zi x2, zi x3, zi x4, zi ((1 : Int32) <<< (x4 &&& 31)), zi 1]) kX4_looseIn_63 (by decide) rfl ?_
        refine zt_iload kX4_looseIn_65 rfl ?_
        refine zt_if_eq kX4_looseIn_67 (fun c => absurd c (by decide)) (fun _ => ?_)
        refine zt_aload_n kX4_looseIn_70 rfl ?_
        refine zt_get (v := zr 15 i0) kX4_looseIn_71 fRX4_27 rfl hi0 rfl ?_
        refine zt_iload kX4_looseIn_74 rfl ?_
        obtain ⟨hv, H⟩ := H
        refine zt_iald kX4_looseIn_76 rfl hi0 hv ?_
        refine zt_aload_n kX4_looseIn_77 rfl ?_
        refine zt_get (v := zr 13 i0) kX4_looseIn_78 fRX4_21 rfl hi0 rfl ?_
        refine zt_iload kX4_looseIn_81 rfl ?_
        obtain ⟨hv, H⟩ := H
        refine zt_iald kX4_looseIn_83 rfl hi0 hv ?_
        refine zt_icmp_le kX4_looseIn_84 (fun c => ?_) (fun c => ?_)
        · replace H := H.1 c
          refine zt_iinc (v := (x4 + (-1))) (L' := [zr 2 i0, zi x1, zi x2, zi x3, zi (x4 + (-1)), zi ((1 : Int32) <<< (x4 &&& 31)), zi 1]) kX4_looseIn_92 rfl rfl (by decide) rfl ?_
          refine zt_goto kX4_looseIn_95 ?_
          exact zt_sub [zr 2 i0, zi x1, zi x2, zi x3, zi (x4 + (-1)), zu, zu] ⟨rfl, ⟨rfl, ⟨rfl, ⟨rfl, ⟨rfl, trivial⟩⟩⟩⟩⟩ H
        · replace H := H.2 c
          refine zt_iload_n kX4_looseIn_87 rfl ?_
          refine zt_iload kX4_looseIn_88 rfl ?_
          refine zt_ior kX4_looseIn_90 ?_
          refine zt_istore_n (L' := [zr 2 i0, zi x1, zi x2, zi (x3 ||| ((1 : Int32) <<< (x4 &&& 31))), zi x4, zi ((1 : Int32) <<< (x4 &&& 31)), zi 1]) kX4_looseIn_91 (by decide) rfl ?_
          refine zt_iinc (v := (x4 + (-1))) (L' := [zr 2 i0, zi x1, zi x2, zi (x3 ||| ((1 : Int32) <<< (x4 &&& 31))), zi (x4 + (-1)), zi ((1 : Int32) <<< (x4 &&& 31)), zi 1]) kX4_looseIn_92 rfl rfl (by decide) rfl ?_
          refine zt_goto kX4_looseIn_95 ?_
          exact zt_sub [zr 2 i0, zi x1, zi x2, zi (x3 ||| ((1 : Int32) <<< (x4 &&& 31))), zi (x4 + (-1)), zu, zu] ⟨rfl, ⟨rfl, ⟨rfl, ⟨rfl, ⟨rfl, trivial⟩⟩⟩⟩⟩ H
      · replace H := H.2 c
        refine zt_iload_n kX4_looseIn_41 rfl ?_
        refine zt_iload kX4_looseIn_42 rfl ?_
        refine zt_iand kX4_looseIn_44 ?_
        refine zt_if_ne kX4_looseIn_45 (fun c => ?_) (fun c => ?_)
        · replace H := H.1 c
          refine zt_iconst (v := 1) kX4_looseIn_58 rfl ?_
          refine zt_goto kX4_looseIn_59 ?_
          refine zt_istore (L' := [zr 2 i0, zi x1, zi x2, zi x3, zi x4, zi ((1 : Int32) <<< (x4 &&& 31)), zi 1]) kX4_looseIn_63 (by decide) rfl ?_
          refine zt_iload kX4_looseIn_65 rfl ?_
          refine zt_if_eq kX4_looseIn_67 (fun c => absurd c (by decide)) (fun _ => ?_)
          refine zt_aload_n kX4_looseIn_70 rfl ?_
          refine zt_get (v := zr 15 i0) kX4_looseIn_71 fRX4_27 rfl hi0 rfl ?_
          refine zt_iload kX4_looseIn_74 rfl ?_
          obtain ⟨hv, H⟩ := H
          refine zt_iald kX4_looseIn_76 rfl hi0 hv ?_
          refine zt_aload_n kX4_looseIn_77 rfl ?_
          refine zt_get (v := zr 13 i0) kX4_looseIn_78 fRX4_21 rfl hi0 rfl ?_
          refine zt_iload kX4_looseIn_81 rfl ?_
          obtain ⟨hv, H⟩ := H
          refine zt_iald kX4_looseIn_83 rfl hi0 hv ?_
          refine zt_icmp_le kX4_looseIn_84 (fun c => ?_) (fun c => ?_)
          · replace H := H.1 c
            refine zt_iinc (v := (x4 + (-1))) (L' := [zr 2 i0, zi x1, zi x2, zi x3, zi (x4 + (-1)), zi ((1 : Int32) <<< (x4 &&& 31)), zi 1]) kX4_looseIn_92 rfl rfl (by decide) rfl ?_
            refine zt_goto kX4_looseIn_95 ?_
            exact zt_sub [zr 2 i0, zi x1, zi x2, zi x3, zi (x4 + (-1)), zu, zu] ⟨rfl, ⟨rfl, ⟨rfl, ⟨rfl, ⟨rfl, trivial⟩⟩⟩⟩⟩ H
          · replace H := H.2 c
            refine zt_iload_n kX4_looseIn_87 rfl ?_
            refine zt_iload kX4_looseIn_88 rfl ?_
            refine zt_ior kX4_looseIn_90 ?_
            refine zt_istore_n (L' := [zr 2 i0, zi x1, zi x2, zi (x3 ||| ((1 : Int32) <<< (x4 &&& 31))), zi x4, zi ((1 : Int32) <<< (x4 &&& 31)), zi 1]) kX4_looseIn_91 (by decide) rfl ?_
            refine zt_iinc (v := (x4 + (-1))) (L' := [zr 2 i0, zi x1, zi x2, zi (x3 ||| ((1 : Int32) <<< (x4 &&& 31))), zi (x4 + (-1)), zi ((1 : Int32) <<< (x4 &&& 31)), zi 1]) kX4_looseIn_92 rfl rfl (by decide) rfl ?_
            refine zt_goto kX4_looseIn_95 ?_
            exact zt_sub [zr 2 i0, zi x1, zi x2, zi (x3 ||| ((1 : Int32) <<< (x4 &&& 31))), zi (x4 + (-1)), zu, zu] ⟨rfl, ⟨rfl, ⟨rfl, ⟨rfl, ⟨rfl, trivial⟩⟩⟩⟩⟩ H
        · replace H := H.2 c
          refine zt_aload_n kX4_looseIn_48 rfl ?_
          refine zt_iload_n kX4_looseIn_49 rfl ?_
          refine zt_iload kX4_looseIn_50 rfl ?_
          refine zt_cV (as := [zi x1, zi x4]) kX4_looseIn_52 sRX4_86 rfl hi0 rfl (by simp) rfl H (fun r2 h1 H => ?_)
          obtain ⟨y3, rfl, H⟩ := H
          refine zt_if_eq kX4_looseIn_55 (fun c => ?_) (fun c => ?_)
          · replace H := H.1 c
            refine zt_iconst (v := 0) kX4_looseIn_62 rfl ?_
            refine zt_istore (L' := [zr 2 i0, zi x1, zi x2, zi x3, zi x4, zi ((1 : Int32) <<< (x4 &&& 31)), zi 0]) kX4_looseIn_63 (by decide) rfl ?_
            refine zt_iload kX4_looseIn_65 rfl ?_
            refine zt_if_eq kX4_looseIn_67 (fun _ => ?_) (fun c => absurd c (by decide))
            refine zt_iload_n kX4_looseIn_87 rfl ?_
            refine zt_iload kX4_looseIn_88 rfl ?_
            refine zt_ior kX4_looseIn_90 ?_
            refine zt_istore_n (L' := [zr 2 i0, zi x1, zi x2, zi (x3 ||| ((1 : Int32) <<< (x4 &&& 31))), zi x4, zi ((1 : Int32) <<< (x4 &&& 31)), zi 0]) kX4_looseIn_91 (by decide) rfl ?_
            refine zt_iinc (v := (x4 + (-1))) (L' := [zr 2 i0, zi x1, zi x2, zi (x3 ||| ((1 : Int32) <<< (x4 &&& 31))), zi (x4 + (-1)), zi ((1 : Int32) <<< (x4 &&& 31)), zi 0]) kX4_looseIn_92 rfl rfl (by decide) rfl ?_
            refine zt_goto kX4_looseIn_95 ?_
            exact zt_sub [zr 2 i0, zi x1, zi x2, zi (x3 ||| ((1 : Int32) <<< (x4 &&& 31))), zi (x4 + (-1)), zu, zu] ⟨rfl, ⟨rfl, ⟨rfl, ⟨rfl, ⟨rfl, trivial⟩⟩⟩⟩⟩ H
          · replace H := H.2 c
            refine zt_iconst (v := 1) kX4_looseIn_58 rfl ?_
            refine zt_goto kX4_looseIn_59 ?_
            refine zt_istore (L' := [zr 2 i0, zi x1, zi x2, zi x3, zi x4, zi ((1 : Int32) <<< (x4 &&& 31)), zi 1]) kX4_looseIn_63 (by decide) rfl ?_
            refine zt_iload kX4_looseIn_65 rfl ?_
            refine zt_if_eq kX4_looseIn_67 (fun c => absurd c (by decide)) (fun _ => ?_)
            refine zt_aload_n kX4_looseIn_70 rfl ?_
            refine zt_get (v := zr 15 i0) kX4_looseIn_71 fRX4_27 rfl hi0 rfl ?_
            refine zt_iload kX4_looseIn_74 rfl ?_
            obtain ⟨hv, H⟩ := H
            refine zt_iald kX4_looseIn_76 rfl hi0 hv ?_
            refine zt_aload_n kX4_looseIn_77 rfl ?_
            refine zt_get (v := zr 13 i0) kX4_looseIn_78 fRX4_21 rfl hi0 rfl ?_
            refine zt_iload kX4_looseIn_81 rfl ?_
            obtain ⟨hv, H⟩ := H
            refine zt_iald kX4_looseIn_83 rfl hi0 hv ?_
            refine zt_icmp_le kX4_looseIn_84 (fun c => ?_) (fun c => ?_)
            · replace H := H.1 c
              refine zt_iinc (v := (x4 + (-1))) (L' := [zr 2 i0, zi x1, zi x2, zi x3, zi (x4 + (-1)), zi ((1 : Int32) <<< (x4 &&& 31)), zi 1]) kX4_looseIn_92 rfl rfl (by decide) rfl ?_
              refine zt_goto kX4_looseIn_95 ?_
              exact zt_sub [zr 2 i0, zi x1, zi x2, zi x3, zi (x4 + (-1)), zu, zu] ⟨rfl, ⟨rfl, ⟨rfl, ⟨rfl, ⟨rfl, trivial⟩⟩⟩⟩⟩ H
            · replace H := H.2 c
              refine zt_iload_n kX4_looseIn_87 rfl ?_
              refine zt_iload kX4_looseIn_88 rfl ?_
              refine zt_ior kX4_looseIn_90 ?_
              refine zt_istore_n (L' := [zr 2 i0, zi x1, zi x2, zi (x3 ||| ((1 : Int32) <<< (x4 &&& 31))), zi x4, zi ((1 : Int32) <<< (x4 &&& 31)), zi 1]) kX4_looseIn_91 (by decide) rfl ?_
              refine zt_iinc (v := (x4 + (-1))) (L' := [zr 2 i0, zi x1, zi x2, zi (x3 ||| ((1 : Int32) <<< (x4 &&& 31))), zi (x4 + (-1)), zi ((1 : Int32) <<< (x4 &&& 31)), zi 1]) kX4_looseIn_92 rfl rfl (by decide) rfl ?_
              refine zt_goto kX4_looseIn_95 ?_
              exact zt_sub [zr 2 i0, zi x1, zi x2, zi (x3 ||| ((1 : Int32) <<< (x4 &&& 31))), zi (x4 + (-1)), zu, zu] ⟨rfl, ⟨rfl, ⟨rfl, ⟨rfl, ⟨rfl, trivial⟩⟩⟩⟩⟩ H
    · replace H := H.2 c
      refine zt_goto kX4_looseIn_32 ?_
      refine zt_iinc (v := (x4 + (-1))) (L' := [zr 2 i0, zi x1, zi x2, zi x3, zi (x4 + (-1)), zi ((1 : Int32) <<< (x4 &&& 31)), zu]) kX4_looseIn_92 rfl rfl (by decide) rfl ?_
      refine zt_goto kX4_looseIn_95 ?_
      exact zt_sub [zr 2 i0, zi x1, zi x2, zi x3, zi (x4 + (-1)), zu, zu] ⟨rfl, ⟨rfl, ⟨rfl, ⟨rfl, ⟨rfl, trivial⟩⟩⟩⟩⟩ H

theorem kX4_leftOf_0 : zD cX4_leftOf 0 1 (.iload_n 1) 1 := by decide +kernel
theorem kX4_leftOf_1 : zD cX4_leftOf 1 2 (.istore_n 2) 1 := by decide +kernel
theorem kX4_leftOf_2 : zD cX4_leftOf 2 3 (.iconst 0) 1 := by decide +kernel
theorem kX4_leftOf_3 : zD cX4_leftOf 3 4 (.istore_n 3) 1 := by decide +kernel
theorem kX4_leftOf_4 : zD cX4_leftOf 4 5 (.iload_n 3) 1 := by decide +kernel
theorem kX4_leftOf_5 : zD cX4_leftOf 5 7 (.bipush 12) 2 := by decide +kernel
theorem kX4_leftOf_7 : zB cX4_leftOf 7 10 41 (.if_icmp .gt 34) 34 := by decide +kernel
theorem kX4_leftOf_10 : zD cX4_leftOf 10 11 (.aload_n 0) 1 := by decide +kernel
theorem kX4_leftOf_11 : zD cX4_leftOf 11 12 (.iload_n 2) 1 := by decide +kernel
theorem kX4_leftOf_12 : zD cX4_leftOf 12 13 (.aload_n 0) 1 := by decide +kernel
theorem kX4_leftOf_13 : zD cX4_leftOf 13 16 (.getfield 34) 3 := by decide +kernel
theorem kX4_leftOf_16 : zD cX4_leftOf 16 19 (.invokevirtual 76) 3 := by decide +kernel
theorem kX4_leftOf_19 : zD cX4_leftOf 19 21 (.istore 4) 2 := by decide +kernel
theorem kX4_leftOf_21 : zD cX4_leftOf 21 23 (.iload 4) 2 := by decide +kernel
theorem kX4_leftOf_23 : zB cX4_leftOf 23 26 28 (.ifCond .ne 5) 5 := by decide +kernel
theorem kX4_leftOf_26 : zD cX4_leftOf 26 27 (.iload_n 2) 1 := by decide +kernel
theorem kX4_leftOf_27 : zD cX4_leftOf 27 28 (.ireturn) 1 := by decide +kernel
theorem kX4_leftOf_28 : zD cX4_leftOf 28 29 (.iload_n 2) 1 := by decide +kernel
theorem kX4_leftOf_29 : zD cX4_leftOf 29 31 (.iload 4) 2 := by decide +kernel
theorem kX4_leftOf_31 : zD cX4_leftOf 31 32 (.iconst (-1)) 1 := by decide +kernel
theorem kX4_leftOf_32 : zD cX4_leftOf 32 33 (.ixor) 1 := by decide +kernel
theorem kX4_leftOf_33 : zD cX4_leftOf 33 34 (.iand) 1 := by decide +kernel
theorem kX4_leftOf_34 : zD cX4_leftOf 34 35 (.istore_n 2) 1 := by decide +kernel
theorem kX4_leftOf_35 : zD cX4_leftOf 35 38 (.iinc 3 1) 3 := by decide +kernel
theorem kX4_leftOf_38 : zB cX4_leftOf 38 41 4 (.goto (-34)) (-34) := by decide +kernel
theorem kX4_leftOf_41 : zD cX4_leftOf 41 42 (.iload_n 2) 1 := by decide +kernel
theorem kX4_leftOf_42 : zD cX4_leftOf 42 43 (.ireturn) 1 := by decide +kernel
set_option maxRecDepth 10000 in
theorem wX4_leftOf_0 {G : ZG} {d : Nat} {h : ZH} {Q : Option ZV → ZH → Prop} {i0 : Nat} {x1 : Int32} (hi0 : i0 < zcnt 2)
  (H : zT G (d + 3) mX4_leftOf 4 [zr 2 i0, zi x1, zi x1, zi 0, zu] [] h Q) :
  zT G (d + 3) mX4_leftOf 0 [zr 2 i0, zi x1, zu, zu, zu] [] h Q := by
  refine zt_iload_n kX4_leftOf_0 rfl ?_
  refine zt_istore_n (L' := [zr 2 i0, zi x1, zi x1, zu, zu]) kX4_leftOf_1 (by decide) rfl ?_
  refine zt_iconst (v := 0) kX4_leftOf_2 rfl ?_
  refine zt_istore_n (L' := [zr 2 i0, zi x1, zi x1, zi 0, zu]) kX4_leftOf_3 (by decide) rfl ?_
  exact H

set_option maxRecDepth 10000 in
theorem wX4_leftOf_4 {G : ZG} {d : Nat} {h : ZH} {Q : Option ZV → ZH → Prop} {i0 : Nat} {x1 : Int32} {x2 : Int32} {x3 : Int32} (hi0 : i0 < zcnt 2)
  (H : (12 < x3 → Q (some (zi x2)) h) ∧ (¬ 12 < x3 → zC G (d + 2) mX4_looseIn [zr 2 i0, zi x2, zi (h.1 2 i0 7)] h (fun r2 h1 => ∃ y3 : Int32, r2 = some (zi y3) ∧ (¬ y3 = 0 → zT G (d + 3) mX4_leftOf 4 [zr 2 i0, zi x1, zi (x2 &&& (y3 ^^^ (-1))), zi (x3 + 1), zu] [] h1 Q) ∧ (y3 = 0 → Q (some (zi x2)) h1)))) :
  zT G (d + 3) mX4_leftOf 4 [zr 2 i0, zi x1, zi x2, zi x3, zu] [] h Q := by
  refine zt_iload_n kX4_leftOf_4 rfl ?_
  refine zt_bipush (v := 12) kX4_leftOf_5 rfl ?_
  refine zt_icmp_gt kX4_leftOf_7 (fun c => ?_) (fun c => ?_)
  · replace H := H.1 c
    refine zt_iload_n kX4_leftOf_41 rfl ?_
    exact zt_iret kX4_leftOf_42 rfl H
  · replace H := H.2 c
    refine zt_aload_n kX4_leftOf_10 rfl ?_
    refine zt_iload_n kX4_leftOf_11 rfl ?_
    refine zt_aload_n kX4_leftOf_12 rfl ?_
    refine zt_get (v := zi (h.1 2 i0 7)) kX4_leftOf_13 fRX4_34 rfl hi0 rfl ?_
    refine zt_cV (as := [zi x2, zi (h.1 2 i0 7)]) kX4_leftOf_16 sRX4_76 rfl hi0 rfl (by simp) rfl H (fun r2 h1 H => ?_)
    obtain ⟨y3, rfl, H⟩ := H
    refine zt_istore (L' := [zr 2 i0, zi x1, zi x2, zi x3, zi y3]) kX4_leftOf_19 (by decide) rfl ?_
    refine zt_iload kX4_leftOf_21 rfl ?_
    refine zt_if_ne kX4_leftOf_23 (fun c => ?_) (fun c => ?_)
    · replace H := H.1 c
      refine zt_iload_n kX4_leftOf_28 rfl ?_
      refine zt_iload kX4_leftOf_29 rfl ?_
      refine zt_iconst (v := (-1)) kX4_leftOf_31 rfl ?_
      refine zt_ixor kX4_leftOf_32 ?_
      refine zt_iand kX4_leftOf_33 ?_
      refine zt_istore_n (L' := [zr 2 i0, zi x1, zi (x2 &&& (y3 ^^^ (-1))), zi x3, zi y3]) kX4_leftOf_34 (by decide) rfl ?_
      refine zt_iinc (v := (x3 + 1)) (L' := [zr 2 i0, zi x1, zi (x2 &&& (y3 ^^^ (-1))), zi (x3 + 1), zi y3]) kX4_leftOf_35 rfl rfl (by decide) rfl ?_
      refine zt_goto kX4_leftOf_38 ?_
      exact zt_sub [zr 2 i0, zi x1, zi (x2 &&& (y3 ^^^ (-1))), zi (x3 + 1), zu] ⟨rfl, ⟨rfl, ⟨rfl, ⟨rfl, trivial⟩⟩⟩⟩ H
    · replace H := H.2 c
      refine zt_iload_n kX4_leftOf_26 rfl ?_
      exact zt_iret kX4_leftOf_27 rfl H

theorem kX4_stepsFrom_0 : zD cX4_stepsFrom 0 1 (.iload_n 1) 1 := by decide +kernel
theorem kX4_stepsFrom_1 : zD cX4_stepsFrom 1 2 (.istore_n 2) 1 := by decide +kernel
theorem kX4_stepsFrom_2 : zD cX4_stepsFrom 2 3 (.iconst 0) 1 := by decide +kernel
theorem kX4_stepsFrom_3 : zD cX4_stepsFrom 3 4 (.istore_n 3) 1 := by decide +kernel
theorem kX4_stepsFrom_4 : zD cX4_stepsFrom 4 5 (.iload_n 3) 1 := by decide +kernel
theorem kX4_stepsFrom_5 : zD cX4_stepsFrom 5 7 (.bipush 12) 2 := by decide +kernel
theorem kX4_stepsFrom_7 : zB cX4_stepsFrom 7 10 41 (.if_icmp .gt 34) 34 := by decide +kernel
theorem kX4_stepsFrom_10 : zD cX4_stepsFrom 10 11 (.aload_n 0) 1 := by decide +kernel
theorem kX4_stepsFrom_11 : zD cX4_stepsFrom 11 12 (.iload_n 2) 1 := by decide +kernel
theorem kX4_stepsFrom_12 : zD cX4_stepsFrom 12 13 (.aload_n 0) 1 := by decide +kernel
theorem kX4_stepsFrom_13 : zD cX4_stepsFrom 13 16 (.getfield 34) 3 := by decide +kernel
theorem kX4_stepsFrom_16 : zD cX4_stepsFrom 16 19 (.invokevirtual 76) 3 := by decide +kernel
theorem kX4_stepsFrom_19 : zD cX4_stepsFrom 19 21 (.istore 4) 2 := by decide +kernel
theorem kX4_stepsFrom_21 : zD cX4_stepsFrom 21 23 (.iload 4) 2 := by decide +kernel
theorem kX4_stepsFrom_23 : zB cX4_stepsFrom 23 26 28 (.ifCond .ne 5) 5 := by decide +kernel
theorem kX4_stepsFrom_26 : zD cX4_stepsFrom 26 27 (.iload_n 3) 1 := by decide +kernel
theorem kX4_stepsFrom_27 : zD cX4_stepsFrom 27 28 (.ireturn) 1 := by decide +kernel
theorem kX4_stepsFrom_28 : zD cX4_stepsFrom 28 29 (.iload_n 2) 1 := by decide +kernel
theorem kX4_stepsFrom_29 : zD cX4_stepsFrom 29 31 (.iload 4) 2 := by decide +kernel
theorem kX4_stepsFrom_31 : zD cX4_stepsFrom 31 32 (.iconst (-1)) 1 := by decide +kernel
theorem kX4_stepsFrom_32 : zD cX4_stepsFrom 32 33 (.ixor) 1 := by decide +kernel
theorem kX4_stepsFrom_33 : zD cX4_stepsFrom 33 34 (.iand) 1 := by decide +kernel
theorem kX4_stepsFrom_34 : zD cX4_stepsFrom 34 35 (.istore_n 2) 1 := by decide +kernel
theorem kX4_stepsFrom_35 : zD cX4_stepsFrom 35 38 (.iinc 3 1) 3 := by decide +kernel
theorem kX4_stepsFrom_38 : zB cX4_stepsFrom 38 41 4 (.goto (-34)) (-34) := by decide +kernel
theorem kX4_stepsFrom_41 : zD cX4_stepsFrom 41 43 (.bipush 12) 2 := by decide +kernel
theorem kX4_stepsFrom_43 : zD cX4_stepsFrom 43 44 (.ireturn) 1 := by decide +kernel
set_option maxRecDepth 10000 in
theorem wX4_stepsFrom_0 {G : ZG} {d : Nat} {h : ZH} {Q : Option ZV → ZH → Prop} {i0 : Nat} {x1 : Int32} (hi0 : i0 < zcnt 2)
  (H : zT G (d + 3) mX4_stepsFrom 4 [zr 2 i0, zi x1, zi x1, zi 0, zu] [] h Q) :
  zT G (d + 3) mX4_stepsFrom 0 [zr 2 i0, zi x1, zu, zu, zu] [] h Q := by
  refine zt_iload_n kX4_stepsFrom_0 rfl ?_
  refine zt_istore_n (L' := [zr 2 i0, zi x1, zi x1, zu, zu]) kX4_stepsFrom_1 (by decide) rfl ?_
  refine zt_iconst (v := 0) kX4_stepsFrom_2 rfl ?_
  refine zt_istore_n (L' := [zr 2 i0, zi x1, zi x1, zi 0, zu]) kX4_stepsFrom_3 (by decide) rfl ?_
  exact H

set_option maxRecDepth 10000 in
theorem wX4_stepsFrom_4 {G : ZG} {d : Nat} {h : ZH} {Q : Option ZV → ZH → Prop} {i0 : Nat} {x1 : Int32} {x2 : Int32} {x3 : Int32} (hi0 : i0 < zcnt 2)
  (H : (12 < x3 → Q (some (zi 12)) h) ∧ (¬ 12 < x3 → zC G (d + 2) mX4_looseIn [zr 2 i0, zi x2, zi (h.1 2 i0 7)] h (fun r2 h1 => ∃ y3 : Int32, r2 = some (zi y3) ∧ (¬ y3 = 0 → zT G (d + 3) mX4_stepsFrom 4 [zr 2 i0, zi x1, zi (x2 &&& (y3 ^^^ (-1))), zi (x3 + 1), zu] [] h1 Q) ∧ (y3 = 0 → Q (some (zi x3)) h1)))) :
  zT G (d + 3) mX4_stepsFrom 4 [zr 2 i0, zi x1, zi x2, zi x3, zu] [] h Q := by
  refine zt_iload_n kX4_stepsFrom_4 rfl ?_
  refine zt_bipush (v := 12) kX4_stepsFrom_5 rfl ?_
  refine zt_icmp_gt kX4_stepsFrom_7 (fun c => ?_) (fun c => ?_)
  · replace H := H.1 c
    refine zt_bipush (v := 12) kX4_stepsFrom_41 rfl ?_
    exact zt_iret kX4_stepsFrom_43 rfl H
  · replace H := H.2 c
    refine zt_aload_n kX4_stepsFrom_10 rfl ?_
    refine zt_iload_n kX4_stepsFrom_11 rfl ?_
    refine zt_aload_n kX4_stepsFrom_12 rfl ?_
    refine zt_get (v := zi (h.1 2 i0 7)) kX4_stepsFrom_13 fRX4_34 rfl hi0 rfl ?_
    refine zt_cV (as := [zi x2, zi (h.1 2 i0 7)]) kX4_stepsFrom_16 sRX4_76 rfl hi0 rfl (by simp) rfl H (fun r2 h1 H => ?_)
    obtain ⟨y3, rfl, H⟩ := H
    refine zt_istore (L' := [zr 2 i0, zi x1, zi x2, zi x3, zi y3]) kX4_stepsFrom_19 (by decide) rfl ?_
    refine zt_iload kX4_stepsFrom_21 rfl ?_
    refine zt_if_ne kX4_stepsFrom_23 (fun c => ?_) (fun c => ?_)
    · replace H := H.1 c
      refine zt_iload_n kX4_stepsFrom_28 rfl ?_
      refine zt_iload kX4_stepsFrom_29 rfl ?_
      refine zt_iconst (v := (-1)) kX4_stepsFrom_31 rfl ?_
      refine zt_ixor kX4_stepsFrom_32 ?_
      refine zt_iand kX4_stepsFrom_33 ?_
      refine zt_istore_n (L' := [zr 2 i0, zi x1, zi (x2 &&& (y3 ^^^ (-1))), zi x3, zi y3]) kX4_stepsFrom_34 (by decide) rfl ?_
      refine zt_iinc (v := (x3 + 1)) (L' := [zr 2 i0, zi x1, zi (x2 &&& (y3 ^^^ (-1))), zi (x3 + 1), zi y3]) kX4_stepsFrom_35 rfl rfl (by decide) rfl ?_
      refine zt_goto kX4_stepsFrom_38 ?_
      exact zt_sub [zr 2 i0, zi x1, zi (x2 &&& (y3 ^^^ (-1))), zi (x3 + 1), zu] ⟨rfl, ⟨rfl, ⟨rfl, ⟨rfl, trivial⟩⟩⟩⟩ H
    · replace H := H.2 c
      refine zt_iload_n kX4_stepsFrom_26 rfl ?_
      exact zt_iret kX4_stepsFrom_27 rfl H

theorem kX4_settle_0 : zD cX4_settle 0 1 (.aload_n 0) 1 := by decide +kernel
theorem kX4_settle_1 : zD cX4_settle 1 2 (.aload_n 0) 1 := by decide +kernel
theorem kX4_settle_2 : zD cX4_settle 2 5 (.getfield 30) 3 := by decide +kernel
theorem kX4_settle_5 : zD cX4_settle 5 8 (.invokevirtual 68) 3 := by decide +kernel
theorem kX4_settle_8 : zD cX4_settle 8 9 (.istore_n 1) 1 := by decide +kernel
theorem kX4_settle_9 : zD cX4_settle 9 10 (.aload_n 0) 1 := by decide +kernel
theorem kX4_settle_10 : zD cX4_settle 10 13 (.getfield 30) 3 := by decide +kernel
theorem kX4_settle_13 : zD cX4_settle 13 16 (.invokestatic 71) 3 := by decide +kernel
theorem kX4_settle_16 : zD cX4_settle 16 17 (.iload_n 1) 1 := by decide +kernel
theorem kX4_settle_17 : zD cX4_settle 17 20 (.invokestatic 71) 3 := by decide +kernel
theorem kX4_settle_20 : zD cX4_settle 20 21 (.isub) 1 := by decide +kernel
theorem kX4_settle_21 : zD cX4_settle 21 22 (.istore_n 2) 1 := by decide +kernel
theorem kX4_settle_22 : zD cX4_settle 22 23 (.aload_n 0) 1 := by decide +kernel
theorem kX4_settle_23 : zD cX4_settle 23 24 (.iload_n 1) 1 := by decide +kernel
theorem kX4_settle_24 : zD cX4_settle 24 27 (.putfield 30) 3 := by decide +kernel
theorem kX4_settle_27 : zD cX4_settle 27 28 (.iload_n 2) 1 := by decide +kernel
theorem kX4_settle_28 : zD cX4_settle 28 29 (.ireturn) 1 := by decide +kernel
set_option maxRecDepth 10000 in
theorem wX4_settle_0 {G : ZG} {d : Nat} {h : ZH} {Q : Option ZV → ZH → Prop} {i0 : Nat} (hi0 : i0 < zcnt 2)
  (H : zC G (d + 3) mX4_leftOf [zr 2 i0, zi (h.1 2 i0 6)] h (fun r2 h1 => ∃ y3 : Int32, r2 = some (zi y3) ∧ ∀ h4 : ZH, h4 = zs1 h1 2 i0 6 y3 → Q (some (zi ((bcI (h1.1 2 i0 6)) - (bcI y3)))) h4)) :
  zT G (d + 4) mX4_settle 0 [zr 2 i0, zu, zu] [] h Q := by
  refine zt_aload_n kX4_settle_0 rfl ?_
  refine zt_aload_n kX4_settle_1 rfl ?_
  refine zt_get (v := zi (h.1 2 i0 6)) kX4_settle_2 fRX4_30 rfl hi0 rfl ?_
  refine zt_cV (as := [zi (h.1 2 i0 6)]) kX4_settle_5 sRX4_68 rfl hi0 rfl (by simp) rfl H (fun r2 h1 H => ?_)
  obtain ⟨y3, rfl, H⟩ := H
  refine zt_istore_n (L' := [zr 2 i0, zi y3, zu]) kX4_settle_8 (by decide) rfl ?_
  refine zt_aload_n kX4_settle_9 rfl ?_
  refine zt_get (v := zi (h1.1 2 i0 6)) kX4_settle_10 fRX4_30 rfl hi0 rfl ?_
  refine zt_cS (as := [zi (h1.1 2 i0 6)]) kX4_settle_13 sRX4_71 rfl (by simp) rfl (sJ6_bitCount_0f7a4 _  ) (fun r h0 hq => ?_)
  obtain ⟨rfl, hh⟩ := hq
  replace hh := hh.symm
  subst hh
  refine zt_iload_n kX4_settle_16 rfl ?_
  refine zt_cS (as := [zi y3]) kX4_settle_17 sRX4_71 rfl (by simp) rfl (sJ6_bitCount_0f7a4 _  ) (fun r h0 hq => ?_)
  obtain ⟨rfl, hh⟩ := hq
  replace hh := hh.symm
  subst hh
  refine zt_isub kX4_settle_20 ?_
  refine zt_istore_n (L' := [zr 2 i0, zi y3, zi ((bcI (h1.1 2 i0 6)) - (bcI y3))]) kX4_settle_21 (by decide) rfl ?_
  refine zt_aload_n kX4_settle_22 rfl ?_
  refine zt_iload_n kX4_settle_23 rfl ?_
  refine zt_put kX4_settle_24 fRX4_30 pRX4_6 rfl hi0 rfl ?_
  refine zt_heap (fun h4 eh4 => ?_)
  replace H := H h4 eh4
  refine zt_iload_n kX4_settle_27 rfl ?_
  exact zt_iret kX4_settle_28 rfl H

theorem kX12_leftWithout_0 : zD cX12_leftWithout 0 1 (.aload_n 0) 1 := by decide +kernel
theorem kX12_leftWithout_1 : zD cX12_leftWithout 1 2 (.iload_n 1) 1 := by decide +kernel
theorem kX12_leftWithout_2 : zD cX12_leftWithout 2 3 (.iload_n 2) 1 := by decide +kernel
theorem kX12_leftWithout_3 : zD cX12_leftWithout 3 4 (.iconst (-1)) 1 := by decide +kernel
theorem kX12_leftWithout_4 : zD cX12_leftWithout 4 5 (.ixor) 1 := by decide +kernel
theorem kX12_leftWithout_5 : zD cX12_leftWithout 5 6 (.iand) 1 := by decide +kernel
theorem kX12_leftWithout_6 : zD cX12_leftWithout 6 9 (.invokevirtual 104) 3 := by decide +kernel
theorem kX12_leftWithout_9 : zD cX12_leftWithout 9 10 (.ireturn) 1 := by decide +kernel
set_option maxRecDepth 10000 in
theorem wX12_leftWithout_0 {G : ZG} {d : Nat} {h : ZH} {Q : Option ZV → ZH → Prop} {x1 : Int32} {x2 : Int32} 
  (H : zC G (d + 5) mX12_settled [zr 5 0, zi (x1 &&& (x2 ^^^ (-1)))] h (fun r2 h1 => ∃ y3 : Int32, r2 = some (zi y3) ∧ Q (some (zi y3)) h1)) :
  zT G (d + 6) mX12_leftWithout 0 [zr 5 0, zi x1, zi x2] [] h Q := by
  refine zt_aload_n kX12_leftWithout_0 rfl ?_
  refine zt_iload_n kX12_leftWithout_1 rfl ?_
  refine zt_iload_n kX12_leftWithout_2 rfl ?_
  refine zt_iconst (v := (-1)) kX12_leftWithout_3 rfl ?_
  refine zt_ixor kX12_leftWithout_4 ?_
  refine zt_iand kX12_leftWithout_5 ?_
  refine zt_cV (as := [zi (x1 &&& (x2 ^^^ (-1)))]) kX12_leftWithout_6 sRX12_104 rfl (by decide) rfl (by simp) rfl H (fun r2 h1 H => ?_)
  obtain ⟨y3, rfl, H⟩ := H
  exact zt_iret kX12_leftWithout_9 rfl H

theorem kX12_fallsOf_0 : zD cX12_fallsOf 0 1 (.iload_n 1) 1 := by decide +kernel
theorem kX12_fallsOf_1 : zD cX12_fallsOf 1 2 (.iload_n 2) 1 := by decide +kernel
theorem kX12_fallsOf_2 : zD cX12_fallsOf 2 3 (.iconst (-1)) 1 := by decide +kernel
theorem kX12_fallsOf_3 : zD cX12_fallsOf 3 4 (.ixor) 1 := by decide +kernel
theorem kX12_fallsOf_4 : zD cX12_fallsOf 4 5 (.iand) 1 := by decide +kernel
theorem kX12_fallsOf_5 : zD cX12_fallsOf 5 8 (.invokestatic 107) 3 := by decide +kernel
theorem kX12_fallsOf_8 : zD cX12_fallsOf 8 9 (.aload_n 0) 1 := by decide +kernel
theorem kX12_fallsOf_9 : zD cX12_fallsOf 9 10 (.iload_n 1) 1 := by decide +kernel
theorem kX12_fallsOf_10 : zD cX12_fallsOf 10 11 (.iload_n 2) 1 := by decide +kernel
theorem kX12_fallsOf_11 : zD cX12_fallsOf 11 14 (.invokevirtual 110) 3 := by decide +kernel
theorem kX12_fallsOf_14 : zD cX12_fallsOf 14 17 (.invokestatic 107) 3 := by decide +kernel
theorem kX12_fallsOf_17 : zD cX12_fallsOf 17 18 (.isub) 1 := by decide +kernel
theorem kX12_fallsOf_18 : zD cX12_fallsOf 18 19 (.ireturn) 1 := by decide +kernel
set_option maxRecDepth 10000 in
theorem wX12_fallsOf_0 {G : ZG} {d : Nat} {h : ZH} {Q : Option ZV → ZH → Prop} {x1 : Int32} {x2 : Int32} 
  (H : zC G (d + 6) mX12_leftWithout [zr 5 0, zi x1, zi x2] h (fun r2 h1 => ∃ y3 : Int32, r2 = some (zi y3) ∧ Q (some (zi ((bitsI (x1 &&& (x2 ^^^ (-1)))) - (bitsI y3)))) h1)) :
  zT G (d + 7) mX12_fallsOf 0 [zr 5 0, zi x1, zi x2] [] h Q := by
  refine zt_iload_n kX12_fallsOf_0 rfl ?_
  refine zt_iload_n kX12_fallsOf_1 rfl ?_
  refine zt_iconst (v := (-1)) kX12_fallsOf_2 rfl ?_
  refine zt_ixor kX12_fallsOf_3 ?_
  refine zt_iand kX12_fallsOf_4 ?_
  refine zt_cS (as := [zi (x1 &&& (x2 ^^^ (-1)))]) kX12_fallsOf_5 sRX12_107 rfl (by simp) rfl (sX12_bits _  ) (fun r h0 hq => ?_)
  obtain ⟨rfl, hh⟩ := hq
  replace hh := hh.symm
  subst hh
  refine zt_aload_n kX12_fallsOf_8 rfl ?_
  refine zt_iload_n kX12_fallsOf_9 rfl ?_
  refine zt_iload_n kX12_fallsOf_10 rfl ?_
  refine zt_cV (as := [zi x1, zi x2]) kX12_fallsOf_11 sRX12_110 rfl (by decide) rfl (by simp) rfl H (fun r2 h1 H => ?_)
  obtain ⟨y3, rfl, H⟩ := H
  refine zt_cS (as := [zi y3]) kX12_fallsOf_14 sRX12_107 rfl (by simp) rfl (sX12_bits _  ) (fun r h0 hq => ?_)
  obtain ⟨rfl, hh⟩ := hq
  replace hh := hh.symm
  subst hh
  refine zt_isub kX12_fallsOf_17 ?_
  exact zt_iret kX12_fallsOf_18 rfl H

theorem kX12_safeOf_0 : zD cX12_safeOf 0 1 (.iconst 0) 1 := by decide +kernel
theorem kX12_safeOf_1 : zD cX12_safeOf 1 2 (.istore_n 2) 1 := by decide +kernel
theorem kX12_safeOf_2 : zD cX12_safeOf 2 3 (.iconst 0) 1 := by decide +kernel
theorem kX12_safeOf_3 : zD cX12_safeOf 3 4 (.istore_n 3) 1 := by decide +kernel
theorem kX12_safeOf_4 : zD cX12_safeOf 4 5 (.iload_n 3) 1 := by decide +kernel
theorem kX12_safeOf_5 : zD cX12_safeOf 5 7 (.bipush 12) 2 := by decide +kernel
theorem kX12_safeOf_7 : zB cX12_safeOf 7 10 45 (.if_icmp .ge 38) 38 := by decide +kernel
theorem kX12_safeOf_10 : zD cX12_safeOf 10 11 (.iload_n 2) 1 := by decide +kernel
theorem kX12_safeOf_11 : zD cX12_safeOf 11 12 (.iload_n 1) 1 := by decide +kernel
theorem kX12_safeOf_12 : zD cX12_safeOf 12 13 (.iload_n 3) 1 := by decide +kernel
theorem kX12_safeOf_13 : zD cX12_safeOf 13 16 (.invokestatic 57) 3 := by decide +kernel
theorem kX12_safeOf_16 : zB cX12_safeOf 16 19 36 (.ifCond .eq 20) 20 := by decide +kernel
theorem kX12_safeOf_19 : zD cX12_safeOf 19 20 (.aload_n 0) 1 := by decide +kernel
theorem kX12_safeOf_20 : zD cX12_safeOf 20 21 (.iload_n 1) 1 := by decide +kernel
theorem kX12_safeOf_21 : zD cX12_safeOf 21 22 (.iconst 1) 1 := by decide +kernel
theorem kX12_safeOf_22 : zD cX12_safeOf 22 23 (.iload_n 3) 1 := by decide +kernel
theorem kX12_safeOf_23 : zD cX12_safeOf 23 24 (.ishl) 1 := by decide +kernel
theorem kX12_safeOf_24 : zD cX12_safeOf 24 27 (.invokevirtual 163) 3 := by decide +kernel
theorem kX12_safeOf_27 : zB cX12_safeOf 27 30 36 (.ifCond .ne 9) 9 := by decide +kernel
theorem kX12_safeOf_30 : zD cX12_safeOf 30 31 (.iconst 1) 1 := by decide +kernel
theorem kX12_safeOf_31 : zD cX12_safeOf 31 32 (.iload_n 3) 1 := by decide +kernel
theorem kX12_safeOf_32 : zD cX12_safeOf 32 33 (.ishl) 1 := by decide +kernel
theorem kX12_safeOf_33 : zB cX12_safeOf 33 36 37 (.goto 4) 4 := by decide +kernel
theorem kX12_safeOf_36 : zD cX12_safeOf 36 37 (.iconst 0) 1 := by decide +kernel
theorem kX12_safeOf_37 : zD cX12_safeOf 37 38 (.ior) 1 := by decide +kernel
theorem kX12_safeOf_38 : zD cX12_safeOf 38 39 (.istore_n 2) 1 := by decide +kernel
theorem kX12_safeOf_39 : zD cX12_safeOf 39 42 (.iinc 3 1) 3 := by decide +kernel
theorem kX12_safeOf_42 : zB cX12_safeOf 42 45 4 (.goto (-38)) (-38) := by decide +kernel
theorem kX12_safeOf_45 : zD cX12_safeOf 45 46 (.iload_n 2) 1 := by decide +kernel
theorem kX12_safeOf_46 : zD cX12_safeOf 46 47 (.ireturn) 1 := by decide +kernel
set_option maxRecDepth 10000 in
theorem wX12_safeOf_0 {G : ZG} {d : Nat} {h : ZH} {Q : Option ZV → ZH → Prop} {x1 : Int32} 
  (H : zT G (d + 8) mX12_safeOf 4 [zr 5 0, zi x1, zi 0, zi 0] [] h Q) :
  zT G (d + 8) mX12_safeOf 0 [zr 5 0, zi x1, zu, zu] [] h Q := by
  refine zt_iconst (v := 0) kX12_safeOf_0 rfl ?_
  refine zt_istore_n (L' := [zr 5 0, zi x1, zi 0, zu]) kX12_safeOf_1 (by decide) rfl ?_
  refine zt_iconst (v := 0) kX12_safeOf_2 rfl ?_
  refine zt_istore_n (L' := [zr 5 0, zi x1, zi 0, zi 0]) kX12_safeOf_3 (by decide) rfl ?_
  exact H

set_option maxRecDepth 10000 in
theorem wX12_safeOf_4 {G : ZG} {d : Nat} {h : ZH} {Q : Option ZV → ZH → Prop} {x1 : Int32} {x2 : Int32} {x3 : Int32} 
  (H : (12 ≤ x3 → Q (some (zi x2)) h) ∧ (¬ 12 ≤ x3 → (¬ (hasI x1 x3) → zT G (d + 8) mX12_safeOf 4 [zr 5 0, zi x1, zi (x2 ||| 0), zi (x3 + 1)] [] h Q) ∧ ((hasI x1 x3) → zC G (d + 7) mX12_fallsOf [zr 5 0, zi x1, zi ((1 : Int32) <<< (x3 &&& 31))] h (fun r2 h1 => ∃ y3 : Int32, r2 = some (zi y3) ∧ (¬ y3 = 0 → zT G (d + 8) mX12_safeOf 4 [zr 5 0, zi x1, zi (x2 ||| 0), zi (x3 + 1)] [] h1 Q) ∧ (y3 = 0 → zT G (d + 8) mX12_safeOf 4 [zr 5 0, zi x1, zi (x2 ||| ((1 : Int32) <<< (x3 &&& 31))), zi (x3 + 1)] [] h1 Q))))) :
  zT G (d + 8) mX12_safeOf 4 [zr 5 0, zi x1, zi x2, zi x3] [] h Q := by
  refine zt_iload_n kX12_safeOf_4 rfl ?_
  refine zt_bipush (v := 12) kX12_safeOf_5 rfl ?_
  refine zt_icmp_ge kX12_safeOf_7 (fun c => ?_) (fun c => ?_)
  · replace H := H.1 c
    refine zt_iload_n kX12_safeOf_45 rfl ?_
    exact zt_iret kX12_safeOf_46 rfl H
  · replace H := H.2 c
    refine zt_iload_n kX12_safeOf_10 rfl ?_
    refine zt_iload_n kX12_safeOf_11 rfl ?_
    refine zt_iload_n kX12_safeOf_12 rfl ?_
    refine zt_cS (as := [zi x1, zi x3]) kX12_safeOf_13 sRX12_57 rfl (by simp) rfl (sX12_has _  ) (fun r h0 hq => ?_)
    obtain ⟨rfl, hh⟩ := hq
    replace hh := hh.symm
    subst hh
    refine zt_ifb_eq kX12_safeOf_16 (fun c => ?_) (fun c => ?_)
    · replace H := H.1 c
      refine zt_iconst (v := 0) kX12_safeOf_36 rfl ?_
      refine zt_ior kX12_safeOf_37 ?_
      refine zt_istore_n (L' := [zr 5 0, zi x1, zi (x2 ||| 0), zi x3]) kX12_safeOf_38 (by decide) rfl ?_
      refine zt_iinc (v := (x3 + 1)) (L' := [zr 5 0, zi x1, zi (x2 ||| 0), zi (x3 + 1)]) kX12_safeOf_39 rfl rfl (by decide) rfl ?_
      refine zt_goto kX12_safeOf_42 ?_
      exact H
    · replace H := H.2 c
      refine zt_aload_n kX12_safeOf_19 rfl ?_
      refine zt_iload_n kX12_safeOf_20 rfl ?_
      refine zt_iconst (v := 1) kX12_safeOf_21 rfl ?_
      refine zt_iload_n kX12_safeOf_22 rfl ?_
      refine zt_ishl kX12_safeOf_23 ?_
      refine zt_cV (as := [zi x1, zi ((1 : Int32) <<< (x3 &&& 31))]) kX12_safeOf_24 sRX12_163 rfl (by decide) rfl (by simp) rfl H (fun r2 h1 H => ?_)
      obtain ⟨y3, rfl, H⟩ := H
      refine zt_if_ne kX12_safeOf_27 (fun c => ?_) (fun c => ?_)
      · replace H := H.1 c
        refine zt_iconst (v := 0) kX12_safeOf_36 rfl ?_
        refine zt_ior kX12_safeOf_37 ?_
        refine zt_istore_n (L' := [zr 5 0, zi x1, zi (x2 ||| 0), zi x3]) kX12_safeOf_38 (by decide) rfl ?_
        refine zt_iinc (v := (x3 + 1)) (L' := [zr 5 0, zi x1, zi (x2 ||| 0), zi (x3 + 1)]) kX12_safeOf_39 rfl rfl (by decide) rfl ?_
        refine zt_goto kX12_safeOf_42 ?_
        exact H
      · replace H := H.2 c
        refine zt_iconst (v := 1) kX12_safeOf_30 rfl ?_
        refine zt_iload_n kX12_safeOf_31 rfl ?_
        refine zt_ishl kX12_safeOf_32 ?_
        refine zt_goto kX12_safeOf_33 ?_
        refine zt_ior kX12_safeOf_37 ?_
        refine zt_istore_n (L' := [zr 5 0, zi x1, zi (x2 ||| ((1 : Int32) <<< (x3 &&& 31))), zi x3]) kX12_safeOf_38 (by decide) rfl ?_
        refine zt_iinc (v := (x3 + 1)) (L' := [zr 5 0, zi x1, zi (x2 ||| ((1 : Int32) <<< (x3 &&& 31))), zi (x3 + 1)]) kX12_safeOf_39 rfl rfl (by decide) rfl ?_
        refine zt_goto kX12_safeOf_42 ?_
        exact H

theorem kX12_noteWithout_0 : zD cX12_noteWithout 0 1 (.aload_n 0) 1 := by decide +kernel
theorem kX12_noteWithout_1 : zD cX12_noteWithout 1 2 (.aload_n 0) 1 := by decide +kernel
theorem kX12_noteWithout_2 : zD cX12_noteWithout 2 5 (.getfield 9) 3 := by decide +kernel
theorem kX12_noteWithout_5 : zD cX12_noteWithout 5 6 (.iconst 0) 1 := by decide +kernel
theorem kX12_noteWithout_6 : zD cX12_noteWithout 6 7 (.iaload) 1 := by decide +kernel
theorem kX12_noteWithout_7 : zD cX12_noteWithout 7 8 (.iconst 1) 1 := by decide +kernel
theorem kX12_noteWithout_8 : zD cX12_noteWithout 8 9 (.iload_n 2) 1 := by decide +kernel
theorem kX12_noteWithout_9 : zD cX12_noteWithout 9 10 (.ishl) 1 := by decide +kernel
theorem kX12_noteWithout_10 : zD cX12_noteWithout 10 13 (.invokevirtual 110) 3 := by decide +kernel
theorem kX12_noteWithout_13 : zD cX12_noteWithout 13 14 (.istore_n 3) 1 := by decide +kernel
theorem kX12_noteWithout_14 : zD cX12_noteWithout 14 15 (.aload_n 0) 1 := by decide +kernel
theorem kX12_noteWithout_15 : zD cX12_noteWithout 15 16 (.iload_n 3) 1 := by decide +kernel
theorem kX12_noteWithout_16 : zD cX12_noteWithout 16 19 (.invokevirtual 94) 3 := by decide +kernel
theorem kX12_noteWithout_19 : zD cX12_noteWithout 19 20 (.iload_n 3) 1 := by decide +kernel
theorem kX12_noteWithout_20 : zD cX12_noteWithout 20 21 (.iload_n 1) 1 := by decide +kernel
theorem kX12_noteWithout_21 : zD cX12_noteWithout 21 24 (.invokestatic 57) 3 := by decide +kernel
theorem kX12_noteWithout_24 : zB cX12_noteWithout 24 27 35 (.ifCond .eq 11) 11 := by decide +kernel
theorem kX12_noteWithout_27 : zD cX12_noteWithout 27 28 (.aload_n 0) 1 := by decide +kernel
theorem kX12_noteWithout_28 : zD cX12_noteWithout 28 29 (.iload_n 1) 1 := by decide +kernel
theorem kX12_noteWithout_29 : zD cX12_noteWithout 29 32 (.invokevirtual 157) 3 := by decide +kernel
theorem kX12_noteWithout_32 : zB cX12_noteWithout 32 35 37 (.goto 5) 5 := by decide +kernel
theorem kX12_noteWithout_35 : zD cX12_noteWithout 35 37 (.bipush 50) 2 := by decide +kernel
theorem kX12_noteWithout_37 : zD cX12_noteWithout 37 38 (.ireturn) 1 := by decide +kernel
set_option maxRecDepth 10000 in
theorem wX12_noteWithout_0 {G : ZG} {d : Nat} {h : ZH} {Q : Option ZV → ZH → Prop} {x1 : Int32} {x2 : Int32} 
  (H : zC G (d + 6) mX12_leftWithout [zr 5 0, zi (h.1 30 0 0), zi ((1 : Int32) <<< (x2 &&& 31))] h (fun r2 h1 => ∃ y3 : Int32, r2 = some (zi y3) ∧ zC G (d + 6) mX12_loads [zr 5 0, zi y3] h1 (fun r5 h4 => r5 = none ∧ (¬ (hasI y3 x1) → Q (some (zi 50)) h4) ∧ ((hasI y3 x1) → vp_in x1 12 ∧ (Q (some (zi (noteI (wgtI (kindI h4 x1) (figI h4 x1)) (h4.1 33 0 x1.toNatClampNeg)))) h4))))) :
  zT G (d + 7) mX12_noteWithout 0 [zr 5 0, zi x1, zi x2, zu] [] h Q := by
  refine zt_aload_n kX12_noteWithout_0 rfl ?_
  refine zt_aload_n kX12_noteWithout_1 rfl ?_
  refine zt_get (v := zr 30 0) kX12_noteWithout_2 fRX12_9 rfl (by decide) rfl ?_
  refine zt_iconst (v := 0) kX12_noteWithout_5 rfl ?_
  refine zt_ialdc 0 rfl kX12_noteWithout_6 rfl (by decide) (zvp_dec (by decide)) ?_
  refine zt_iconst (v := 1) kX12_noteWithout_7 rfl ?_
  refine zt_iload_n kX12_noteWithout_8 rfl ?_
  refine zt_ishl kX12_noteWithout_9 ?_
  refine zt_cV (as := [zi (h.1 30 0 0), zi ((1 : Int32) <<< (x2 &&& 31))]) kX12_noteWithout_10 sRX12_110 rfl (by decide) rfl (by simp) rfl H (fun r2 h1 H => ?_)
  obtain ⟨y3, rfl, H⟩ := H
  refine zt_istore_n (L' := [zr 5 0, zi x1, zi x2, zi y3]) kX12_noteWithout_13 (by decide) rfl ?_
  refine zt_aload_n kX12_noteWithout_14 rfl ?_
  refine zt_iload_n kX12_noteWithout_15 rfl ?_
  refine zt_cV (as := [zi y3]) kX12_noteWithout_16 sRX12_94 rfl (by decide) rfl (by simp) rfl H (fun r5 h4 H => ?_)
  obtain ⟨rfl, H⟩ := H
  refine zt_iload_n kX12_noteWithout_19 rfl ?_
  refine zt_iload_n kX12_noteWithout_20 rfl ?_
  refine zt_cS (as := [zi y3, zi x1]) kX12_noteWithout_21 sRX12_57 rfl (by simp) rfl (sX12_has _  ) (fun r h0 hq => ?_)
  obtain ⟨rfl, hh⟩ := hq
  replace hh := hh.symm
  subst hh
  refine zt_ifb_eq kX12_noteWithout_24 (fun c => ?_) (fun c => ?_)
  · replace H := H.1 c
    refine zt_bipush (v := 50) kX12_noteWithout_35 rfl ?_
    exact zt_iret kX12_noteWithout_37 rfl H
  · replace H := H.2 c
    refine zt_aload_n kX12_noteWithout_27 rfl ?_
    refine zt_iload_n kX12_noteWithout_28 rfl ?_
    obtain ⟨pp0, H⟩ := H
    refine zt_cV (as := [zi x1]) kX12_noteWithout_29 sRX12_157 rfl (by decide) rfl (by simp) rfl (sX12_noteOf _  pp0) (fun r h0 hq => ?_)
    obtain ⟨rfl, hh⟩ := hq
    replace hh := hh.symm
    subst hh
    refine zt_goto kX12_noteWithout_32 ?_
    exact zt_iret kX12_noteWithout_37 rfl H

theorem kX4_weighIn_0 : zD cX4_weighIn 0 1 (.aload_n 0) 1 := by decide +kernel
theorem kX4_weighIn_1 : zD cX4_weighIn 1 2 (.iload_n 1) 1 := by decide +kernel
theorem kX4_weighIn_2 : zD cX4_weighIn 2 3 (.aload_n 0) 1 := by decide +kernel
theorem kX4_weighIn_3 : zD cX4_weighIn 3 6 (.getfield 34) 3 := by decide +kernel
theorem kX4_weighIn_6 : zD cX4_weighIn 6 9 (.invokevirtual 76) 3 := by decide +kernel
theorem kX4_weighIn_9 : zD cX4_weighIn 9 10 (.pop) 1 := by decide +kernel
theorem kX4_weighIn_10 : zD cX4_weighIn 10 11 (.return_) 1 := by decide +kernel
set_option maxRecDepth 10000 in
theorem wX4_weighIn_0 {G : ZG} {d : Nat} {h : ZH} {Q : Option ZV → ZH → Prop} {i0 : Nat} {x1 : Int32} (hi0 : i0 < zcnt 2)
  (H : zC G (d + 2) mX4_looseIn [zr 2 i0, zi x1, zi (h.1 2 i0 7)] h (fun r2 h1 => ∃ y3 : Int32, r2 = some (zi y3) ∧ Q none h1)) :
  zT G (d + 3) mX4_weighIn 0 [zr 2 i0, zi x1] [] h Q := by
  refine zt_aload_n kX4_weighIn_0 rfl ?_
  refine zt_iload_n kX4_weighIn_1 rfl ?_
  refine zt_aload_n kX4_weighIn_2 rfl ?_
  refine zt_get (v := zi (h.1 2 i0 7)) kX4_weighIn_3 fRX4_34 rfl hi0 rfl ?_
  refine zt_cV (as := [zi x1, zi (h.1 2 i0 7)]) kX4_weighIn_6 sRX4_76 rfl hi0 rfl (by simp) rfl H (fun r2 h1 H => ?_)
  obtain ⟨y3, rfl, H⟩ := H
  refine zt_pop kX4_weighIn_9 (by intro x q; cases q) ?_
  exact zt_vret kX4_weighIn_10 rfl H

theorem kX4_weighAll_0 : zD cX4_weighAll 0 1 (.aload_n 0) 1 := by decide +kernel
theorem kX4_weighAll_1 : zD cX4_weighAll 1 2 (.aload_n 0) 1 := by decide +kernel
theorem kX4_weighAll_2 : zD cX4_weighAll 2 5 (.getfield 30) 3 := by decide +kernel
theorem kX4_weighAll_5 : zD cX4_weighAll 5 8 (.invokevirtual 92) 3 := by decide +kernel
theorem kX4_weighAll_8 : zD cX4_weighAll 8 9 (.return_) 1 := by decide +kernel
set_option maxRecDepth 10000 in
theorem wX4_weighAll_0 {G : ZG} {d : Nat} {h : ZH} {Q : Option ZV → ZH → Prop} {i0 : Nat} (hi0 : i0 < zcnt 2)
  (H : zC G (d + 3) mX4_weighIn [zr 2 i0, zi (h.1 2 i0 6)] h (fun r2 h1 => r2 = none ∧ Q none h1)) :
  zT G (d + 4) mX4_weighAll 0 [zr 2 i0] [] h Q := by
  refine zt_aload_n kX4_weighAll_0 rfl ?_
  refine zt_aload_n kX4_weighAll_1 rfl ?_
  refine zt_get (v := zi (h.1 2 i0 6)) kX4_weighAll_2 fRX4_30 rfl hi0 rfl ?_
  refine zt_cV (as := [zi (h.1 2 i0 6)]) kX4_weighAll_5 sRX4_92 rfl hi0 rfl (by simp) rfl H (fun r2 h1 H => ?_)
  obtain ⟨rfl, H⟩ := H
  exact zt_vret kX4_weighAll_8 rfl H

theorem kX3_leftOf_0 : zD cX3_leftOf 0 1 (.aload_n 0) 1 := by decide +kernel
theorem kX3_leftOf_1 : zD cX3_leftOf 1 4 (.getfield 32) 3 := by decide +kernel
theorem kX3_leftOf_4 : zD cX3_leftOf 4 5 (.aload_n 0) 1 := by decide +kernel
theorem kX3_leftOf_5 : zD cX3_leftOf 5 8 (.getfield 12) 3 := by decide +kernel
theorem kX3_leftOf_8 : zD cX3_leftOf 8 11 (.getfield 36) 3 := by decide +kernel
theorem kX3_leftOf_11 : zB cX3_leftOf 11 14 33 (.if_icmp .eq 22) 22 := by decide +kernel
theorem kX3_leftOf_14 : zD cX3_leftOf 14 15 (.aload_n 0) 1 := by decide +kernel
theorem kX3_leftOf_15 : zD cX3_leftOf 15 18 (.getfield 18) 3 := by decide +kernel
theorem kX3_leftOf_18 : zD cX3_leftOf 18 19 (.iconst (-1)) 1 := by decide +kernel
theorem kX3_leftOf_19 : zD cX3_leftOf 19 22 (.invokestatic 39) 3 := by decide +kernel
theorem kX3_leftOf_22 : zD cX3_leftOf 22 23 (.aload_n 0) 1 := by decide +kernel
theorem kX3_leftOf_23 : zD cX3_leftOf 23 24 (.aload_n 0) 1 := by decide +kernel
theorem kX3_leftOf_24 : zD cX3_leftOf 24 27 (.getfield 12) 3 := by decide +kernel
theorem kX3_leftOf_27 : zD cX3_leftOf 27 30 (.getfield 36) 3 := by decide +kernel
theorem kX3_leftOf_30 : zD cX3_leftOf 30 33 (.putfield 32) 3 := by decide +kernel
theorem kX3_leftOf_33 : zD cX3_leftOf 33 34 (.iload_n 1) 1 := by decide +kernel
theorem kX3_leftOf_34 : zD cX3_leftOf 34 37 (.sipush 4095) 3 := by decide +kernel
theorem kX3_leftOf_37 : zD cX3_leftOf 37 38 (.iand) 1 := by decide +kernel
theorem kX3_leftOf_38 : zD cX3_leftOf 38 39 (.istore_n 2) 1 := by decide +kernel
theorem kX3_leftOf_39 : zD cX3_leftOf 39 40 (.aload_n 0) 1 := by decide +kernel
theorem kX3_leftOf_40 : zD cX3_leftOf 40 43 (.getfield 18) 3 := by decide +kernel
theorem kX3_leftOf_43 : zD cX3_leftOf 43 44 (.iload_n 2) 1 := by decide +kernel
theorem kX3_leftOf_44 : zD cX3_leftOf 44 45 (.iaload) 1 := by decide +kernel
theorem kX3_leftOf_45 : zD cX3_leftOf 45 46 (.iconst (-1)) 1 := by decide +kernel
theorem kX3_leftOf_46 : zB cX3_leftOf 46 49 63 (.if_icmp .ne 17) 17 := by decide +kernel
theorem kX3_leftOf_49 : zD cX3_leftOf 49 50 (.aload_n 0) 1 := by decide +kernel
theorem kX3_leftOf_50 : zD cX3_leftOf 50 53 (.getfield 18) 3 := by decide +kernel
theorem kX3_leftOf_53 : zD cX3_leftOf 53 54 (.iload_n 2) 1 := by decide +kernel
theorem kX3_leftOf_54 : zD cX3_leftOf 54 55 (.aload_n 0) 1 := by decide +kernel
theorem kX3_leftOf_55 : zD cX3_leftOf 55 58 (.getfield 12) 3 := by decide +kernel
theorem kX3_leftOf_58 : zD cX3_leftOf 58 59 (.iload_n 2) 1 := by decide +kernel
theorem kX3_leftOf_59 : zD cX3_leftOf 59 62 (.invokevirtual 45) 3 := by decide +kernel
theorem kX3_leftOf_62 : zD cX3_leftOf 62 63 (.iastore) 1 := by decide +kernel
theorem kX3_leftOf_63 : zD cX3_leftOf 63 64 (.aload_n 0) 1 := by decide +kernel
theorem kX3_leftOf_64 : zD cX3_leftOf 64 67 (.getfield 18) 3 := by decide +kernel
theorem kX3_leftOf_67 : zD cX3_leftOf 67 68 (.iload_n 2) 1 := by decide +kernel
theorem kX3_leftOf_68 : zD cX3_leftOf 68 69 (.iaload) 1 := by decide +kernel
theorem kX3_leftOf_69 : zD cX3_leftOf 69 70 (.ireturn) 1 := by decide +kernel
set_option maxRecDepth 10000 in
theorem wX3_leftOf_0 {G : ZG} {d : Nat} {h : ZH} {Q : Option ZV → ZH → Prop} {x1 : Int32} 
  (H : ((h.1 1 0 5) = (h.1 2 0 9) → vp_in (x1 &&& 4095) 4096 ∧ (¬ (h.1 17 0 (x1 &&& 4095).toNatClampNeg) = (-1) → vp_in (x1 &&& 4095) 4096 ∧ Q (some (zi (h.1 17 0 (x1 &&& 4095).toNatClampNeg))) h) ∧ ((h.1 17 0 (x1 &&& 4095).toNatClampNeg) = (-1) → zC G (d + 3) mX4_leftOf [zr 2 0, zi (x1 &&& 4095)] h (fun r2 h1 => ∃ y3 : Int32, r2 = some (zi y3) ∧ vp_in (x1 &&& 4095) 4096 ∧ (∀ h4 : ZH, h4 = zs1 h1 17 0 (x1 &&& 4095).toNatClampNeg y3 → vp_in (x1 &&& 4095) 4096 ∧ Q (some (zi (h4.1 17 0 (x1 &&& 4095).toNatClampNeg))) h4)))) ∧ (¬ (h.1 1 0 5) = (h.1 2 0 9) → zC G (d + 3) mJ7_fill_53178 [zr 17 0, zi (-1)] h (fun r6 h5 => r6 = none ∧ ∀ h7 : ZH, h7 = zs1 h5 1 0 5 (h5.1 2 0 9) → vp_in (x1 &&& 4095) 4096 ∧ (¬ (h7.1 17 0 (x1 &&& 4095).toNatClampNeg) = (-1) → vp_in (x1 &&& 4095) 4096 ∧ Q (some (zi (h7.1 17 0 (x1 &&& 4095).toNatClampNeg))) h7) ∧ ((h7.1 17 0 (x1 &&& 4095).toNatClampNeg) = (-1) → zC G (d + 3) mX4_leftOf [zr 2 0, zi (x1 &&& 4095)] h7 (fun r9 h8 => ∃ y10 : Int32, r9 = some (zi y10) ∧ vp_in (x1 &&& 4095) 4096 ∧ (∀ h11 : ZH, h11 = zs1 h8 17 0 (x1 &&& 4095).toNatClampNeg y10 → vp_in (x1 &&& 4095) 4096 ∧ Q (some (zi (h11.1 17 0 (x1 &&& 4095).toNatClampNeg))) h11)))))) :
  zT G (d + 4) mX3_leftOf 0 [zr 1 0, zi x1, zu] [] h Q := by
  refine zt_aload_n kX3_leftOf_0 rfl ?_
  refine zt_get (v := zi (h.1 1 0 5)) kX3_leftOf_1 fRX3_32 rfl (by decide) rfl ?_
  refine zt_aload_n kX3_leftOf_4 rfl ?_
  refine zt_get (v := zr 2 0) kX3_leftOf_5 fRX3_12 rfl (by decide) rfl ?_
  refine zt_get (v := zi (h.1 2 0 9)) kX3_leftOf_8 fRX3_36 rfl (by decide) rfl ?_
  refine zt_icmp_eq kX3_leftOf_11 (fun c => ?_) (fun c => ?_)
  · replace H := H.1 c
    refine zt_iload_n kX3_leftOf_33 rfl ?_
    refine zt_sipush (v := 4095) kX3_leftOf_34 rfl ?_
    refine zt_iand kX3_leftOf_37 ?_
    refine zt_istore_n (L' := [zr 1 0, zi x1, zi (x1 &&& 4095)]) kX3_leftOf_38 (by decide) rfl ?_
    refine zt_aload_n kX3_leftOf_39 rfl ?_
    refine zt_get (v := zr 17 0) kX3_leftOf_40 fRX3_18 rfl (by decide) rfl ?_
    refine zt_iload_n kX3_leftOf_43 rfl ?_
    obtain ⟨hv, H⟩ := H
    refine zt_iald kX3_leftOf_44 rfl (by decide) hv ?_
    refine zt_iconst (v := (-1)) kX3_leftOf_45 rfl ?_
    refine zt_icmp_ne kX3_leftOf_46 (fun c => ?_) (fun c => ?_)
    · replace H := H.1 c
      refine zt_aload_n kX3_leftOf_63 rfl ?_
      refine zt_get (v := zr 17 0) kX3_leftOf_64 fRX3_18 rfl (by decide) rfl ?_
      refine zt_iload_n kX3_leftOf_67 rfl ?_
      obtain ⟨hv, H⟩ := H
      refine zt_iald kX3_leftOf_68 rfl (by decide) hv ?_
      exact zt_iret kX3_leftOf_69 rfl H
    · replace H := H.2 c
      refine zt_aload_n kX3_leftOf_49 rfl ?_
      refine zt_get (v := zr 17 0) kX3_leftOf_50 fRX3_18 rfl (by decide) rfl ?_
      refine zt_iload_n kX3_leftOf_53 rfl ?_
      refine zt_aload_n kX3_leftOf_54 rfl ?_
      refine zt_get (v := zr 2 0) kX3_leftOf_55 fRX3_12 rfl (by decide) rfl ?_
      refine zt_iload_n kX3_leftOf_58 rfl ?_
      refine zt_cV (as := [zi (x1 &&& 4095)]) kX3_leftOf_59 sRX3_45 rfl (by decide) rfl (by simp) rfl H (fun r2 h1 H => ?_)
      obtain ⟨y3, rfl, H⟩ := H
      obtain ⟨hv, H⟩ := H
      refine zt_iast kX3_leftOf_62 rfl (by decide) hv ?_
      refine zt_heap (fun h4 eh4 => ?_)
      replace H := H h4 eh4
      refine zt_aload_n kX3_leftOf_63 rfl ?_
      refine zt_get (v := zr 17 0) kX3_leftOf_64 fRX3_18 rfl (by decide) rfl ?_
      refine zt_iload_n kX3_leftOf_67 rfl ?_
      obtain ⟨hv, H⟩ := H
      refine zt_iald kX3_leftOf_68 rfl (by decide) hv ?_
      exact zt_iret kX3_leftOf_69 rfl H
  · replace H := H.2 c
    refine zt_aload_n kX3_leftOf_14 rfl ?_
    refine zt_get (v := zr 17 0) kX3_leftOf_15 fRX3_18 rfl (by decide) rfl ?_
    refine zt_iconst (v := (-1)) kX3_leftOf_18 rfl ?_
    refine zt_cS (as := [zr 17 0, zi (-1)]) kX3_leftOf_19 sRX3_39 rfl (by simp) rfl H (fun r6 h5 H => ?_)
    obtain ⟨rfl, H⟩ := H
    refine zt_aload_n kX3_leftOf_22 rfl ?_
    refine zt_aload_n kX3_leftOf_23 rfl ?_
    refine zt_get (v := zr 2 0) kX3_leftOf_24 fRX3_12 rfl (by decide) rfl ?_
    refine zt_get (v := zi (h5.1 2 0 9)) kX3_leftOf_27 fRX3_36 rfl (by decide) rfl ?_
    refine zt_put kX3_leftOf_30 fRX3_32 pRX3_5 rfl (by decide) rfl ?_
    refine zt_heap (fun h7 eh7 => ?_)
    replace H := H h7 eh7
    refine zt_iload_n kX3_leftOf_33 rfl ?_
    refine zt_sipush (v := 4095) kX3_leftOf_34 rfl ?_
    refine zt_iand kX3_leftOf_37 ?_
    refine zt_istore_n (L' := [zr 1 0, zi x1, zi (x1 &&& 4095)]) kX3_leftOf_38 (by decide) rfl ?_
    refine zt_aload_n kX3_leftOf_39 rfl ?_
    refine zt_get (v := zr 17 0) kX3_leftOf_40 fRX3_18 rfl (by decide) rfl ?_
    refine zt_iload_n kX3_leftOf_43 rfl ?_
    obtain ⟨hv, H⟩ := H
    refine zt_iald kX3_leftOf_44 rfl (by decide) hv ?_
    refine zt_iconst (v := (-1)) kX3_leftOf_45 rfl ?_
    refine zt_icmp_ne kX3_leftOf_46 (fun c => ?_) (fun c => ?_)
    · replace H := H.1 c
      refine zt_aload_n kX3_leftOf_63 rfl ?_
      refine zt_get (v := zr 17 0) kX3_leftOf_64 fRX3_18 rfl (by decide) rfl ?_
      refine zt_iload_n kX3_leftOf_67 rfl ?_
      obtain ⟨hv, H⟩ := H
      refine zt_iald kX3_leftOf_68 rfl (by decide) hv ?_
      exact zt_iret kX3_leftOf_69 rfl H
    · replace H := H.2 c
      refine zt_aload_n kX3_leftOf_49 rfl ?_
      refine zt_get (v := zr 17 0) kX3_leftOf_50 fRX3_18 rfl (by decide) rfl ?_
      refine zt_iload_n kX3_leftOf_53 rfl ?_
      refine zt_aload_n kX3_leftOf_54 rfl ?_
      refine zt_get (v := zr 2 0) kX3_leftOf_55 fRX3_12 rfl (by decide) rfl ?_
      refine zt_iload_n kX3_leftOf_58 rfl ?_
      refine zt_cV (as := [zi (x1 &&& 4095)]) kX3_leftOf_59 sRX3_45 rfl (by decide) rfl (by simp) rfl H (fun r9 h8 H => ?_)
      obtain ⟨y10, rfl, H⟩ := H
      obtain ⟨hv, H⟩ := H
      refine zt_iast kX3_leftOf_62 rfl (by decide) hv ?_
      refine zt_heap (fun h11 eh11 => ?_)
      replace H := H h11 eh11
      refine zt_aload_n kX3_leftOf_63 rfl ?_
      refine zt_get (v := zr 17 0) kX3_leftOf_64 fRX3_18 rfl (by decide) rfl ?_
      refine zt_iload_n kX3_leftOf_67 rfl ?_
      obtain ⟨hv, H⟩ := H
      refine zt_iald kX3_leftOf_68 rfl (by decide) hv ?_
      exact zt_iret kX3_leftOf_69 rfl H

theorem kX3_fallenWithout_0 : zD cX3_fallenWithout 0 1 (.aload_n 0) 1 := by decide +kernel
theorem kX3_fallenWithout_1 : zD cX3_fallenWithout 1 4 (.getfield 12) 3 := by decide +kernel
theorem kX3_fallenWithout_4 : zD cX3_fallenWithout 4 7 (.getfield 49) 3 := by decide +kernel
theorem kX3_fallenWithout_7 : zD cX3_fallenWithout 7 8 (.iload_n 1) 1 := by decide +kernel
theorem kX3_fallenWithout_8 : zD cX3_fallenWithout 8 9 (.iconst (-1)) 1 := by decide +kernel
theorem kX3_fallenWithout_9 : zD cX3_fallenWithout 9 10 (.ixor) 1 := by decide +kernel
theorem kX3_fallenWithout_10 : zD cX3_fallenWithout 10 11 (.iand) 1 := by decide +kernel
theorem kX3_fallenWithout_11 : zD cX3_fallenWithout 11 12 (.istore_n 2) 1 := by decide +kernel
theorem kX3_fallenWithout_12 : zD cX3_fallenWithout 12 13 (.iload_n 2) 1 := by decide +kernel
theorem kX3_fallenWithout_13 : zD cX3_fallenWithout 13 14 (.aload_n 0) 1 := by decide +kernel
theorem kX3_fallenWithout_14 : zD cX3_fallenWithout 14 15 (.iload_n 2) 1 := by decide +kernel
theorem kX3_fallenWithout_15 : zD cX3_fallenWithout 15 18 (.invokevirtual 52) 3 := by decide +kernel
theorem kX3_fallenWithout_18 : zD cX3_fallenWithout 18 19 (.iconst (-1)) 1 := by decide +kernel
theorem kX3_fallenWithout_19 : zD cX3_fallenWithout 19 20 (.ixor) 1 := by decide +kernel
theorem kX3_fallenWithout_20 : zD cX3_fallenWithout 20 21 (.iand) 1 := by decide +kernel
theorem kX3_fallenWithout_21 : zD cX3_fallenWithout 21 22 (.ireturn) 1 := by decide +kernel
set_option maxRecDepth 10000 in
theorem wX3_fallenWithout_0 {G : ZG} {d : Nat} {h : ZH} {Q : Option ZV → ZH → Prop} {x1 : Int32} 
  (H : zC G (d + 4) mX3_leftOf [zr 1 0, zi ((h.1 2 0 6) &&& (x1 ^^^ (-1)))] h (fun r2 h1 => ∃ y3 : Int32, r2 = some (zi y3) ∧ Q (some (zi (((h.1 2 0 6) &&& (x1 ^^^ (-1))) &&& (y3 ^^^ (-1))))) h1)) :
  zT G (d + 5) mX3_fallenWithout 0 [zr 1 0, zi x1, zu] [] h Q := by
  refine zt_aload_n kX3_fallenWithout_0 rfl ?_
  refine zt_get (v := zr 2 0) kX3_fallenWithout_1 fRX3_12 rfl (by decide) rfl ?_
  refine zt_get (v := zi (h.1 2 0 6)) kX3_fallenWithout_4 fRX3_49 rfl (by decide) rfl ?_
  refine zt_iload_n kX3_fallenWithout_7 rfl ?_
  refine zt_iconst (v := (-1)) kX3_fallenWithout_8 rfl ?_
  refine zt_ixor kX3_fallenWithout_9 ?_
  refine zt_iand kX3_fallenWithout_10 ?_
  refine zt_istore_n (L' := [zr 1 0, zi x1, zi ((h.1 2 0 6) &&& (x1 ^^^ (-1)))]) kX3_fallenWithout_11 (by decide) rfl ?_
  refine zt_iload_n kX3_fallenWithout_12 rfl ?_
  refine zt_aload_n kX3_fallenWithout_13 rfl ?_
  refine zt_iload_n kX3_fallenWithout_14 rfl ?_
  refine zt_cV (as := [zi ((h.1 2 0 6) &&& (x1 ^^^ (-1)))]) kX3_fallenWithout_15 sRX3_52 rfl (by decide) rfl (by simp) rfl H (fun r2 h1 H => ?_)
  obtain ⟨y3, rfl, H⟩ := H
  refine zt_iconst (v := (-1)) kX3_fallenWithout_18 rfl ?_
  refine zt_ixor kX3_fallenWithout_19 ?_
  refine zt_iand kX3_fallenWithout_20 ?_
  exact zt_iret kX3_fallenWithout_21 rfl H

theorem kX3_countWithout_0 : zD cX3_countWithout 0 1 (.aload_n 0) 1 := by decide +kernel
theorem kX3_countWithout_1 : zD cX3_countWithout 1 2 (.iload_n 1) 1 := by decide +kernel
theorem kX3_countWithout_2 : zD cX3_countWithout 2 5 (.invokevirtual 53) 3 := by decide +kernel
theorem kX3_countWithout_5 : zD cX3_countWithout 5 8 (.invokestatic 56) 3 := by decide +kernel
theorem kX3_countWithout_8 : zD cX3_countWithout 8 9 (.ireturn) 1 := by decide +kernel
set_option maxRecDepth 10000 in
theorem wX3_countWithout_0 {G : ZG} {d : Nat} {h : ZH} {Q : Option ZV → ZH → Prop} {x1 : Int32} 
  (H : zC G (d + 5) mX3_fallenWithout [zr 1 0, zi x1] h (fun r2 h1 => ∃ y3 : Int32, r2 = some (zi y3) ∧ Q (some (zi (bcI y3))) h1)) :
  zT G (d + 6) mX3_countWithout 0 [zr 1 0, zi x1] [] h Q := by
  refine zt_aload_n kX3_countWithout_0 rfl ?_
  refine zt_iload_n kX3_countWithout_1 rfl ?_
  refine zt_cV (as := [zi x1]) kX3_countWithout_2 sRX3_53 rfl (by decide) rfl (by simp) rfl H (fun r2 h1 H => ?_)
  obtain ⟨y3, rfl, H⟩ := H
  refine zt_cS (as := [zi y3]) kX3_countWithout_5 sRX3_56 rfl (by simp) rfl (sJ6_bitCount_0f7a4 _  ) (fun r h0 hq => ?_)
  obtain ⟨rfl, hh⟩ := hq
  replace hh := hh.symm
  subst hh
  exact zt_iret kX3_countWithout_8 rfl H

theorem kX3_isSafeIn_0 : zD cX3_isSafeIn 0 1 (.iload_n 1) 1 := by decide +kernel
theorem kX3_isSafeIn_1 : zD cX3_isSafeIn 1 2 (.iconst 1) 1 := by decide +kernel
theorem kX3_isSafeIn_2 : zD cX3_isSafeIn 2 3 (.iload_n 2) 1 := by decide +kernel
theorem kX3_isSafeIn_3 : zD cX3_isSafeIn 3 4 (.ishl) 1 := by decide +kernel
theorem kX3_isSafeIn_4 : zD cX3_isSafeIn 4 5 (.iconst (-1)) 1 := by decide +kernel
theorem kX3_isSafeIn_5 : zD cX3_isSafeIn 5 6 (.ixor) 1 := by decide +kernel
theorem kX3_isSafeIn_6 : zD cX3_isSafeIn 6 7 (.iand) 1 := by decide +kernel
theorem kX3_isSafeIn_7 : zD cX3_isSafeIn 7 8 (.istore_n 3) 1 := by decide +kernel
theorem kX3_isSafeIn_8 : zD cX3_isSafeIn 8 9 (.iload_n 3) 1 := by decide +kernel
theorem kX3_isSafeIn_9 : zD cX3_isSafeIn 9 10 (.iload_n 1) 1 := by decide +kernel
theorem kX3_isSafeIn_10 : zB cX3_isSafeIn 10 13 26 (.if_icmp .eq 16) 16 := by decide +kernel
theorem kX3_isSafeIn_13 : zD cX3_isSafeIn 13 14 (.aload_n 0) 1 := by decide +kernel
theorem kX3_isSafeIn_14 : zD cX3_isSafeIn 14 15 (.iload_n 3) 1 := by decide +kernel
theorem kX3_isSafeIn_15 : zD cX3_isSafeIn 15 18 (.invokevirtual 52) 3 := by decide +kernel
theorem kX3_isSafeIn_18 : zD cX3_isSafeIn 18 19 (.iload_n 3) 1 := by decide +kernel
theorem kX3_isSafeIn_19 : zB cX3_isSafeIn 19 22 26 (.if_icmp .ne 7) 7 := by decide +kernel
theorem kX3_isSafeIn_22 : zD cX3_isSafeIn 22 23 (.iconst 1) 1 := by decide +kernel
theorem kX3_isSafeIn_23 : zB cX3_isSafeIn 23 26 27 (.goto 4) 4 := by decide +kernel
theorem kX3_isSafeIn_26 : zD cX3_isSafeIn 26 27 (.iconst 0) 1 := by decide +kernel
theorem kX3_isSafeIn_27 : zD cX3_isSafeIn 27 28 (.ireturn) 1 := by decide +kernel
set_option maxRecDepth 10000 in
theorem wX3_isSafeIn_0 {G : ZG} {d : Nat} {h : ZH} {Q : Option ZV → ZH → Prop} {x1 : Int32} {x2 : Int32} 
  (H : ((x1 &&& (((1 : Int32) <<< (x2 &&& 31)) ^^^ (-1))) = x1 → Q (some (zi 0)) h) ∧ (¬ (x1 &&& (((1 : Int32) <<< (x2 &&& 31)) ^^^ (-1))) = x1 → zC G (d + 4) mX3_leftOf [zr 1 0, zi (x1 &&& (((1 : Int32) <<< (x2 &&& 31)) ^^^ (-1)))] h (fun r2 h1 => ∃ y3 : Int32, r2 = some (zi y3) ∧ (¬ y3 = (x1 &&& (((1 : Int32) <<< (x2 &&& 31)) ^^^ (-1))) → Q (some (zi 0)) h1) ∧ (y3 = (x1 &&& (((1 : Int32) <<< (x2 &&& 31)) ^^^ (-1))) → Q (some (zi 1)) h1)))) :
  zT G (d + 5) mX3_isSafeIn 0 [zr 1 0, zi x1, zi x2, zu] [] h Q := by
  refine zt_iload_n kX3_isSafeIn_0 rfl ?_
  refine zt_iconst (v := 1) kX3_isSafeIn_1 rfl ?_
  refine zt_iload_n kX3_isSafeIn_2 rfl ?_
  refine zt_ishl kX3_isSafeIn_3 ?_
  refine zt_iconst (v := (-1)) kX3_isSafeIn_4 rfl ?_
  refine zt_ixor kX3_isSafeIn_5 ?_
  refine zt_iand kX3_isSafeIn_6 ?_
  refine zt_istore_n (L' := [zr 1 0, zi x1, zi x2, zi (x1 &&& (((1 : Int32) <<< (x2 &&& 31)) ^^^ (-1)))]) kX3_isSafeIn_7 (by decide) rfl ?_
  refine zt_iload_n kX3_isSafeIn_8 rfl ?_
  refine zt_iload_n kX3_isSafeIn_9 rfl ?_
  refine zt_icmp_eq kX3_isSafeIn_10 (fun c => ?_) (fun c => ?_)
  · replace H := H.1 c
    refine zt_iconst (v := 0) kX3_isSafeIn_26 rfl ?_
    exact zt_zret kX3_isSafeIn_27 rfl (by decide) H
  · replace H := H.2 c
    refine zt_aload_n kX3_isSafeIn_13 rfl ?_
    refine zt_iload_n kX3_isSafeIn_14 rfl ?_
    refine zt_cV (as := [zi (x1 &&& (((1 : Int32) <<< (x2 &&& 31)) ^^^ (-1)))]) kX3_isSafeIn_15 sRX3_52 rfl (by decide) rfl (by simp) rfl H (fun r2 h1 H => ?_)
    obtain ⟨y3, rfl, H⟩ := H
    refine zt_iload_n kX3_isSafeIn_18 rfl ?_
    refine zt_icmp_ne kX3_isSafeIn_19 (fun c => ?_) (fun c => ?_)
    · replace H := H.1 c
      refine zt_iconst (v := 0) kX3_isSafeIn_26 rfl ?_
      exact zt_zret kX3_isSafeIn_27 rfl (by decide) H
    · replace H := H.2 c
      refine zt_iconst (v := 1) kX3_isSafeIn_22 rfl ?_
      refine zt_goto kX3_isSafeIn_23 ?_
      exact zt_zret kX3_isSafeIn_27 rfl (by decide) H

theorem kX4_lay_0 : zD cX4_lay 0 1 (.aload_n 0) 1 := by decide +kernel
theorem kX4_lay_1 : zD cX4_lay 1 4 (.getfield 9) 3 := by decide +kernel
theorem kX4_lay_4 : zD cX4_lay 4 5 (.iload_n 1) 1 := by decide +kernel
theorem kX4_lay_5 : zD cX4_lay 5 6 (.iload_n 2) 1 := by decide +kernel
theorem kX4_lay_6 : zD cX4_lay 6 7 (.iastore) 1 := by decide +kernel
theorem kX4_lay_7 : zD cX4_lay 7 8 (.aload_n 0) 1 := by decide +kernel
theorem kX4_lay_8 : zD cX4_lay 8 11 (.getfield 15) 3 := by decide +kernel
theorem kX4_lay_11 : zD cX4_lay 11 12 (.iload_n 1) 1 := by decide +kernel
theorem kX4_lay_12 : zD cX4_lay 12 13 (.iload_n 3) 1 := by decide +kernel
theorem kX4_lay_13 : zD cX4_lay 13 14 (.iastore) 1 := by decide +kernel
theorem kX4_lay_14 : zD cX4_lay 14 15 (.aload_n 0) 1 := by decide +kernel
theorem kX4_lay_15 : zD cX4_lay 15 18 (.getfield 18) 3 := by decide +kernel
theorem kX4_lay_18 : zD cX4_lay 18 19 (.iload_n 1) 1 := by decide +kernel
theorem kX4_lay_19 : zD cX4_lay 19 21 (.aload 4) 2 := by decide +kernel
theorem kX4_lay_21 : zD cX4_lay 21 22 (.iload_n 3) 1 := by decide +kernel
theorem kX4_lay_22 : zD cX4_lay 22 25 (.invokevirtual 53) 3 := by decide +kernel
theorem kX4_lay_25 : zD cX4_lay 25 26 (.iastore) 1 := by decide +kernel
theorem kX4_lay_26 : zD cX4_lay 26 27 (.aload_n 0) 1 := by decide +kernel
theorem kX4_lay_27 : zD cX4_lay 27 30 (.getfield 21) 3 := by decide +kernel
theorem kX4_lay_30 : zD cX4_lay 30 31 (.iload_n 1) 1 := by decide +kernel
theorem kX4_lay_31 : zD cX4_lay 31 33 (.aload 4) 2 := by decide +kernel
theorem kX4_lay_33 : zD cX4_lay 33 34 (.iload_n 3) 1 := by decide +kernel
theorem kX4_lay_34 : zD cX4_lay 34 37 (.invokevirtual 59) 3 := by decide +kernel
theorem kX4_lay_37 : zD cX4_lay 37 38 (.iastore) 1 := by decide +kernel
theorem kX4_lay_38 : zD cX4_lay 38 39 (.aload_n 0) 1 := by decide +kernel
theorem kX4_lay_39 : zD cX4_lay 39 42 (.getfield 24) 3 := by decide +kernel
theorem kX4_lay_42 : zD cX4_lay 42 43 (.iload_n 1) 1 := by decide +kernel
theorem kX4_lay_43 : zD cX4_lay 43 45 (.aload 4) 2 := by decide +kernel
theorem kX4_lay_45 : zD cX4_lay 45 48 (.invokevirtual 61) 3 := by decide +kernel
theorem kX4_lay_48 : zD cX4_lay 48 49 (.iastore) 1 := by decide +kernel
theorem kX4_lay_49 : zD cX4_lay 49 50 (.aload_n 0) 1 := by decide +kernel
theorem kX4_lay_50 : zD cX4_lay 50 51 (.aload_n 0) 1 := by decide +kernel
theorem kX4_lay_51 : zD cX4_lay 51 54 (.getfield 24) 3 := by decide +kernel
theorem kX4_lay_54 : zD cX4_lay 54 55 (.iload_n 1) 1 := by decide +kernel
theorem kX4_lay_55 : zD cX4_lay 55 56 (.iaload) 1 := by decide +kernel
theorem kX4_lay_56 : zD cX4_lay 56 57 (.iconst 3) 1 := by decide +kernel
theorem kX4_lay_57 : zB cX4_lay 57 60 73 (.if_icmp .ne 16) 16 := by decide +kernel
theorem kX4_lay_60 : zD cX4_lay 60 61 (.aload_n 0) 1 := by decide +kernel
theorem kX4_lay_61 : zD cX4_lay 61 64 (.getfield 37) 3 := by decide +kernel
theorem kX4_lay_64 : zD cX4_lay 64 65 (.iconst 1) 1 := by decide +kernel
theorem kX4_lay_65 : zD cX4_lay 65 66 (.iload_n 1) 1 := by decide +kernel
theorem kX4_lay_66 : zD cX4_lay 66 67 (.ishl) 1 := by decide +kernel
theorem kX4_lay_67 : zD cX4_lay 67 68 (.iconst (-1)) 1 := by decide +kernel
theorem kX4_lay_68 : zD cX4_lay 68 69 (.ixor) 1 := by decide +kernel
theorem kX4_lay_69 : zD cX4_lay 69 70 (.iand) 1 := by decide +kernel
theorem kX4_lay_70 : zB cX4_lay 70 73 81 (.goto 11) 11 := by decide +kernel
theorem kX4_lay_73 : zD cX4_lay 73 74 (.aload_n 0) 1 := by decide +kernel
theorem kX4_lay_74 : zD cX4_lay 74 77 (.getfield 37) 3 := by decide +kernel
theorem kX4_lay_77 : zD cX4_lay 77 78 (.iconst 1) 1 := by decide +kernel
theorem kX4_lay_78 : zD cX4_lay 78 79 (.iload_n 1) 1 := by decide +kernel
theorem kX4_lay_79 : zD cX4_lay 79 80 (.ishl) 1 := by decide +kernel
theorem kX4_lay_80 : zD cX4_lay 80 81 (.ior) 1 := by decide +kernel
theorem kX4_lay_81 : zD cX4_lay 81 84 (.putfield 37) 3 := by decide +kernel
theorem kX4_lay_84 : zD cX4_lay 84 85 (.aload_n 0) 1 := by decide +kernel
theorem kX4_lay_85 : zD cX4_lay 85 86 (.dup) 1 := by decide +kernel
theorem kX4_lay_86 : zD cX4_lay 86 89 (.getfield 30) 3 := by decide +kernel
theorem kX4_lay_89 : zD cX4_lay 89 90 (.iconst 1) 1 := by decide +kernel
theorem kX4_lay_90 : zD cX4_lay 90 91 (.iload_n 1) 1 := by decide +kernel
theorem kX4_lay_91 : zD cX4_lay 91 92 (.ishl) 1 := by decide +kernel
theorem kX4_lay_92 : zD cX4_lay 92 93 (.ior) 1 := by decide +kernel
theorem kX4_lay_93 : zD cX4_lay 93 96 (.putfield 30) 3 := by decide +kernel
theorem kX4_lay_96 : zD cX4_lay 96 97 (.aload_n 0) 1 := by decide +kernel
theorem kX4_lay_97 : zD cX4_lay 97 98 (.dup) 1 := by decide +kernel
theorem kX4_lay_98 : zD cX4_lay 98 101 (.getfield 40) 3 := by decide +kernel
theorem kX4_lay_101 : zD cX4_lay 101 102 (.iconst 1) 1 := by decide +kernel
theorem kX4_lay_102 : zD cX4_lay 102 103 (.iadd) 1 := by decide +kernel
theorem kX4_lay_103 : zD cX4_lay 103 106 (.putfield 40) 3 := by decide +kernel
theorem kX4_lay_106 : zD cX4_lay 106 107 (.aload_n 0) 1 := by decide +kernel
theorem kX4_lay_107 : zD cX4_lay 107 110 (.invokevirtual 65) 3 := by decide +kernel
theorem kX4_lay_110 : zD cX4_lay 110 111 (.ireturn) 1 := by decide +kernel
set_option maxRecDepth 10000 in
theorem wX4_lay_0 {G : ZG} {d : Nat} {h : ZH} {Q : Option ZV → ZH → Prop} {i0 : Nat} {x1 : Int32} {x2 : Int32} {x3 : Int32} {i4 : Nat} (hi0 : i0 < zcnt 2) (hi4 : i4 < zcnt 4)
  (H : vp_in x1 12 ∧ (∀ h1 : ZH, h1 = zs1 h 10 i0 x1.toNatClampNeg x2 → vp_in x1 12 ∧ (∀ h2 : ZH, h2 = zs1 h1 11 i0 x1.toNatClampNeg x3 → zCX G (d + 4) RX4 53 mX10_weight i4 [zi x3] 1 h2 (fun r4 h3 => ∃ y5 : Int32, r4 = some (zi y5) ∧ vp_in x1 12 ∧ (∀ h6 : ZH, h6 = zs1 h3 12 i0 x1.toNatClampNeg y5 → zCX G (d + 4) RX4 59 mX10_bears i4 [zi x3] 1 h6 (fun r8 h7 => ∃ y9 : Int32, r8 = some (zi y9) ∧ vp_in x1 12 ∧ (∀ h10 : ZH, h10 = zs1 h7 13 i0 x1.toNatClampNeg y9 → zCX G (d + 4) RX4 61 mX10_manner i4 [] 0 h10 (fun r12 h11 => ∃ y13 : Int32, r12 = some (zi y13) ∧ vp_in x1 12 ∧ (∀ h14 : ZH, h14 = zs1 h11 14 i0 x1.toNatClampNeg y13 → vp_in x1 12 ∧ (¬ (h14.1 14 i0 x1.toNatClampNeg) = 3 → ∀ h15 : ZH, h15 = zs1 h14 2 i0 8 ((h14.1 2 i0 8) ||| ((1 : Int32) <<< (x1 &&& 31))) → ∀ h16 : ZH, h16 = zs1 h15 2 i0 6 ((h15.1 2 i0 6) ||| ((1 : Int32) <<< (x1 &&& 31))) → ∀ h17 : ZH, h17 = zs1 h16 2 i0 9 ((h16.1 2 i0 9) + 1) → zC G (d + 4) mX4_settle [zr 2 i0] h17 (fun r19 h18 => ∃ y20 : Int32, r19 = some (zi y20) ∧ Q (some (zi y20)) h18)) ∧ ((h14.1 14 i0 x1.toNatClampNeg) = 3 → ∀ h21 : ZH, h21 = zs1 h14 2 i0 8 ((h14.1 2 i0 8) &&& (((1 : Int32) <<< (x1 &&& 31)) ^^^ (-1))) → ∀ h22 : ZH, h22 = zs1 h21 2 i0 6 ((h21.1 2 i0 6) ||| ((1 : Int32) <<< (x1 &&& 31))) → ∀ h23 : ZH, h23 = zs1 h22 2 i0 9 ((h22.1 2 i0 9) + 1) → zC G (d + 4) mX4_settle [zr 2 i0] h23 (fun r25 h24 => ∃ y26 : Int32, r25 = some (zi y26) ∧ Q (some (zi y26)) h24))))))))))) :
  zT G (d + 5) mX4_lay 0 [zr 2 i0, zi x1, zi x2, zi x3, zr 4 i4] [] h Q := by
  refine zt_aload_n kX4_lay_0 rfl ?_
  refine zt_get (v := zr 10 i0) kX4_lay_1 fRX4_9 rfl hi0 rfl ?_
  refine zt_iload_n kX4_lay_4 rfl ?_
  refine zt_iload_n kX4_lay_5 rfl ?_
  obtain ⟨hv, H⟩ := H
  refine zt_iast kX4_lay_6 rfl hi0 hv ?_
  refine zt_heap (fun h1 eh1 => ?_)
  replace H := H h1 eh1
  refine zt_aload_n kX4_lay_7 rfl ?_
  refine zt_get (v := zr 11 i0) kX4_lay_8 fRX4_15 rfl hi0 rfl ?_
  refine zt_iload_n kX4_lay_11 rfl ?_
  refine zt_iload_n kX4_lay_12 rfl ?_
  obtain ⟨hv, H⟩ := H
  refine zt_iast kX4_lay_13 rfl hi0 hv ?_
  refine zt_heap (fun h2 eh2 => ?_)
  replace H := H h2 eh2
  refine zt_aload_n kX4_lay_14 rfl ?_
  refine zt_get (v := zr 12 i0) kX4_lay_15 fRX4_18 rfl hi0 rfl ?_
  refine zt_iload_n kX4_lay_18 rfl ?_
  refine zt_aload kX4_lay_19 rfl ?_
  refine zt_iload_n kX4_lay_21 rfl ?_
  refine zt_cX (as := [zi x3]) kX4_lay_22 (i := i4) H hi4 rfl (by simp) rfl (fun r4 h3 H => ?_)
  obtain ⟨y5, rfl, H⟩ := H
  obtain ⟨hv, H⟩ := H
  refine zt_iast kX4_lay_25 rfl hi0 hv ?_
  refine zt_heap (fun h6 eh6 => ?_)
  replace H := H h6 eh6
  refine zt_aload_n kX4_lay_26 rfl ?_
  refine zt_get (v := zr 13 i0) kX4_lay_27 fRX4_21 rfl hi0 rfl ?_
  refine zt_iload_n kX4_lay_30 rfl ?_
  refine zt_aload kX4_lay_31 rfl ?_
  refine zt_iload_n kX4_lay_33 rfl ?_
  refine zt_cX (as := [zi x3]) kX4_lay_34 (i := i4) H hi4 rfl (by simp) rfl (fun r8 h7 H => ?_)
  obtain ⟨y9, rfl, H⟩ := H
  obtain ⟨hv, H⟩ := H
  refine zt_iast kX4_lay_37 rfl hi0 hv ?_
  refine zt_heap (fun h10 eh10 => ?_)
  replace H := H h10 eh10
  refine zt_aload_n kX4_lay_38 rfl ?_
  refine zt_get (v := zr 14 i0) kX4_lay_39 fRX4_24 rfl hi0 rfl ?_
  refine zt_iload_n kX4_lay_42 rfl ?_
  refine zt_aload kX4_lay_43 rfl ?_
  refine zt_cX (as := []) kX4_lay_45 (i := i4) H hi4 rfl (by simp) rfl (fun r12 h11 H => ?_)
  obtain ⟨y13, rfl, H⟩ := H
  obtain ⟨hv, H⟩ := H
  refine zt_iast kX4_lay_48 rfl hi0 hv ?_
  refine zt_heap (fun h14 eh14 => ?_)
  replace H := H h14 eh14
  refine zt_aload_n kX4_lay_49 rfl ?_
  refine zt_aload_n kX4_lay_50 rfl ?_
  refine zt_get (v := zr 14 i0) kX4_lay_51 fRX4_24 rfl hi0 rfl ?_
  refine zt_iload_n kX4_lay_54 rfl ?_
  obtain ⟨hv, H⟩ := H
  refine zt_iald kX4_lay_55 rfl hi0 hv ?_
  refine zt_iconst (v := 3) kX4_lay_56 rfl ?_
  refine zt_icmp_ne kX4_lay_57 (fun c => ?_) (fun c => ?_)
  · replace H := H.1 c
    refine zt_aload_n kX4_lay_73 rfl ?_
    refine zt_get (v := zi (h14.1 2 i0 8)) kX4_lay_74 fRX4_37 rfl hi0 rfl ?_
    refine zt_iconst (v := 1) kX4_lay_77 rfl ?_
    refine zt_iload_n kX4_lay_78 rfl ?_
    refine zt_ishl kX4_lay_79 ?_
    refine zt_ior kX4_lay_80 ?_
    refine zt_put kX4_lay_81 fRX4_37 pRX4_8 rfl hi0 rfl ?_
    refine zt_heap (fun h15 eh15 => ?_)
    replace H := H h15 eh15
    refine zt_aload_n kX4_lay_84 rfl ?_
    refine zt_dup kX4_lay_85 (by intro x q; cases q) ?_
    refine zt_get (v := zi (h15.1 2 i0 6)) kX4_lay_86 fRX4_30 rfl hi0 rfl ?_
    refine zt_iconst (v := 1) kX4_lay_89 rfl ?_
    refine zt_iload_n kX4_lay_90 rfl ?_
    refine zt_ishl kX4_lay_91 ?_
    refine zt_ior kX4_lay_92 ?_
    refine zt_put kX4_lay_93 fRX4_30 pRX4_6 rfl hi0 rfl ?_
    refine zt_heap (fun h16 eh16 => ?_)
    replace H := H h16 eh16
    refine zt_aload_n kX4_lay_96 rfl ?_
    refine zt_dup kX4_lay_97 (by intro x q; cases q) ?_
    refine zt_get (v := zi (h16.1 2 i0 9)) kX4_lay_98 fRX4_40 rfl hi0 rfl ?_
    refine zt_iconst (v := 1) kX4_lay_101 rfl ?_
    refine zt_iadd kX4_lay_102 ?_
    refine zt_put kX4_lay_103 fRX4_40 pRX4_9 rfl hi0 rfl ?_
    refine zt_heap (fun h17 eh17 => ?_)
    replace H := H h17 eh17
    refine zt_aload_n kX4_lay_106 rfl ?_
    refine zt_cV (as := []) kX4_lay_107 sRX4_65 rfl hi0 rfl (by simp) rfl H (fun r19 h18 H => ?_)
    obtain ⟨y20, rfl, H⟩ := H
    exact zt_iret kX4_lay_110 rfl H
  · replace H := H.2 c
    refine zt_aload_n kX4_lay_60 rfl ?_
    refine zt_get (v := zi (h14.1 2 i0 8)) kX4_lay_61 fRX4_37 rfl hi0 rfl ?_
    refine zt_iconst (v := 1) kX4_lay_64 rfl ?_
    refine zt_iload_n kX4_lay_65 rfl ?_
    refine zt_ishl kX4_lay_66 ?_
    refine zt_iconst (v := (-1)) kX4_lay_67 rfl ?_
    refine zt_ixor kX4_lay_68 ?_
    refine zt_iand kX4_lay_69 ?_
    refine zt_goto kX4_lay_70 ?_
    refine zt_put kX4_lay_81 fRX4_37 pRX4_8 rfl hi0 rfl ?_
    refine zt_heap (fun h21 eh21 => ?_)
    replace H := H h21 eh21
    refine zt_aload_n kX4_lay_84 rfl ?_
    refine zt_dup kX4_lay_85 (by intro x q; cases q) ?_
    refine zt_get (v := zi (h21.1 2 i0 6)) kX4_lay_86 fRX4_30 rfl hi0 rfl ?_
    refine zt_iconst (v := 1) kX4_lay_89 rfl ?_
    refine zt_iload_n kX4_lay_90 rfl ?_
    refine zt_ishl kX4_lay_91 ?_
    refine zt_ior kX4_lay_92 ?_
    refine zt_put kX4_lay_93 fRX4_30 pRX4_6 rfl hi0 rfl ?_
    refine zt_heap (fun h22 eh22 => ?_)
    replace H := H h22 eh22
    refine zt_aload_n kX4_lay_96 rfl ?_
    refine zt_dup kX4_lay_97 (by intro x q; cases q) ?_
    refine zt_get (v := zi (h22.1 2 i0 9)) kX4_lay_98 fRX4_40 rfl hi0 rfl ?_
    refine zt_iconst (v := 1) kX4_lay_101 rfl ?_
    refine zt_iadd kX4_lay_102 ?_
    refine zt_put kX4_lay_103 fRX4_40 pRX4_9 rfl hi0 rfl ?_
    refine zt_heap (fun h23 eh23 => ?_)
    replace H := H h23 eh23
    refine zt_aload_n kX4_lay_106 rfl ?_
    refine zt_cV (as := []) kX4_lay_107 sRX4_65 rfl hi0 rfl (by simp) rfl H (fun r25 h24 H => ?_)
    obtain ⟨y26, rfl, H⟩ := H
    exact zt_iret kX4_lay_110 rfl H

theorem kX4_takeOut_0 : zD cX4_takeOut 0 1 (.aload_n 0) 1 := by decide +kernel
theorem kX4_takeOut_1 : zD cX4_takeOut 1 2 (.dup) 1 := by decide +kernel
theorem kX4_takeOut_2 : zD cX4_takeOut 2 5 (.getfield 30) 3 := by decide +kernel
theorem kX4_takeOut_5 : zD cX4_takeOut 5 6 (.iconst 1) 1 := by decide +kernel
theorem kX4_takeOut_6 : zD cX4_takeOut 6 7 (.iload_n 1) 1 := by decide +kernel
theorem kX4_takeOut_7 : zD cX4_takeOut 7 8 (.ishl) 1 := by decide +kernel
theorem kX4_takeOut_8 : zD cX4_takeOut 8 9 (.iconst (-1)) 1 := by decide +kernel
theorem kX4_takeOut_9 : zD cX4_takeOut 9 10 (.ixor) 1 := by decide +kernel
theorem kX4_takeOut_10 : zD cX4_takeOut 10 11 (.iand) 1 := by decide +kernel
theorem kX4_takeOut_11 : zD cX4_takeOut 11 14 (.putfield 30) 3 := by decide +kernel
theorem kX4_takeOut_14 : zD cX4_takeOut 14 15 (.aload_n 0) 1 := by decide +kernel
theorem kX4_takeOut_15 : zD cX4_takeOut 15 18 (.invokevirtual 65) 3 := by decide +kernel
theorem kX4_takeOut_18 : zD cX4_takeOut 18 19 (.ireturn) 1 := by decide +kernel
set_option maxRecDepth 10000 in
theorem wX4_takeOut_0 {G : ZG} {d : Nat} {h : ZH} {Q : Option ZV → ZH → Prop} {i0 : Nat} {x1 : Int32} (hi0 : i0 < zcnt 2)
  (H : ∀ h1 : ZH, h1 = zs1 h 2 i0 6 ((h.1 2 i0 6) &&& (((1 : Int32) <<< (x1 &&& 31)) ^^^ (-1))) → zC G (d + 4) mX4_settle [zr 2 i0] h1 (fun r3 h2 => ∃ y4 : Int32, r3 = some (zi y4) ∧ Q (some (zi y4)) h2)) :
  zT G (d + 5) mX4_takeOut 0 [zr 2 i0, zi x1] [] h Q := by
  refine zt_aload_n kX4_takeOut_0 rfl ?_
  refine zt_dup kX4_takeOut_1 (by intro x q; cases q) ?_
  refine zt_get (v := zi (h.1 2 i0 6)) kX4_takeOut_2 fRX4_30 rfl hi0 rfl ?_
  refine zt_iconst (v := 1) kX4_takeOut_5 rfl ?_
  refine zt_iload_n kX4_takeOut_6 rfl ?_
  refine zt_ishl kX4_takeOut_7 ?_
  refine zt_iconst (v := (-1)) kX4_takeOut_8 rfl ?_
  refine zt_ixor kX4_takeOut_9 ?_
  refine zt_iand kX4_takeOut_10 ?_
  refine zt_put kX4_takeOut_11 fRX4_30 pRX4_6 rfl hi0 rfl ?_
  refine zt_heap (fun h1 eh1 => ?_)
  replace H := H h1 eh1
  refine zt_aload_n kX4_takeOut_14 rfl ?_
  refine zt_cV (as := []) kX4_takeOut_15 sRX4_65 rfl hi0 rfl (by simp) rfl H (fun r3 h2 H => ?_)
  obtain ⟨y4, rfl, H⟩ := H
  exact zt_iret kX4_takeOut_18 rfl H

theorem kX4_turnProp_0 : zD cX4_turnProp 0 1 (.aload_n 0) 1 := by decide +kernel
theorem kX4_turnProp_1 : zD cX4_turnProp 1 2 (.dup) 1 := by decide +kernel
theorem kX4_turnProp_2 : zD cX4_turnProp 2 5 (.getfield 34) 3 := by decide +kernel
theorem kX4_turnProp_5 : zD cX4_turnProp 5 6 (.iconst 1) 1 := by decide +kernel
theorem kX4_turnProp_6 : zD cX4_turnProp 6 7 (.iload_n 1) 1 := by decide +kernel
theorem kX4_turnProp_7 : zD cX4_turnProp 7 8 (.ishl) 1 := by decide +kernel
theorem kX4_turnProp_8 : zD cX4_turnProp 8 9 (.ixor) 1 := by decide +kernel
theorem kX4_turnProp_9 : zD cX4_turnProp 9 12 (.putfield 34) 3 := by decide +kernel
theorem kX4_turnProp_12 : zD cX4_turnProp 12 13 (.aload_n 0) 1 := by decide +kernel
theorem kX4_turnProp_13 : zD cX4_turnProp 13 14 (.dup) 1 := by decide +kernel
theorem kX4_turnProp_14 : zD cX4_turnProp 14 17 (.getfield 40) 3 := by decide +kernel
theorem kX4_turnProp_17 : zD cX4_turnProp 17 18 (.iconst 1) 1 := by decide +kernel
theorem kX4_turnProp_18 : zD cX4_turnProp 18 19 (.iadd) 1 := by decide +kernel
theorem kX4_turnProp_19 : zD cX4_turnProp 19 22 (.putfield 40) 3 := by decide +kernel
theorem kX4_turnProp_22 : zD cX4_turnProp 22 23 (.aload_n 0) 1 := by decide +kernel
theorem kX4_turnProp_23 : zD cX4_turnProp 23 26 (.invokevirtual 65) 3 := by decide +kernel
theorem kX4_turnProp_26 : zD cX4_turnProp 26 27 (.ireturn) 1 := by decide +kernel
set_option maxRecDepth 10000 in
theorem wX4_turnProp_0 {G : ZG} {d : Nat} {h : ZH} {Q : Option ZV → ZH → Prop} {i0 : Nat} {x1 : Int32} (hi0 : i0 < zcnt 2)
  (H : ∀ h1 : ZH, h1 = zs1 h 2 i0 7 ((h.1 2 i0 7) ^^^ ((1 : Int32) <<< (x1 &&& 31))) → ∀ h2 : ZH, h2 = zs1 h1 2 i0 9 ((h1.1 2 i0 9) + 1) → zC G (d + 4) mX4_settle [zr 2 i0] h2 (fun r4 h3 => ∃ y5 : Int32, r4 = some (zi y5) ∧ Q (some (zi y5)) h3)) :
  zT G (d + 5) mX4_turnProp 0 [zr 2 i0, zi x1] [] h Q := by
  refine zt_aload_n kX4_turnProp_0 rfl ?_
  refine zt_dup kX4_turnProp_1 (by intro x q; cases q) ?_
  refine zt_get (v := zi (h.1 2 i0 7)) kX4_turnProp_2 fRX4_34 rfl hi0 rfl ?_
  refine zt_iconst (v := 1) kX4_turnProp_5 rfl ?_
  refine zt_iload_n kX4_turnProp_6 rfl ?_
  refine zt_ishl kX4_turnProp_7 ?_
  refine zt_ixor kX4_turnProp_8 ?_
  refine zt_put kX4_turnProp_9 fRX4_34 pRX4_7 rfl hi0 rfl ?_
  refine zt_heap (fun h1 eh1 => ?_)
  replace H := H h1 eh1
  refine zt_aload_n kX4_turnProp_12 rfl ?_
  refine zt_dup kX4_turnProp_13 (by intro x q; cases q) ?_
  refine zt_get (v := zi (h1.1 2 i0 9)) kX4_turnProp_14 fRX4_40 rfl hi0 rfl ?_
  refine zt_iconst (v := 1) kX4_turnProp_17 rfl ?_
  refine zt_iadd kX4_turnProp_18 ?_
  refine zt_put kX4_turnProp_19 fRX4_40 pRX4_9 rfl hi0 rfl ?_
  refine zt_heap (fun h2 eh2 => ?_)
  replace H := H h2 eh2
  refine zt_aload_n kX4_turnProp_22 rfl ?_
  refine zt_cV (as := []) kX4_turnProp_23 sRX4_65 rfl hi0 rfl (by simp) rfl H (fun r4 h3 H => ?_)
  obtain ⟨y5, rfl, H⟩ := H
  exact zt_iret kX4_turnProp_26 rfl H

theorem kX4_becomeAs_0 : zD cX4_becomeAs 0 1 (.aload_n 1) 1 := by decide +kernel
theorem kX4_becomeAs_1 : zD cX4_becomeAs 1 4 (.getfield 9) 3 := by decide +kernel
theorem kX4_becomeAs_4 : zD cX4_becomeAs 4 5 (.iconst 0) 1 := by decide +kernel
theorem kX4_becomeAs_5 : zD cX4_becomeAs 5 6 (.aload_n 0) 1 := by decide +kernel
theorem kX4_becomeAs_6 : zD cX4_becomeAs 6 9 (.getfield 9) 3 := by decide +kernel
theorem kX4_becomeAs_9 : zD cX4_becomeAs 9 10 (.iconst 0) 1 := by decide +kernel
theorem kX4_becomeAs_10 : zD cX4_becomeAs 10 12 (.bipush 12) 2 := by decide +kernel
theorem kX4_becomeAs_12 : zD cX4_becomeAs 12 15 (.invokestatic 47) 3 := by decide +kernel
theorem kX4_becomeAs_15 : zD cX4_becomeAs 15 16 (.aload_n 1) 1 := by decide +kernel
theorem kX4_becomeAs_16 : zD cX4_becomeAs 16 19 (.getfield 15) 3 := by decide +kernel
theorem kX4_becomeAs_19 : zD cX4_becomeAs 19 20 (.iconst 0) 1 := by decide +kernel
theorem kX4_becomeAs_20 : zD cX4_becomeAs 20 21 (.aload_n 0) 1 := by decide +kernel
theorem kX4_becomeAs_21 : zD cX4_becomeAs 21 24 (.getfield 15) 3 := by decide +kernel
theorem kX4_becomeAs_24 : zD cX4_becomeAs 24 25 (.iconst 0) 1 := by decide +kernel
theorem kX4_becomeAs_25 : zD cX4_becomeAs 25 27 (.bipush 12) 2 := by decide +kernel
theorem kX4_becomeAs_27 : zD cX4_becomeAs 27 30 (.invokestatic 47) 3 := by decide +kernel
theorem kX4_becomeAs_30 : zD cX4_becomeAs 30 31 (.aload_n 1) 1 := by decide +kernel
theorem kX4_becomeAs_31 : zD cX4_becomeAs 31 34 (.getfield 18) 3 := by decide +kernel
theorem kX4_becomeAs_34 : zD cX4_becomeAs 34 35 (.iconst 0) 1 := by decide +kernel
theorem kX4_becomeAs_35 : zD cX4_becomeAs 35 36 (.aload_n 0) 1 := by decide +kernel
theorem kX4_becomeAs_36 : zD cX4_becomeAs 36 39 (.getfield 18) 3 := by decide +kernel
theorem kX4_becomeAs_39 : zD cX4_becomeAs 39 40 (.iconst 0) 1 := by decide +kernel
theorem kX4_becomeAs_40 : zD cX4_becomeAs 40 42 (.bipush 12) 2 := by decide +kernel
theorem kX4_becomeAs_42 : zD cX4_becomeAs 42 45 (.invokestatic 47) 3 := by decide +kernel
theorem kX4_becomeAs_45 : zD cX4_becomeAs 45 46 (.aload_n 1) 1 := by decide +kernel
theorem kX4_becomeAs_46 : zD cX4_becomeAs 46 49 (.getfield 21) 3 := by decide +kernel
theorem kX4_becomeAs_49 : zD cX4_becomeAs 49 50 (.iconst 0) 1 := by decide +kernel
theorem kX4_becomeAs_50 : zD cX4_becomeAs 50 51 (.aload_n 0) 1 := by decide +kernel
theorem kX4_becomeAs_51 : zD cX4_becomeAs 51 54 (.getfield 21) 3 := by decide +kernel
theorem kX4_becomeAs_54 : zD cX4_becomeAs 54 55 (.iconst 0) 1 := by decide +kernel
theorem kX4_becomeAs_55 : zD cX4_becomeAs 55 57 (.bipush 12) 2 := by decide +kernel
theorem kX4_becomeAs_57 : zD cX4_becomeAs 57 60 (.invokestatic 47) 3 := by decide +kernel
theorem kX4_becomeAs_60 : zD cX4_becomeAs 60 61 (.aload_n 1) 1 := by decide +kernel
theorem kX4_becomeAs_61 : zD cX4_becomeAs 61 64 (.getfield 24) 3 := by decide +kernel
theorem kX4_becomeAs_64 : zD cX4_becomeAs 64 65 (.iconst 0) 1 := by decide +kernel
theorem kX4_becomeAs_65 : zD cX4_becomeAs 65 66 (.aload_n 0) 1 := by decide +kernel
theorem kX4_becomeAs_66 : zD cX4_becomeAs 66 69 (.getfield 24) 3 := by decide +kernel
theorem kX4_becomeAs_69 : zD cX4_becomeAs 69 70 (.iconst 0) 1 := by decide +kernel
theorem kX4_becomeAs_70 : zD cX4_becomeAs 70 72 (.bipush 12) 2 := by decide +kernel
theorem kX4_becomeAs_72 : zD cX4_becomeAs 72 75 (.invokestatic 47) 3 := by decide +kernel
theorem kX4_becomeAs_75 : zD cX4_becomeAs 75 76 (.aload_n 0) 1 := by decide +kernel
theorem kX4_becomeAs_76 : zD cX4_becomeAs 76 77 (.aload_n 1) 1 := by decide +kernel
theorem kX4_becomeAs_77 : zD cX4_becomeAs 77 80 (.getfield 30) 3 := by decide +kernel
theorem kX4_becomeAs_80 : zD cX4_becomeAs 80 83 (.putfield 30) 3 := by decide +kernel
theorem kX4_becomeAs_83 : zD cX4_becomeAs 83 84 (.aload_n 0) 1 := by decide +kernel
theorem kX4_becomeAs_84 : zD cX4_becomeAs 84 85 (.aload_n 1) 1 := by decide +kernel
theorem kX4_becomeAs_85 : zD cX4_becomeAs 85 88 (.getfield 34) 3 := by decide +kernel
theorem kX4_becomeAs_88 : zD cX4_becomeAs 88 91 (.putfield 34) 3 := by decide +kernel
theorem kX4_becomeAs_91 : zD cX4_becomeAs 91 92 (.aload_n 0) 1 := by decide +kernel
theorem kX4_becomeAs_92 : zD cX4_becomeAs 92 93 (.aload_n 1) 1 := by decide +kernel
theorem kX4_becomeAs_93 : zD cX4_becomeAs 93 96 (.getfield 37) 3 := by decide +kernel
theorem kX4_becomeAs_96 : zD cX4_becomeAs 96 99 (.putfield 37) 3 := by decide +kernel
theorem kX4_becomeAs_99 : zD cX4_becomeAs 99 100 (.aload_n 0) 1 := by decide +kernel
theorem kX4_becomeAs_100 : zD cX4_becomeAs 100 101 (.dup) 1 := by decide +kernel
theorem kX4_becomeAs_101 : zD cX4_becomeAs 101 104 (.getfield 40) 3 := by decide +kernel
theorem kX4_becomeAs_104 : zD cX4_becomeAs 104 105 (.iconst 1) 1 := by decide +kernel
theorem kX4_becomeAs_105 : zD cX4_becomeAs 105 106 (.iadd) 1 := by decide +kernel
theorem kX4_becomeAs_106 : zD cX4_becomeAs 106 109 (.putfield 40) 3 := by decide +kernel
theorem kX4_becomeAs_109 : zD cX4_becomeAs 109 110 (.return_) 1 := by decide +kernel
set_option maxRecDepth 10000 in
theorem wX4_becomeAs_0 {G : ZG} {d : Nat} {h : ZH} {Q : Option ZV → ZH → Prop} {i0 : Nat} {i1 : Nat} (hi0 : i0 < zcnt 2) (hi1 : i1 < zcnt 2)
  (H : ∀ h1 : ZH, h1 = zsR h 10 i0 (va_cpy (h.1 10 i1) (h.1 10 i0) (0 : Int32).toNatClampNeg (0 : Int32).toNatClampNeg (12 : Int32).toNatClampNeg) → ∀ h2 : ZH, h2 = zsR h1 11 i0 (va_cpy (h1.1 11 i1) (h1.1 11 i0) (0 : Int32).toNatClampNeg (0 : Int32).toNatClampNeg (12 : Int32).toNatClampNeg) → ∀ h3 : ZH, h3 = zsR h2 12 i0 (va_cpy (h2.1 12 i1) (h2.1 12 i0) (0 : Int32).toNatClampNeg (0 : Int32).toNatClampNeg (12 : Int32).toNatClampNeg) → ∀ h4 : ZH, h4 = zsR h3 13 i0 (va_cpy (h3.1 13 i1) (h3.1 13 i0) (0 : Int32).toNatClampNeg (0 : Int32).toNatClampNeg (12 : Int32).toNatClampNeg) → ∀ h5 : ZH, h5 = zsR h4 14 i0 (va_cpy (h4.1 14 i1) (h4.1 14 i0) (0 : Int32).toNatClampNeg (0 : Int32).toNatClampNeg (12 : Int32).toNatClampNeg) → ∀ h6 : ZH, h6 = zs1 h5 2 i0 6 (h5.1 2 i1 6) → ∀ h7 : ZH, h7 = zs1 h6 2 i0 7 (h6.1 2 i1 7) → ∀ h8 : ZH, h8 = zs1 h7 2 i0 8 (h7.1 2 i1 8) → ∀ h9 : ZH, h9 = zs1 h8 2 i0 9 ((h8.1 2 i0 9) + 1) → Q none h9) :
  zT G (d + 1) mX4_becomeAs 0 [zr 2 i0, zr 2 i1] [] h Q := by
  refine zt_aload_n kX4_becomeAs_0 rfl ?_
  refine zt_get (v := zr 10 i1) kX4_becomeAs_1 fRX4_9 rfl hi1 rfl ?_
  refine zt_iconst (v := 0) kX4_becomeAs_4 rfl ?_
  refine zt_aload_n kX4_becomeAs_5 rfl ?_
  refine zt_get (v := zr 10 i0) kX4_becomeAs_6 fRX4_9 rfl hi0 rfl ?_
  refine zt_iconst (v := 0) kX4_becomeAs_9 rfl ?_
  refine zt_bipush (v := 12) kX4_becomeAs_10 rfl ?_
  refine zt_copy kX4_becomeAs_12 aRX4_47 rfl rfl hi1 hi0 (by decide) (by decide) (by decide) (by decide) (by decide) (by decide) ?_
  refine zt_heap (fun h1 eh1 => ?_)
  replace H := H h1 eh1
  refine zt_aload_n kX4_becomeAs_15 rfl ?_
  refine zt_get (v := zr 11 i1) kX4_becomeAs_16 fRX4_15 rfl hi1 rfl ?_
  refine zt_iconst (v := 0) kX4_becomeAs_19 rfl ?_
  refine zt_aload_n kX4_becomeAs_20 rfl ?_
  refine zt_get (v := zr 11 i0) kX4_becomeAs_21 fRX4_15 rfl hi0 rfl ?_
  refine zt_iconst (v := 0) kX4_becomeAs_24 rfl ?_
  refine zt_bipush (v := 12) kX4_becomeAs_25 rfl ?_
  refine zt_copy kX4_becomeAs_27 aRX4_47 rfl rfl hi1 hi0 (by decide) (by decide) (by decide) (by decide) (by decide) (by decide) ?_
  refine zt_heap (fun h2 eh2 => ?_)
  replace H := H h2 eh2
  refine zt_aload_n kX4_becomeAs_30 rfl ?_
  refine zt_get (v := zr 12 i1) kX4_becomeAs_31 fRX4_18 rfl hi1 rfl ?_
  refine zt_iconst (v := 0) kX4_becomeAs_34 rfl ?_
  refine zt_aload_n kX4_becomeAs_35 rfl ?_
  refine zt_get (v := zr 12 i0) kX4_becomeAs_36 fRX4_18 rfl hi0 rfl ?_
  refine zt_iconst (v := 0) kX4_becomeAs_39 rfl ?_
  refine zt_bipush (v := 12) kX4_becomeAs_40 rfl ?_
  refine zt_copy kX4_becomeAs_42 aRX4_47 rfl rfl hi1 hi0 (by decide) (by decide) (by decide) (by decide) (by decide) (by decide) ?_
  refine zt_heap (fun h3 eh3 => ?_)
  replace H := H h3 eh3
  refine zt_aload_n kX4_becomeAs_45 rfl ?_
  refine zt_get (v := zr 13 i1) kX4_becomeAs_46 fRX4_21 rfl hi1 rfl ?_
  refine zt_iconst (v := 0) kX4_becomeAs_49 rfl ?_
  refine zt_aload_n kX4_becomeAs_50 rfl ?_
  refine zt_get (v := zr 13 i0) kX4_becomeAs_51 fRX4_21 rfl hi0 rfl ?_
  refine zt_iconst (v := 0) kX4_becomeAs_54 rfl ?_
  refine zt_bipush (v := 12) kX4_becomeAs_55 rfl ?_
  refine zt_copy kX4_becomeAs_57 aRX4_47 rfl rfl hi1 hi0 (by decide) (by decide) (by decide) (by decide) (by decide) (by decide) ?_
  refine zt_heap (fun h4 eh4 => ?_)
  replace H := H h4 eh4
  refine zt_aload_n kX4_becomeAs_60 rfl ?_
  refine zt_get (v := zr 14 i1) kX4_becomeAs_61 fRX4_24 rfl hi1 rfl ?_
  refine zt_iconst (v := 0) kX4_becomeAs_64 rfl ?_
  refine zt_aload_n kX4_becomeAs_65 rfl ?_
  refine zt_get (v := zr 14 i0) kX4_becomeAs_66 fRX4_24 rfl hi0 rfl ?_
  refine zt_iconst (v := 0) kX4_becomeAs_69 rfl ?_
  refine zt_bipush (v := 12) kX4_becomeAs_70 rfl ?_
  refine zt_copy kX4_becomeAs_72 aRX4_47 rfl rfl hi1 hi0 (by decide) (by decide) (by decide) (by decide) (by decide) (by decide) ?_
  refine zt_heap (fun h5 eh5 => ?_)
  replace H := H h5 eh5
  refine zt_aload_n kX4_becomeAs_75 rfl ?_
  refine zt_aload_n kX4_becomeAs_76 rfl ?_
  refine zt_get (v := zi (h5.1 2 i1 6)) kX4_becomeAs_77 fRX4_30 rfl hi1 rfl ?_
  refine zt_put kX4_becomeAs_80 fRX4_30 pRX4_6 rfl hi0 rfl ?_
  refine zt_heap (fun h6 eh6 => ?_)
  replace H := H h6 eh6
  refine zt_aload_n kX4_becomeAs_83 rfl ?_
  refine zt_aload_n kX4_becomeAs_84 rfl ?_
  refine zt_get (v := zi (h6.1 2 i1 7)) kX4_becomeAs_85 fRX4_34 rfl hi1 rfl ?_
  refine zt_put kX4_becomeAs_88 fRX4_34 pRX4_7 rfl hi0 rfl ?_
  refine zt_heap (fun h7 eh7 => ?_)
  replace H := H h7 eh7
  refine zt_aload_n kX4_becomeAs_91 rfl ?_
  refine zt_aload_n kX4_becomeAs_92 rfl ?_
  refine zt_get (v := zi (h7.1 2 i1 8)) kX4_becomeAs_93 fRX4_37 rfl hi1 rfl ?_
  refine zt_put kX4_becomeAs_96 fRX4_37 pRX4_8 rfl hi0 rfl ?_
  refine zt_heap (fun h8 eh8 => ?_)
  replace H := H h8 eh8
  refine zt_aload_n kX4_becomeAs_99 rfl ?_
  refine zt_dup kX4_becomeAs_100 (by intro x q; cases q) ?_
  refine zt_get (v := zi (h8.1 2 i0 9)) kX4_becomeAs_101 fRX4_40 rfl hi0 rfl ?_
  refine zt_iconst (v := 1) kX4_becomeAs_104 rfl ?_
  refine zt_iadd kX4_becomeAs_105 ?_
  refine zt_put kX4_becomeAs_106 fRX4_40 pRX4_9 rfl hi0 rfl ?_
  refine zt_heap (fun h9 eh9 => ?_)
  replace H := H h9 eh9
  exact zt_vret kX4_becomeAs_109 rfl H

theorem kX12_laysAt_0 : zD cX12_laysAt 0 1 (.aload_n 0) 1 := by decide +kernel
theorem kX12_laysAt_1 : zD cX12_laysAt 1 4 (.getfield 9) 3 := by decide +kernel
theorem kX12_laysAt_4 : zD cX12_laysAt 4 5 (.iconst 2) 1 := by decide +kernel
theorem kX12_laysAt_5 : zD cX12_laysAt 5 6 (.iconst 2) 1 := by decide +kernel
theorem kX12_laysAt_6 : zD cX12_laysAt 6 7 (.iload_n 1) 1 := by decide +kernel
theorem kX12_laysAt_7 : zD cX12_laysAt 7 8 (.imul) 1 := by decide +kernel
theorem kX12_laysAt_8 : zD cX12_laysAt 8 9 (.iadd) 1 := by decide +kernel
theorem kX12_laysAt_9 : zD cX12_laysAt 9 10 (.iload_n 2) 1 := by decide +kernel
theorem kX12_laysAt_10 : zD cX12_laysAt 10 11 (.iastore) 1 := by decide +kernel
theorem kX12_laysAt_11 : zD cX12_laysAt 11 12 (.aload_n 0) 1 := by decide +kernel
theorem kX12_laysAt_12 : zD cX12_laysAt 12 15 (.getfield 9) 3 := by decide +kernel
theorem kX12_laysAt_15 : zD cX12_laysAt 15 16 (.iconst 2) 1 := by decide +kernel
theorem kX12_laysAt_16 : zD cX12_laysAt 16 17 (.iconst 2) 1 := by decide +kernel
theorem kX12_laysAt_17 : zD cX12_laysAt 17 18 (.iload_n 1) 1 := by decide +kernel
theorem kX12_laysAt_18 : zD cX12_laysAt 18 19 (.imul) 1 := by decide +kernel
theorem kX12_laysAt_19 : zD cX12_laysAt 19 20 (.iadd) 1 := by decide +kernel
theorem kX12_laysAt_20 : zD cX12_laysAt 20 21 (.iconst 1) 1 := by decide +kernel
theorem kX12_laysAt_21 : zD cX12_laysAt 21 22 (.iadd) 1 := by decide +kernel
theorem kX12_laysAt_22 : zD cX12_laysAt 22 23 (.iload_n 3) 1 := by decide +kernel
theorem kX12_laysAt_23 : zD cX12_laysAt 23 24 (.iastore) 1 := by decide +kernel
theorem kX12_laysAt_24 : zD cX12_laysAt 24 25 (.aload_n 0) 1 := by decide +kernel
theorem kX12_laysAt_25 : zD cX12_laysAt 25 28 (.getfield 9) 3 := by decide +kernel
theorem kX12_laysAt_28 : zD cX12_laysAt 28 29 (.iconst 0) 1 := by decide +kernel
theorem kX12_laysAt_29 : zD cX12_laysAt 29 30 (.aload_n 0) 1 := by decide +kernel
theorem kX12_laysAt_30 : zD cX12_laysAt 30 31 (.aload_n 0) 1 := by decide +kernel
theorem kX12_laysAt_31 : zD cX12_laysAt 31 34 (.getfield 9) 3 := by decide +kernel
theorem kX12_laysAt_34 : zD cX12_laysAt 34 35 (.iconst 0) 1 := by decide +kernel
theorem kX12_laysAt_35 : zD cX12_laysAt 35 36 (.iaload) 1 := by decide +kernel
theorem kX12_laysAt_36 : zD cX12_laysAt 36 37 (.iconst 1) 1 := by decide +kernel
theorem kX12_laysAt_37 : zD cX12_laysAt 37 38 (.iload_n 1) 1 := by decide +kernel
theorem kX12_laysAt_38 : zD cX12_laysAt 38 39 (.ishl) 1 := by decide +kernel
theorem kX12_laysAt_39 : zD cX12_laysAt 39 40 (.ior) 1 := by decide +kernel
theorem kX12_laysAt_40 : zD cX12_laysAt 40 43 (.invokevirtual 104) 3 := by decide +kernel
theorem kX12_laysAt_43 : zD cX12_laysAt 43 44 (.iastore) 1 := by decide +kernel
theorem kX12_laysAt_44 : zD cX12_laysAt 44 45 (.return_) 1 := by decide +kernel
set_option maxRecDepth 10000 in
theorem wX12_laysAt_0 {G : ZG} {d : Nat} {h : ZH} {Q : Option ZV → ZH → Prop} {x1 : Int32} {x2 : Int32} {x3 : Int32} 
  (H : vp_in (2 + (2 * x1)) 26 ∧ (∀ h1 : ZH, h1 = zs1 h 30 0 (2 + (2 * x1)).toNatClampNeg x2 → vp_in ((2 + (2 * x1)) + 1) 26 ∧ (∀ h2 : ZH, h2 = zs1 h1 30 0 ((2 + (2 * x1)) + 1).toNatClampNeg x3 → zC G (d + 5) mX12_settled [zr 5 0, zi ((h2.1 30 0 0) ||| ((1 : Int32) <<< (x1 &&& 31)))] h2 (fun r4 h3 => ∃ y5 : Int32, r4 = some (zi y5) ∧ ∀ h6 : ZH, h6 = zs1 h3 30 0 0 y5 → Q none h6)))) :
  zT G (d + 6) mX12_laysAt 0 [zr 5 0, zi x1, zi x2, zi x3] [] h Q := by
  refine zt_aload_n kX12_laysAt_0 rfl ?_
  refine zt_get (v := zr 30 0) kX12_laysAt_1 fRX12_9 rfl (by decide) rfl ?_
  refine zt_iconst (v := 2) kX12_laysAt_4 rfl ?_
  refine zt_iconst (v := 2) kX12_laysAt_5 rfl ?_
  refine zt_iload_n kX12_laysAt_6 rfl ?_
  refine zt_imul kX12_laysAt_7 ?_
  refine zt_iadd kX12_laysAt_8 ?_
  refine zt_iload_n kX12_laysAt_9 rfl ?_
  obtain ⟨hv, H⟩ := H
  refine zt_iast kX12_laysAt_10 rfl (by decide) hv ?_
  refine zt_heap (fun h1 eh1 => ?_)
  replace H := H h1 eh1
  refine zt_aload_n kX12_laysAt_11 rfl ?_
  refine zt_get (v := zr 30 0) kX12_laysAt_12 fRX12_9 rfl (by decide) rfl ?_
  refine zt_iconst (v := 2) kX12_laysAt_15 rfl ?_
  refine zt_iconst (v := 2) kX12_laysAt_16 rfl ?_
  refine zt_iload_n kX12_laysAt_17 rfl ?_
  refine zt_imul kX12_laysAt_18 ?_
  refine zt_iadd kX12_laysAt_19 ?_
  refine zt_iconst (v := 1) kX12_laysAt_20 rfl ?_
  refine zt_iadd kX12_laysAt_21 ?_
  refine zt_iload_n kX12_laysAt_22 rfl ?_
  obtain ⟨hv, H⟩ := H
  refine zt_iast kX12_laysAt_23 rfl (by decide) hv ?_
  refine zt_heap (fun h2 eh2 => ?_)
  replace H := H h2 eh2
  refine zt_aload_n kX12_laysAt_24 rfl ?_
  refine zt_get (v := zr 30 0) kX12_laysAt_25 fRX12_9 rfl (by decide) rfl ?_
  refine zt_iconst (v := 0) kX12_laysAt_28 rfl ?_
  refine zt_aload_n kX12_laysAt_29 rfl ?_
  refine zt_aload_n kX12_laysAt_30 rfl ?_
  refine zt_get (v := zr 30 0) kX12_laysAt_31 fRX12_9 rfl (by decide) rfl ?_
  refine zt_iconst (v := 0) kX12_laysAt_34 rfl ?_
  refine zt_ialdc 0 rfl kX12_laysAt_35 rfl (by decide) (zvp_dec (by decide)) ?_
  refine zt_iconst (v := 1) kX12_laysAt_36 rfl ?_
  refine zt_iload_n kX12_laysAt_37 rfl ?_
  refine zt_ishl kX12_laysAt_38 ?_
  refine zt_ior kX12_laysAt_39 ?_
  refine zt_cV (as := [zi ((h2.1 30 0 0) ||| ((1 : Int32) <<< (x1 &&& 31)))]) kX12_laysAt_40 sRX12_104 rfl (by decide) rfl (by simp) rfl H (fun r4 h3 H => ?_)
  obtain ⟨y5, rfl, H⟩ := H
  refine zt_iastc 0 rfl kX12_laysAt_43 rfl (by decide) (zvp_dec (by decide)) ?_
  refine zt_heap (fun h6 eh6 => ?_)
  replace H := H h6 eh6
  exact zt_vret kX12_laysAt_44 rfl H

