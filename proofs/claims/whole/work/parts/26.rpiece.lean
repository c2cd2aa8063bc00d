theorem wbl_6779963 : wbl 6779963 3 = [103, 116, 59] := by decide +kernel
theorem wbl_7107643 : wbl 7107643 3 = [108, 116, 59] := by decide +kernel
theorem wbl_1634562107 : wbl 1634562107 4 = [97, 109, 112, 59] := by decide +kernel
theorem wbl_418498179899 : wbl 418498179899 5 = [97, 112, 111, 115, 59] := by decide +kernel
theorem wbl_487301542971 : wbl 487301542971 5 = [113, 117, 111, 116, 59] := by decide +kernel
theorem dg_more (T : Nat → Int) (n : Int) : ∀ (k : Nat) (v : Int) (c : Nat) (p : Int), dg T n (k + 1) v c p = if (dg T n k v c p).2.1 = c + k ∧ isDg (ob T n (dg T n k v c p).2.2) then ((dg T n k v c p).1 * 10 + ob T n (dg T n k v c p).2.2 - 48, c + k + 1, (dg T n k v c p).2.2 + 1) else dg T n k v c p
  | 0, v, c, p => by
    simp only [dg, Nat.add_zero, true_and]
  | k + 1, v, c, p => by
    rw [dg]
    by_cases q : isDg (ob T n p)
    · have e : dg T n (k + 1) v c p = dg T n k (v * 10 + ob T n p - 48) (c + 1) (p + 1) := by rw [dg, if_pos q]
      rw [if_pos q, dg_more T n k, e, show c + 1 + k = c + (k + 1) by omega]
    · have e : dg T n (k + 1) v c p = (v, c, p) := by rw [dg, if_neg q]
      rw [if_neg q, e, if_neg (fun z => by have := z.1; simp at this)]
theorem dg_cnt (T : Nat → Int) (n : Int) : ∀ (k : Nat) (v : Int) (c : Nat) (p : Int), (dg T n k v c p).2.1 ≤ c + k
  | 0, v, c, p => by simp [dg]
  | k + 1, v, c, p => by
    rw [dg]
    split
    · have := dg_cnt T n k (v * 10 + ob T n p - 48) (c + 1) (p + 1); omega
    · simp
/-- the same with seven digits looked at -/
def numR (T : Nat → Int) (n h : Int) : Int × Nat × Int := if ob T n (h + 1) = 35 then dg T n 7 0 0 (h + 1 + 1) else (0, 0, h + 1)
theorem numS_R (T : Nat → Int) (n h : Int) : numS T n h = if ¬ (1 ≤ ((numR T n h).2.1 : Int) ∧ ((numR T n h).2.1 : Int) ≤ 6) ∨ ob T n (numR T n h).2.2 ≠ 59 ∨ ¬ isCh (numR T n h).1 then .inl (-1, h) else .inr ((numR T n h).1, (numR T n h).2.2 + 1) := by
  unfold numS numQ numR
  by_cases q : ob T n (h + 1) = 35
  · simp only [if_pos q]
    have hc := dg_cnt T n 6 0 0 (h + 1 + 1)
    rw [dg_more T n 6]
    generalize dg T n 6 0 0 (h + 1 + 1) = r at hc
    obtain ⟨v, c, p⟩ := r
    dsimp only at hc ⊢
    by_cases z : c = 0 + 6 ∧ isDg (ob T n p)
    · rw [if_pos z]
      dsimp only
      rw [if_pos (Or.inr (Or.inl (by omega))), if_pos (Or.inl (by omega))]
    · rw [if_neg z]
      dsimp only
      by_cases z2 : c = 0 ∨ ob T n p ≠ 59 ∨ ¬ isCh v
      · rw [if_pos z2, if_pos (by rcases z2 with z2 | z2; exact Or.inl (by omega); exact Or.inr z2)]
      · rw [if_neg z2, if_neg (fun z3 => z2 (by rcases z3 with z3 | z3; exact Or.inl (by omega); exact Or.inr z3))]
  · simp only [if_neg q]
    rw [if_pos (Or.inl trivial), if_pos (Or.inl (by omega))]
section P26
variable {cs : Cs} {Q : Option AV → Mm → Prop} {MI ML : Nat → Nat → Int} {d e nw th x : Nat} {a w pl sz br : Int}
theorem dX12_takePiece_0 : decode cX12_takePiece 0 = .ok (.aload_n 0, 1) := by decide +kernel
theorem dX12_takePiece_1 : decode cX12_takePiece 1 = .ok (.getfield 276, 3) := by decide +kernel
theorem dX12_takePiece_4 : decode cX12_takePiece 4 = .ok (.istore_n 1, 1) := by decide +kernel
theorem dX12_takePiece_5 : decode cX12_takePiece 5 = .ok (.aload_n 0, 1) := by decide +kernel
theorem dX12_takePiece_6 : decode cX12_takePiece 6 = .ok (.aload_n 0, 1) := by decide +kernel
theorem dX12_takePiece_7 : decode cX12_takePiece 7 = .ok (.getfield 276, 3) := by decide +kernel
theorem dX12_takePiece_10 : decode cX12_takePiece 10 = .ok (.invokevirtual 279, 3) := by decide +kernel
theorem dX12_takePiece_13 : decode cX12_takePiece 13 = .ok (.istore_n 2, 1) := by decide +kernel
theorem dX12_takePiece_14 : decode cX12_takePiece 14 = .ok (.aload_n 0, 1) := by decide +kernel
theorem dX12_takePiece_15 : decode cX12_takePiece 15 = .ok (.iload_n 2, 1) := by decide +kernel
theorem dX12_takePiece_16 : decode cX12_takePiece 16 = .ok (.bipush 38, 2) := by decide +kernel
theorem dX12_takePiece_18 : decode cX12_takePiece 18 = .ok (.if_icmp .ne 7, 3) := by decide +kernel
theorem dX12_takePiece_21 : decode cX12_takePiece 21 = .ok (.iconst 1, 1) := by decide +kernel
theorem dX12_takePiece_22 : decode cX12_takePiece 22 = .ok (.goto 4, 3) := by decide +kernel
theorem dX12_takePiece_25 : decode cX12_takePiece 25 = .ok (.iconst 0, 1) := by decide +kernel
theorem dX12_takePiece_26 : decode cX12_takePiece 26 = .ok (.putfield 309, 3) := by decide +kernel
theorem dX12_takePiece_29 : decode cX12_takePiece 29 = .ok (.iload_n 2, 1) := by decide +kernel
theorem dX12_takePiece_30 : decode cX12_takePiece 30 = .ok (.invokestatic 313, 3) := by decide +kernel
theorem dX12_takePiece_33 : decode cX12_takePiece 33 = .ok (.ifCond .ne 11, 3) := by decide +kernel
theorem dX12_takePiece_36 : decode cX12_takePiece 36 = .ok (.aload_n 0, 1) := by decide +kernel
theorem dX12_takePiece_37 : decode cX12_takePiece 37 = .ok (.iconst (-1), 1) := by decide +kernel
theorem dX12_takePiece_38 : decode cX12_takePiece 38 = .ok (.iload_n 1, 1) := by decide +kernel
theorem dX12_takePiece_39 : decode cX12_takePiece 39 = .ok (.invokevirtual 293, 3) := by decide +kernel
theorem dX12_takePiece_42 : decode cX12_takePiece 42 = .ok (.iconst (-1), 1) := by decide +kernel
theorem dX12_takePiece_43 : decode cX12_takePiece 43 = .ok (.ireturn, 1) := by decide +kernel
theorem dX12_takePiece_44 : decode cX12_takePiece 44 = .ok (.aload_n 0, 1) := by decide +kernel
theorem dX12_takePiece_45 : decode cX12_takePiece 45 = .ok (.dup, 1) := by decide +kernel
theorem dX12_takePiece_46 : decode cX12_takePiece 46 = .ok (.getfield 276, 3) := by decide +kernel
theorem dX12_takePiece_49 : decode cX12_takePiece 49 = .ok (.iconst 1, 1) := by decide +kernel
theorem dX12_takePiece_50 : decode cX12_takePiece 50 = .ok (.iadd, 1) := by decide +kernel
theorem dX12_takePiece_51 : decode cX12_takePiece 51 = .ok (.putfield 276, 3) := by decide +kernel
theorem dX12_takePiece_54 : decode cX12_takePiece 54 = .ok (.aload_n 0, 1) := by decide +kernel
theorem dX12_takePiece_55 : decode cX12_takePiece 55 = .ok (.getfield 309, 3) := by decide +kernel
theorem dX12_takePiece_58 : decode cX12_takePiece 58 = .ok (.ifCond .ne 5, 3) := by decide +kernel
theorem dX12_takePiece_61 : decode cX12_takePiece 61 = .ok (.iload_n 2, 1) := by decide +kernel
theorem dX12_takePiece_62 : decode cX12_takePiece 62 = .ok (.ireturn, 1) := by decide +kernel
theorem dX12_takePiece_63 : decode cX12_takePiece 63 = .ok (.aload_n 0, 1) := by decide +kernel
theorem dX12_takePiece_64 : decode cX12_takePiece 64 = .ok (.ldc2_w 316, 3) := by decide +kernel
theorem dX12_takePiece_67 : decode cX12_takePiece 67 = .ok (.iconst 3, 1) := by decide +kernel
theorem dX12_takePiece_68 : decode cX12_takePiece 68 = .ok (.invokevirtual 285, 3) := by decide +kernel
theorem dX12_takePiece_71 : decode cX12_takePiece 71 = .ok (.ifCond .eq 16, 3) := by decide +kernel
theorem dX12_takePiece_74 : decode cX12_takePiece 74 = .ok (.aload_n 0, 1) := by decide +kernel
theorem dX12_takePiece_75 : decode cX12_takePiece 75 = .ok (.dup, 1) := by decide +kernel
theorem dX12_takePiece_76 : decode cX12_takePiece 76 = .ok (.getfield 276, 3) := by decide +kernel
theorem dX12_takePiece_79 : decode cX12_takePiece 79 = .ok (.iconst 3, 1) := by decide +kernel
theorem dX12_takePiece_80 : decode cX12_takePiece 80 = .ok (.iadd, 1) := by decide +kernel
theorem dX12_takePiece_81 : decode cX12_takePiece 81 = .ok (.putfield 276, 3) := by decide +kernel
theorem dX12_takePiece_84 : decode cX12_takePiece 84 = .ok (.bipush 60, 2) := by decide +kernel
theorem dX12_takePiece_86 : decode cX12_takePiece 86 = .ok (.ireturn, 1) := by decide +kernel
theorem dX12_takePiece_87 : decode cX12_takePiece 87 = .ok (.aload_n 0, 1) := by decide +kernel
theorem dX12_takePiece_88 : decode cX12_takePiece 88 = .ok (.ldc2_w 318, 3) := by decide +kernel
theorem dX12_takePiece_91 : decode cX12_takePiece 91 = .ok (.iconst 3, 1) := by decide +kernel
theorem dX12_takePiece_92 : decode cX12_takePiece 92 = .ok (.invokevirtual 285, 3) := by decide +kernel
theorem dX12_takePiece_95 : decode cX12_takePiece 95 = .ok (.ifCond .eq 16, 3) := by decide +kernel
theorem dX12_takePiece_98 : decode cX12_takePiece 98 = .ok (.aload_n 0, 1) := by decide +kernel
theorem dX12_takePiece_99 : decode cX12_takePiece 99 = .ok (.dup, 1) := by decide +kernel
theorem dX12_takePiece_100 : decode cX12_takePiece 100 = .ok (.getfield 276, 3) := by decide +kernel
theorem dX12_takePiece_103 : decode cX12_takePiece 103 = .ok (.iconst 3, 1) := by decide +kernel
theorem dX12_takePiece_104 : decode cX12_takePiece 104 = .ok (.iadd, 1) := by decide +kernel
theorem dX12_takePiece_105 : decode cX12_takePiece 105 = .ok (.putfield 276, 3) := by decide +kernel
theorem dX12_takePiece_108 : decode cX12_takePiece 108 = .ok (.bipush 62, 2) := by decide +kernel
theorem dX12_takePiece_110 : decode cX12_takePiece 110 = .ok (.ireturn, 1) := by decide +kernel
theorem dX12_takePiece_111 : decode cX12_takePiece 111 = .ok (.aload_n 0, 1) := by decide +kernel
theorem dX12_takePiece_112 : decode cX12_takePiece 112 = .ok (.ldc2_w 320, 3) := by decide +kernel
theorem dX12_takePiece_115 : decode cX12_takePiece 115 = .ok (.iconst 4, 1) := by decide +kernel
theorem dX12_takePiece_116 : decode cX12_takePiece 116 = .ok (.invokevirtual 285, 3) := by decide +kernel
theorem dX12_takePiece_119 : decode cX12_takePiece 119 = .ok (.ifCond .eq 16, 3) := by decide +kernel
theorem dX12_takePiece_122 : decode cX12_takePiece 122 = .ok (.aload_n 0, 1) := by decide +kernel
theorem dX12_takePiece_123 : decode cX12_takePiece 123 = .ok (.dup, 1) := by decide +kernel
theorem dX12_takePiece_124 : decode cX12_takePiece 124 = .ok (.getfield 276, 3) := by decide +kernel
theorem dX12_takePiece_127 : decode cX12_takePiece 127 = .ok (.iconst 4, 1) := by decide +kernel
theorem dX12_takePiece_128 : decode cX12_takePiece 128 = .ok (.iadd, 1) := by decide +kernel
theorem dX12_takePiece_129 : decode cX12_takePiece 129 = .ok (.putfield 276, 3) := by decide +kernel
theorem dX12_takePiece_132 : decode cX12_takePiece 132 = .ok (.bipush 38, 2) := by decide +kernel
theorem dX12_takePiece_134 : decode cX12_takePiece 134 = .ok (.ireturn, 1) := by decide +kernel
theorem dX12_takePiece_135 : decode cX12_takePiece 135 = .ok (.aload_n 0, 1) := by decide +kernel
theorem dX12_takePiece_136 : decode cX12_takePiece 136 = .ok (.ldc2_w 322, 3) := by decide +kernel
theorem dX12_takePiece_139 : decode cX12_takePiece 139 = .ok (.iconst 5, 1) := by decide +kernel
theorem dX12_takePiece_140 : decode cX12_takePiece 140 = .ok (.invokevirtual 285, 3) := by decide +kernel
theorem dX12_takePiece_143 : decode cX12_takePiece 143 = .ok (.ifCond .eq 16, 3) := by decide +kernel
theorem dX12_takePiece_146 : decode cX12_takePiece 146 = .ok (.aload_n 0, 1) := by decide +kernel
theorem dX12_takePiece_147 : decode cX12_takePiece 147 = .ok (.dup, 1) := by decide +kernel
theorem dX12_takePiece_148 : decode cX12_takePiece 148 = .ok (.getfield 276, 3) := by decide +kernel
theorem dX12_takePiece_151 : decode cX12_takePiece 151 = .ok (.iconst 5, 1) := by decide +kernel
theorem dX12_takePiece_152 : decode cX12_takePiece 152 = .ok (.iadd, 1) := by decide +kernel
theorem dX12_takePiece_153 : decode cX12_takePiece 153 = .ok (.putfield 276, 3) := by decide +kernel
theorem dX12_takePiece_156 : decode cX12_takePiece 156 = .ok (.bipush 34, 2) := by decide +kernel
theorem dX12_takePiece_158 : decode cX12_takePiece 158 = .ok (.ireturn, 1) := by decide +kernel
theorem dX12_takePiece_159 : decode cX12_takePiece 159 = .ok (.aload_n 0, 1) := by decide +kernel
theorem dX12_takePiece_160 : decode cX12_takePiece 160 = .ok (.ldc2_w 324, 3) := by decide +kernel
theorem dX12_takePiece_163 : decode cX12_takePiece 163 = .ok (.iconst 5, 1) := by decide +kernel
theorem dX12_takePiece_164 : decode cX12_takePiece 164 = .ok (.invokevirtual 285, 3) := by decide +kernel
theorem dX12_takePiece_167 : decode cX12_takePiece 167 = .ok (.ifCond .eq 16, 3) := by decide +kernel
theorem dX12_takePiece_170 : decode cX12_takePiece 170 = .ok (.aload_n 0, 1) := by decide +kernel
theorem dX12_takePiece_171 : decode cX12_takePiece 171 = .ok (.dup, 1) := by decide +kernel
theorem dX12_takePiece_172 : decode cX12_takePiece 172 = .ok (.getfield 276, 3) := by decide +kernel
theorem dX12_takePiece_175 : decode cX12_takePiece 175 = .ok (.iconst 5, 1) := by decide +kernel
theorem dX12_takePiece_176 : decode cX12_takePiece 176 = .ok (.iadd, 1) := by decide +kernel
theorem dX12_takePiece_177 : decode cX12_takePiece 177 = .ok (.putfield 276, 3) := by decide +kernel
theorem dX12_takePiece_180 : decode cX12_takePiece 180 = .ok (.bipush 39, 2) := by decide +kernel
theorem dX12_takePiece_182 : decode cX12_takePiece 182 = .ok (.ireturn, 1) := by decide +kernel
theorem dX12_takePiece_183 : decode cX12_takePiece 183 = .ok (.iconst 0, 1) := by decide +kernel
theorem dX12_takePiece_184 : decode cX12_takePiece 184 = .ok (.istore_n 3, 1) := by decide +kernel
theorem dX12_takePiece_185 : decode cX12_takePiece 185 = .ok (.iconst 0, 1) := by decide +kernel
theorem dX12_takePiece_186 : decode cX12_takePiece 186 = .ok (.istore 4, 2) := by decide +kernel
theorem dX12_takePiece_188 : decode cX12_takePiece 188 = .ok (.aload_n 0, 1) := by decide +kernel
theorem dX12_takePiece_189 : decode cX12_takePiece 189 = .ok (.aload_n 0, 1) := by decide +kernel
theorem dX12_takePiece_190 : decode cX12_takePiece 190 = .ok (.getfield 276, 3) := by decide +kernel
theorem dX12_takePiece_193 : decode cX12_takePiece 193 = .ok (.invokevirtual 279, 3) := by decide +kernel
theorem dX12_takePiece_196 : decode cX12_takePiece 196 = .ok (.bipush 35, 2) := by decide +kernel
theorem dX12_takePiece_198 : decode cX12_takePiece 198 = .ok (.if_icmp .ne 74, 3) := by decide +kernel
theorem dX12_takePiece_201 : decode cX12_takePiece 201 = .ok (.aload_n 0, 1) := by decide +kernel
theorem dX12_takePiece_202 : decode cX12_takePiece 202 = .ok (.dup, 1) := by decide +kernel
theorem dX12_takePiece_203 : decode cX12_takePiece 203 = .ok (.getfield 276, 3) := by decide +kernel
theorem dX12_takePiece_206 : decode cX12_takePiece 206 = .ok (.iconst 1, 1) := by decide +kernel
theorem dX12_takePiece_207 : decode cX12_takePiece 207 = .ok (.iadd, 1) := by decide +kernel
theorem dX12_takePiece_208 : decode cX12_takePiece 208 = .ok (.putfield 276, 3) := by decide +kernel
theorem dX12_takePiece_211 : decode cX12_takePiece 211 = .ok (.iload 4, 2) := by decide +kernel
theorem dX12_takePiece_213 : decode cX12_takePiece 213 = .ok (.bipush 7, 2) := by decide +kernel
theorem dX12_takePiece_215 : decode cX12_takePiece 215 = .ok (.if_icmp .ge 57, 3) := by decide +kernel
theorem dX12_takePiece_218 : decode cX12_takePiece 218 = .ok (.aload_n 0, 1) := by decide +kernel
theorem dX12_takePiece_219 : decode cX12_takePiece 219 = .ok (.aload_n 0, 1) := by decide +kernel
theorem dX12_takePiece_220 : decode cX12_takePiece 220 = .ok (.getfield 276, 3) := by decide +kernel
theorem dX12_takePiece_223 : decode cX12_takePiece 223 = .ok (.invokevirtual 279, 3) := by decide +kernel
theorem dX12_takePiece_226 : decode cX12_takePiece 226 = .ok (.i2l, 1) := by decide +kernel
theorem dX12_takePiece_227 : decode cX12_takePiece 227 = .ok (.ldc2_w 272, 3) := by decide +kernel
theorem dX12_takePiece_230 : decode cX12_takePiece 230 = .ok (.ldc2_w 274, 3) := by decide +kernel
theorem dX12_takePiece_233 : decode cX12_takePiece 233 = .ok (.invokestatic 256, 3) := by decide +kernel
theorem dX12_takePiece_236 : decode cX12_takePiece 236 = .ok (.ifCond .eq 36, 3) := by decide +kernel
theorem dX12_takePiece_239 : decode cX12_takePiece 239 = .ok (.bipush 10, 2) := by decide +kernel
theorem dX12_takePiece_241 : decode cX12_takePiece 241 = .ok (.iload_n 3, 1) := by decide +kernel
theorem dX12_takePiece_242 : decode cX12_takePiece 242 = .ok (.imul, 1) := by decide +kernel
theorem dX12_takePiece_243 : decode cX12_takePiece 243 = .ok (.aload_n 0, 1) := by decide +kernel
theorem dX12_takePiece_244 : decode cX12_takePiece 244 = .ok (.aload_n 0, 1) := by decide +kernel
theorem dX12_takePiece_245 : decode cX12_takePiece 245 = .ok (.getfield 276, 3) := by decide +kernel
theorem dX12_takePiece_248 : decode cX12_takePiece 248 = .ok (.invokevirtual 279, 3) := by decide +kernel
theorem dX12_takePiece_251 : decode cX12_takePiece 251 = .ok (.iadd, 1) := by decide +kernel
theorem dX12_takePiece_252 : decode cX12_takePiece 252 = .ok (.bipush 48, 2) := by decide +kernel
theorem dX12_takePiece_254 : decode cX12_takePiece 254 = .ok (.isub, 1) := by decide +kernel
theorem dX12_takePiece_255 : decode cX12_takePiece 255 = .ok (.istore_n 3, 1) := by decide +kernel
theorem dX12_takePiece_256 : decode cX12_takePiece 256 = .ok (.aload_n 0, 1) := by decide +kernel
theorem dX12_takePiece_257 : decode cX12_takePiece 257 = .ok (.dup, 1) := by decide +kernel
theorem dX12_takePiece_258 : decode cX12_takePiece 258 = .ok (.getfield 276, 3) := by decide +kernel
theorem dX12_takePiece_261 : decode cX12_takePiece 261 = .ok (.iconst 1, 1) := by decide +kernel
theorem dX12_takePiece_262 : decode cX12_takePiece 262 = .ok (.iadd, 1) := by decide +kernel
theorem dX12_takePiece_263 : decode cX12_takePiece 263 = .ok (.putfield 276, 3) := by decide +kernel
theorem dX12_takePiece_266 : decode cX12_takePiece 266 = .ok (.iinc 4 1, 3) := by decide +kernel
theorem dX12_takePiece_269 : decode cX12_takePiece 269 = .ok (.goto (-58), 3) := by decide +kernel
theorem dX12_takePiece_272 : decode cX12_takePiece 272 = .ok (.iload 4, 2) := by decide +kernel
theorem dX12_takePiece_274 : decode cX12_takePiece 274 = .ok (.i2l, 1) := by decide +kernel
theorem dX12_takePiece_275 : decode cX12_takePiece 275 = .ok (.lconst 1, 1) := by decide +kernel
theorem dX12_takePiece_276 : decode cX12_takePiece 276 = .ok (.ldc2_w 326, 3) := by decide +kernel
theorem dX12_takePiece_279 : decode cX12_takePiece 279 = .ok (.invokestatic 256, 3) := by decide +kernel
theorem dX12_takePiece_282 : decode cX12_takePiece 282 = .ok (.ifCond .eq 23, 3) := by decide +kernel
theorem dX12_takePiece_285 : decode cX12_takePiece 285 = .ok (.aload_n 0, 1) := by decide +kernel
theorem dX12_takePiece_286 : decode cX12_takePiece 286 = .ok (.aload_n 0, 1) := by decide +kernel
theorem dX12_takePiece_287 : decode cX12_takePiece 287 = .ok (.getfield 276, 3) := by decide +kernel
theorem dX12_takePiece_290 : decode cX12_takePiece 290 = .ok (.invokevirtual 279, 3) := by decide +kernel
theorem dX12_takePiece_293 : decode cX12_takePiece 293 = .ok (.bipush 59, 2) := by decide +kernel
theorem dX12_takePiece_295 : decode cX12_takePiece 295 = .ok (.if_icmp .ne 10, 3) := by decide +kernel
theorem dX12_takePiece_298 : decode cX12_takePiece 298 = .ok (.iload_n 3, 1) := by decide +kernel
theorem dX12_takePiece_299 : decode cX12_takePiece 299 = .ok (.invokestatic 313, 3) := by decide +kernel
theorem dX12_takePiece_302 : decode cX12_takePiece 302 = .ok (.ifCond .ne 11, 3) := by decide +kernel
theorem dX12_takePiece_305 : decode cX12_takePiece 305 = .ok (.aload_n 0, 1) := by decide +kernel
theorem dX12_takePiece_306 : decode cX12_takePiece 306 = .ok (.iconst (-1), 1) := by decide +kernel
theorem dX12_takePiece_307 : decode cX12_takePiece 307 = .ok (.iload_n 1, 1) := by decide +kernel
theorem dX12_takePiece_308 : decode cX12_takePiece 308 = .ok (.invokevirtual 293, 3) := by decide +kernel
theorem dX12_takePiece_311 : decode cX12_takePiece 311 = .ok (.iconst (-1), 1) := by decide +kernel
theorem dX12_takePiece_312 : decode cX12_takePiece 312 = .ok (.ireturn, 1) := by decide +kernel
theorem dX12_takePiece_313 : decode cX12_takePiece 313 = .ok (.aload_n 0, 1) := by decide +kernel
theorem dX12_takePiece_314 : decode cX12_takePiece 314 = .ok (.dup, 1) := by decide +kernel
theorem dX12_takePiece_315 : decode cX12_takePiece 315 = .ok (.getfield 276, 3) := by decide +kernel
theorem dX12_takePiece_318 : decode cX12_takePiece 318 = .ok (.iconst 1, 1) := by decide +kernel
theorem dX12_takePiece_319 : decode cX12_takePiece 319 = .ok (.iadd, 1) := by decide +kernel
theorem dX12_takePiece_320 : decode cX12_takePiece 320 = .ok (.putfield 276, 3) := by decide +kernel
theorem dX12_takePiece_323 : decode cX12_takePiece 323 = .ok (.iload_n 3, 1) := by decide +kernel
theorem dX12_takePiece_324 : decode cX12_takePiece 324 = .ok (.ireturn, 1) := by decide +kernel
theorem w_takePiece_x (hs0 : 0 ≤ MI 124 3) (hsz : MI 124 3 ≤ 6000) {v p : Int} {c : Nat} (hp : 0 ≤ p ∧ p ≤ 10020) (hq : numR (MI 126) (MI 124 3) a = (v, c, p)) (hT : ∀ b y, numS (MI 126) (MI 124 3) a = .inr (b, y) → Q (some (vI b)) (Mr MI ML d e nw th x y 0 pl sz 1)) (hF : ∀ f p g z, 0 ≤ g ∧ g ≤ 20000 → numS (MI 126) (MI 124 3) a = .inl (f, p) → f ≠ 0 → Q (some (vI (-1))) (Mr MI ML d e nw th x g f p sz z)) : wp cs mX12_takePiece KD Q 272 [some (vR 124), some (vI a), some (vI ((ob (MI 126) (MI 124 3) a))), some (vI v), some (vI ((c : Int)))] [] (KD, Mr MI ML d e nw th x p 0 pl sz 1) := by
  refine wp_iload dX12_takePiece_272 rfl ?_
  refine wp_i2l dX12_takePiece_274 ?_
  refine wp_lconst (z := 1) dX12_takePiece_275 (by decide +kernel) (by decide) ?_
  refine wp_ldc2 (x := 6) dX12_takePiece_276 cX12_326 (by decide) ?_
  refine wp_cS (n := 3) (mt' := mX12_in) (as := [vL ((c : Int)), vL 1, vL 6]) (rest := []) (some (vI ((bI (1 ≤ (c : Int) ∧ (c : Int) ≤ 6))))) ((rs MI p 0 pl sz 1), ML, (GR d e nw th x)) dX12_takePiece_279 lX12_256 kX12_in vX12_in (by decide) (by decide +kernel) rfl (Nat.le_of_ble_eq_true rfl) rfl (Nat.le_of_ble_eq_true rfl) (fun hM hS Q' hq => w_X12_in hq) (fun hM => ?_)
  by_cases h279 : 1 ≤ (c : Int) ∧ (c : Int) ≤ 6
  · refine wp_topI (x' := 1) (if_pos h279) ?_
    refine wp_if_eq (tgt := 305) dX12_takePiece_282 (by decide) (fun q => absurd q (by decide)) (fun _ => ?_)
    refine wp_aload_n dX12_takePiece_285 rfl rfl (by first | exact Or.inl (by decide) | exact Or.inl (by omega) | exact Or.inr (by decide) | exact Or.inr (by omega)) ?_
    refine wp_aload_n dX12_takePiece_286 rfl rfl (by first | exact Or.inl (by decide) | exact Or.inl (by omega) | exact Or.inr (by decide) | exact Or.inr (by omega)) ?_
    refine wp_getI dX12_takePiece_287 fX12_276 rfl (by decide) ?_
    refine wp_topI (x' := p) rfl ?_
    refine wp_cV (n := 1) (mt' := mX12_octet) (as := [vI p]) (rest := []) (some (vI ((ob (MI 126) (MI 124 3) p)))) ((rs MI p 0 pl sz 1), ML, (GR d e nw th x)) dX12_takePiece_290 lX12_279 kX12_octet vX12_octet (by decide) (by decide +kernel) rfl (Nat.le_of_ble_eq_true rfl) (by decide) rfl rfl rfl (Nat.le_of_ble_eq_true rfl) (fun hM hS Q' hq => w_X12_octet hs0 hsz (by first | assumption | omega) hq) (fun hM => ?_)
    refine wp_bipush dX12_takePiece_293 (by decide +kernel) (by decide) ?_
    refine wp_icmp_ne (tgt := 305) dX12_takePiece_295 (by decide) (fun h295 => ?_) (fun h295 => ?_)
    · refine wp_aload_n dX12_takePiece_305 rfl rfl (by first | exact Or.inl (by decide) | exact Or.inl (by omega) | exact Or.inr (by decide) | exact Or.inr (by omega)) ?_
      refine wp_iconst dX12_takePiece_306 (by decide) ?_
      refine wp_iload_n dX12_takePiece_307 rfl rfl ?_
      refine wp_cV (n := 2) (mt' := mX12_fail) (as := [vI ((-1)), vI a]) (rest := []) none ((rs MI p (-1) a sz 1), ML, (GR d e nw th x)) dX12_takePiece_308 lX12_293 kX12_fail vX12_fail (by decide) (by decide +kernel) rfl (Nat.le_of_ble_eq_true rfl) (by decide) rfl rfl rfl (Nat.le_of_ble_eq_true rfl) (fun hM hS Q' hq => w_X12_fail (fun _ => hq) (fun q => absurd rfl q)) (fun hM => ?_)
      refine wp_iconst dX12_takePiece_311 (by decide) ?_
      exact wp_iret dX12_takePiece_312 rfl (fun _ => hF _ _ _ _ (by omega) (by rw [numS_R, hq, if_pos (by dsimp only; first | exact Or.inl (by assumption) | exact Or.inr (Or.inl (by assumption)) | exact Or.inr (Or.inr (by assumption)))]) (by decide))
    · refine wp_iload_n dX12_takePiece_298 rfl rfl ?_
      refine wp_cS (n := 1) (mt' := mX12_isChar) (as := [vI v]) (rest := []) (some (vI ((bI (isCh v))))) ((rs MI p 0 pl sz 1), ML, (GR d e nw th x)) dX12_takePiece_299 lX12_313 kX12_isChar vX12_isChar (by decide) (by decide +kernel) rfl (Nat.le_of_ble_eq_true rfl) rfl (Nat.le_of_ble_eq_true rfl) (fun hM hS Q' hq => w_X12_isChar hq) (fun hM => ?_)
      by_cases h299 : isCh v
      · refine wp_topI (x' := 1) (if_pos h299) ?_
        refine wp_if_ne (tgt := 313) dX12_takePiece_302 (by decide) (fun _ => ?_) (fun q => absurd q (by decide))
        refine wp_aload_n dX12_takePiece_313 rfl rfl (by first | exact Or.inl (by decide) | exact Or.inl (by omega) | exact Or.inr (by decide) | exact Or.inr (by omega)) ?_
        refine wp_dup dX12_takePiece_314 (fun x e => by cases e) ?_
        refine wp_getI dX12_takePiece_315 fX12_276 rfl (by decide) ?_
        refine wp_topI (x' := p) rfl ?_
        refine wp_iconst dX12_takePiece_318 (by decide) ?_
        refine wp_iaddr dX12_takePiece_319 (by omega) ?_
        refine wp_putI dX12_takePiece_320 pX12_276 rfl (by decide) ?_
        refine wp_M (M' := ((rs MI (p + 1) 0 pl sz 1), ML, (GR d e nw th x))) (by rw [rs_4]) ?_
        refine wp_pc (pc' := 323) rfl ?_
        refine wp_iload_n dX12_takePiece_323 rfl rfl ?_
        exact wp_iret dX12_takePiece_324 rfl (fun _ => hT _ _ (by rw [numS_R, hq, if_neg (by dsimp only; intro q; rcases q with q | q | q; exact q (by assumption); omega; exact q (by assumption))]))
      · refine wp_topI (x' := 0) (if_neg h299) ?_
        refine wp_if_ne (tgt := 313) dX12_takePiece_302 (by decide) (fun q => absurd q (by decide)) (fun _ => ?_)
        refine wp_aload_n dX12_takePiece_305 rfl rfl (by first | exact Or.inl (by decide) | exact Or.inl (by omega) | exact Or.inr (by decide) | exact Or.inr (by omega)) ?_
        refine wp_iconst dX12_takePiece_306 (by decide) ?_
        refine wp_iload_n dX12_takePiece_307 rfl rfl ?_
        refine wp_cV (n := 2) (mt' := mX12_fail) (as := [vI ((-1)), vI a]) (rest := []) none ((rs MI p (-1) a sz 1), ML, (GR d e nw th x)) dX12_takePiece_308 lX12_293 kX12_fail vX12_fail (by decide) (by decide +kernel) rfl (Nat.le_of_ble_eq_true rfl) (by decide) rfl rfl rfl (Nat.le_of_ble_eq_true rfl) (fun hM hS Q' hq => w_X12_fail (fun _ => hq) (fun q => absurd rfl q)) (fun hM => ?_)
        refine wp_iconst dX12_takePiece_311 (by decide) ?_
        exact wp_iret dX12_takePiece_312 rfl (fun _ => hF _ _ _ _ (by omega) (by rw [numS_R, hq, if_pos (by dsimp only; first | exact Or.inl (by assumption) | exact Or.inr (Or.inl (by assumption)) | exact Or.inr (Or.inr (by assumption)))]) (by decide))
  · refine wp_topI (x' := 0) (if_neg h279) ?_
    refine wp_if_eq (tgt := 305) dX12_takePiece_282 (by decide) (fun _ => ?_) (fun q => absurd q (by decide))
    refine wp_aload_n dX12_takePiece_305 rfl rfl (by first | exact Or.inl (by decide) | exact Or.inl (by omega) | exact Or.inr (by decide) | exact Or.inr (by omega)) ?_
    refine wp_iconst dX12_takePiece_306 (by decide) ?_
    refine wp_iload_n dX12_takePiece_307 rfl rfl ?_
    refine wp_cV (n := 2) (mt' := mX12_fail) (as := [vI ((-1)), vI a]) (rest := []) none ((rs MI p (-1) a sz 1), ML, (GR d e nw th x)) dX12_takePiece_308 lX12_293 kX12_fail vX12_fail (by decide) (by decide +kernel) rfl (Nat.le_of_ble_eq_true rfl) (by decide) rfl rfl rfl (Nat.le_of_ble_eq_true rfl) (fun hM hS Q' hq => w_X12_fail (fun _ => hq) (fun q => absurd rfl q)) (fun hM => ?_)
    refine wp_iconst dX12_takePiece_311 (by decide) ?_
    exact wp_iret dX12_takePiece_312 rfl (fun _ => hF _ _ _ _ (by omega) (by rw [numS_R, hq, if_pos (by dsimp only; first | exact Or.inl (by assumption) | exact Or.inr (Or.inl (by assumption)) | exact Or.inr (Or.inr (by assumption)))]) (by decide))
theorem w_takePiece_l (hs0 : 0 ≤ MI 124 3) (hsz : MI 124 3 ≤ 6000) (hT : ∀ b y, numS (MI 126) (MI 124 3) a = .inr (b, y) → Q (some (vI b)) (Mr MI ML d e nw th x y 0 pl sz 1)) (hF : ∀ f p g z, 0 ≤ g ∧ g ≤ 20000 → numS (MI 126) (MI 124 3) a = .inl (f, p) → f ≠ 0 → Q (some (vI (-1))) (Mr MI ML d e nw th x g f p sz z)) : ∀ (k c : Nat) (v p : Int), c + k = 7 → 0 ≤ v ∧ v < 10 ^ c → 0 ≤ p ∧ p ≤ 10010 + c → numR (MI 126) (MI 124 3) a = dg (MI 126) (MI 124 3) k v c p → wp cs mX12_takePiece KD Q 211 [some (vR 124), some (vI a), some (vI ((ob (MI 126) (MI 124 3) a))), some (vI v), some (vI ((c : Int)))] [] (KD, Mr MI ML d e nw th x p 0 pl sz 1) := by
  intro k
  induction k with
  | zero =>
    intro c v p hc hv hp hq
    obtain ⟨k, hk0⟩ : ∃ k : Nat, k = 0 := ⟨_, rfl⟩
    rw [← hk0] at hq
    refine wp_iload dX12_takePiece_211 rfl ?_
    refine wp_bipush dX12_takePiece_213 (by decide +kernel) (by decide) ?_
    refine wp_icmp_ge (tgt := 272) dX12_takePiece_215 (by decide) (fun h215 => ?_) (fun h215 => ?_)
    · exact w_takePiece_x hs0 hsz (by omega) (by rw [hq]; first | (rw [show k = 0 by omega]; rfl) | (rw [hk1, dg, if_neg (by omega)])) hT hF
    · exfalso; omega
  | succ k0 ih =>
    intro c v p hc hv hp hq
    have h10 : (10 : Int) ^ c ≤ 1000000 := by rcases (by omega : c = 0 ∨ c = 1 ∨ c = 2 ∨ c = 3 ∨ c = 4 ∨ c = 5 ∨ c = 6) with rfl | rfl | rfl | rfl | rfl | rfl | rfl <;> decide
    have h11 : (10 : Int) ^ (c + 1) = 10 * 10 ^ c := by rw [Int.pow_succ]; omega
    obtain ⟨k, hk1⟩ : ∃ k : Nat, k = k0 + 1 := ⟨_, rfl⟩
    rw [← hk1] at hq
    refine wp_iload dX12_takePiece_211 rfl ?_
    refine wp_bipush dX12_takePiece_213 (by decide +kernel) (by decide) ?_
    refine wp_icmp_ge (tgt := 272) dX12_takePiece_215 (by decide) (fun h215 => ?_) (fun h215 => ?_)
    · exact w_takePiece_x hs0 hsz (by omega) (by rw [hq]; first | (rw [show k = 0 by omega]; rfl) | (rw [hk1, dg, if_neg (by omega)])) hT hF
    · refine wp_aload_n dX12_takePiece_218 rfl rfl (by first | exact Or.inl (by decide) | exact Or.inl (by omega) | exact Or.inr (by decide) | exact Or.inr (by omega)) ?_
      refine wp_aload_n dX12_takePiece_219 rfl rfl (by first | exact Or.inl (by decide) | exact Or.inl (by omega) | exact Or.inr (by decide) | exact Or.inr (by omega)) ?_
      refine wp_getI dX12_takePiece_220 fX12_276 rfl (by decide) ?_
      refine wp_topI (x' := p) rfl ?_
      refine wp_cV (n := 1) (mt' := mX12_octet) (as := [vI p]) (rest := []) (some (vI ((ob (MI 126) (MI 124 3) p)))) ((rs MI p 0 pl sz 1), ML, (GR d e nw th x)) dX12_takePiece_223 lX12_279 kX12_octet vX12_octet (by decide) (by decide +kernel) rfl (Nat.le_of_ble_eq_true rfl) (by decide) rfl rfl rfl (Nat.le_of_ble_eq_true rfl) (fun hM hS Q' hq => w_X12_octet hs0 hsz (by first | assumption | omega) hq) (fun hM => ?_)
      refine wp_i2l dX12_takePiece_226 ?_
      refine wp_ldc2 (x := 48) dX12_takePiece_227 cX12_272 (by decide) ?_
      refine wp_ldc2 (x := 57) dX12_takePiece_230 cX12_274 (by decide) ?_
      refine wp_pc (pc' := 233) rfl ?_
      refine wp_cS (n := 3) (mt' := mX12_in) (as := [vL ((ob (MI 126) (MI 124 3) p)), vL 48, vL 57]) (rest := []) (some (vI ((bI (48 ≤ (ob (MI 126) (MI 124 3) p) ∧ (ob (MI 126) (MI 124 3) p) ≤ 57))))) ((rs MI p 0 pl sz 1), ML, (GR d e nw th x)) dX12_takePiece_233 lX12_256 kX12_in vX12_in (by decide) (by decide +kernel) rfl (Nat.le_of_ble_eq_true rfl) rfl (Nat.le_of_ble_eq_true rfl) (fun hM hS Q' hq => w_X12_in hq) (fun hM => ?_)
      by_cases h233 : 48 ≤ (ob (MI 126) (MI 124 3) p) ∧ (ob (MI 126) (MI 124 3) p) ≤ 57
      · refine wp_topI (x' := 1) (if_pos h233) ?_
        refine wp_if_eq (tgt := 272) dX12_takePiece_236 (by decide) (fun q => absurd q (by decide)) (fun _ => ?_)
        refine wp_bipush dX12_takePiece_239 (by decide +kernel) (by decide) ?_
        refine wp_iload_n dX12_takePiece_241 rfl rfl ?_
        refine wp_imulr dX12_takePiece_242 (by omega) ?_
        refine wp_aload_n dX12_takePiece_243 rfl rfl (by first | exact Or.inl (by decide) | exact Or.inl (by omega) | exact Or.inr (by decide) | exact Or.inr (by omega)) ?_
        refine wp_aload_n dX12_takePiece_244 rfl rfl (by first | exact Or.inl (by decide) | exact Or.inl (by omega) | exact Or.inr (by decide) | exact Or.inr (by omega)) ?_
        refine wp_getI dX12_takePiece_245 fX12_276 rfl (by decide) ?_
        refine wp_topI (x' := p) rfl ?_
        refine wp_pc (pc' := 248) rfl ?_
        refine wp_cV (n := 1) (mt' := mX12_octet) (as := [vI p]) (rest := [vI ((10 * v))]) (some (vI ((ob (MI 126) (MI 124 3) p)))) ((rs MI p 0 pl sz 1), ML, (GR d e nw th x)) dX12_takePiece_248 lX12_279 kX12_octet vX12_octet (by decide) (by decide +kernel) rfl (Nat.le_of_ble_eq_true rfl) (by decide) rfl rfl rfl (Nat.le_of_ble_eq_true rfl) (fun hM hS Q' hq => w_X12_octet hs0 hsz (by first | assumption | omega) hq) (fun hM => ?_)
        refine wp_iaddr dX12_takePiece_251 (by omega) ?_
        refine wp_bipush dX12_takePiece_252 (by decide +kernel) (by decide) ?_
        refine wp_isubr dX12_takePiece_254 (by omega) ?_
        refine wp_istore_n dX12_takePiece_255 rfl (by decide) (wp_L (L' := [some (vR 124), some (vI a), some (vI ((ob (MI 126) (MI 124 3) a))), some (vI ((((10 * v) + (ob (MI 126) (MI 124 3) p)) - 48))), some (vI ((c : Int)))]) rfl ?_)
        refine wp_aload_n dX12_takePiece_256 rfl rfl (by first | exact Or.inl (by decide) | exact Or.inl (by omega) | exact Or.inr (by decide) | exact Or.inr (by omega)) ?_
        refine wp_dup dX12_takePiece_257 (fun x e => by cases e) ?_
        refine wp_getI dX12_takePiece_258 fX12_276 rfl (by decide) ?_
        refine wp_topI (x' := p) rfl ?_
        refine wp_pc (pc' := 261) rfl ?_
        refine wp_iconst dX12_takePiece_261 (by decide) ?_
        refine wp_iaddr dX12_takePiece_262 (by omega) ?_
        refine wp_putI dX12_takePiece_263 pX12_276 rfl (by decide) ?_
        refine wp_M (M' := ((rs MI (p + 1) 0 pl sz 1), ML, (GR d e nw th x))) (by rw [rs_4]) ?_
        refine wp_iincr dX12_takePiece_266 rfl (by decide) (by omega) (wp_L (L' := [some (vR 124), some (vI a), some (vI ((ob (MI 126) (MI 124 3) a))), some (vI ((((10 * v) + (ob (MI 126) (MI 124 3) p)) - 48))), some (vI (((c : Int) + 1)))]) rfl ?_)
        refine wp_goto (tgt := 211) dX12_takePiece_269 (by decide) ?_
        refine wp_L (L' := [some (vR 124), some (vI a), some (vI (ob (MI 126) (MI 124 3) a)), some (vI (v * 10 + ob (MI 126) (MI 124 3) p - 48)), some (vI ((c + 1 : Nat) : Int))]) (by rw [Int.mul_comm v 10]; rfl) ?_; exact ih (c + 1) _ (p + 1) (by omega) (by omega) (by omega) (by rw [hq, hk1, dg, if_pos (by omega)])
      · refine wp_topI (x' := 0) (if_neg h233) ?_
        refine wp_if_eq (tgt := 272) dX12_takePiece_236 (by decide) (fun _ => ?_) (fun q => absurd q (by decide))
        exact w_takePiece_x hs0 hsz (by omega) (by rw [hq]; first | (rw [show k = 0 by omega]; rfl) | (rw [hk1, dg, if_neg (by omega)])) hT hF
theorem w_takePiece_g (hs0 : 0 ≤ MI 124 3) (hsz : MI 124 3 ≤ 6000) (ha : 0 ≤ a ∧ a ≤ 10000) (hT : ∀ b y, pcS (MI 126) (MI 124 3) a = .inr (b, y) → Q (some (vI b)) (Mr MI ML d e nw th x y 0 pl sz (bI (ob (MI 126) (MI 124 3) a = 38)))) (hF : ∀ f p g z, 0 ≤ g ∧ g ≤ 20000 → pcS (MI 126) (MI 124 3) a = .inl (f, p) → f ≠ 0 → Q (some (vI (-1))) (Mr MI ML d e nw th x g f p sz z)) : wp cs mX12_takePiece KD Q 0 (padL [vR 124] 5) [] (KD, Mr MI ML d e nw th x a 0 pl sz br) := by
  refine wp_L (L' := [some (vR 124), none, none, none, none]) rfl ?_
  refine wp_aload_n dX12_takePiece_0 rfl rfl (by first | exact Or.inl (by decide) | exact Or.inl (by omega) | exact Or.inr (by decide) | exact Or.inr (by omega)) ?_
  refine wp_getI dX12_takePiece_1 fX12_276 rfl (by decide) ?_
  refine wp_topI (x' := a) rfl ?_
  refine wp_istore_n dX12_takePiece_4 rfl (by decide) (wp_L (L' := [some (vR 124), some (vI a), none, none, none]) rfl ?_)
  refine wp_aload_n dX12_takePiece_5 rfl rfl (by first | exact Or.inl (by decide) | exact Or.inl (by omega) | exact Or.inr (by decide) | exact Or.inr (by omega)) ?_
  refine wp_aload_n dX12_takePiece_6 rfl rfl (by first | exact Or.inl (by decide) | exact Or.inl (by omega) | exact Or.inr (by decide) | exact Or.inr (by omega)) ?_
  refine wp_getI dX12_takePiece_7 fX12_276 rfl (by decide) ?_
  refine wp_topI (x' := a) rfl ?_
  refine wp_cV (n := 1) (mt' := mX12_octet) (as := [vI a]) (rest := []) (some (vI ((ob (MI 126) (MI 124 3) a)))) ((rs MI a 0 pl sz br), ML, (GR d e nw th x)) dX12_takePiece_10 lX12_279 kX12_octet vX12_octet (by decide) (by decide +kernel) rfl (Nat.le_of_ble_eq_true rfl) (by decide) rfl rfl rfl (Nat.le_of_ble_eq_true rfl) (fun hM hS Q' hq => w_X12_octet hs0 hsz (by first | assumption | omega) hq) (fun hM => ?_)
  refine wp_pc (pc' := 13) rfl ?_
  refine wp_istore_n dX12_takePiece_13 rfl (by decide) (wp_L (L' := [some (vR 124), some (vI a), some (vI ((ob (MI 126) (MI 124 3) a))), none, none]) rfl ?_)
  refine wp_aload_n dX12_takePiece_14 rfl rfl (by first | exact Or.inl (by decide) | exact Or.inl (by omega) | exact Or.inr (by decide) | exact Or.inr (by omega)) ?_
  refine wp_iload_n dX12_takePiece_15 rfl rfl ?_
  refine wp_bipush dX12_takePiece_16 (by decide +kernel) (by decide) ?_
  refine wp_icmp_ne (tgt := 25) dX12_takePiece_18 (by decide) (fun h18 => ?_) (fun h18 => ?_)
  · refine wp_iconst dX12_takePiece_25 (by decide) ?_
    refine wp_putZ dX12_takePiece_26 pX12_309 rfl (by decide) (by first | exact Or.inl rfl | exact Or.inr rfl | omega) ?_
    refine wp_M (M' := ((rs MI a 0 pl sz 0), ML, (GR d e nw th x))) (by rw [rs_52]) ?_
    refine wp_iload_n dX12_takePiece_29 rfl rfl ?_
    refine wp_cS (n := 1) (mt' := mX12_isChar) (as := [vI ((ob (MI 126) (MI 124 3) a))]) (rest := []) (some (vI ((bI (isCh (ob (MI 126) (MI 124 3) a)))))) ((rs MI a 0 pl sz 0), ML, (GR d e nw th x)) dX12_takePiece_30 lX12_313 kX12_isChar vX12_isChar (by decide) (by decide +kernel) rfl (Nat.le_of_ble_eq_true rfl) rfl (Nat.le_of_ble_eq_true rfl) (fun hM hS Q' hq => w_X12_isChar hq) (fun hM => ?_)
    by_cases h30 : isCh (ob (MI 126) (MI 124 3) a)
    · refine wp_topI (x' := 1) (if_pos h30) ?_
      refine wp_if_ne (tgt := 44) dX12_takePiece_33 (by decide) (fun _ => ?_) (fun q => absurd q (by decide))
      refine wp_aload_n dX12_takePiece_44 rfl rfl (by first | exact Or.inl (by decide) | exact Or.inl (by omega) | exact Or.inr (by decide) | exact Or.inr (by omega)) ?_
      refine wp_dup dX12_takePiece_45 (fun x e => by cases e) ?_
      refine wp_getI dX12_takePiece_46 fX12_276 rfl (by decide) ?_
      refine wp_topI (x' := a) rfl ?_
      refine wp_iconst dX12_takePiece_49 (by decide) ?_
      refine wp_iaddr dX12_takePiece_50 (by omega) ?_
      refine wp_putI dX12_takePiece_51 pX12_276 rfl (by decide) ?_
      refine wp_M (M' := ((rs MI (a + 1) 0 pl sz 0), ML, (GR d e nw th x))) (by rw [rs_4]) ?_
      refine wp_pc (pc' := 54) rfl ?_
      refine wp_aload_n dX12_takePiece_54 rfl rfl (by first | exact Or.inl (by decide) | exact Or.inl (by omega) | exact Or.inr (by decide) | exact Or.inr (by omega)) ?_
      refine wp_getI dX12_takePiece_55 fX12_309 rfl (by decide) ?_
      refine wp_topI (x' := 0) rfl ?_
      refine wp_if_ne (tgt := 63) dX12_takePiece_58 (by decide) (fun q => absurd q (by decide)) (fun _ => ?_)
      refine wp_iload_n dX12_takePiece_61 rfl rfl ?_
      exact wp_iret dX12_takePiece_62 rfl (fun _ => by have := hT _ _ (by unfold pcS; rw [if_pos h18, if_pos h30]); rw [show bI (ob (MI 126) (MI 124 3) a = 38) = 0 from if_neg h18] at this; exact this)
    · refine wp_topI (x' := 0) (if_neg h30) ?_
      refine wp_if_ne (tgt := 44) dX12_takePiece_33 (by decide) (fun q => absurd q (by decide)) (fun _ => ?_)
      refine wp_aload_n dX12_takePiece_36 rfl rfl (by first | exact Or.inl (by decide) | exact Or.inl (by omega) | exact Or.inr (by decide) | exact Or.inr (by omega)) ?_
      refine wp_iconst dX12_takePiece_37 (by decide) ?_
      refine wp_iload_n dX12_takePiece_38 rfl rfl ?_
      refine wp_cV (n := 2) (mt' := mX12_fail) (as := [vI ((-1)), vI a]) (rest := []) none ((rs MI a (-1) a sz 0), ML, (GR d e nw th x)) dX12_takePiece_39 lX12_293 kX12_fail vX12_fail (by decide) (by decide +kernel) rfl (Nat.le_of_ble_eq_true rfl) (by decide) rfl rfl rfl (Nat.le_of_ble_eq_true rfl) (fun hM hS Q' hq => w_X12_fail (fun _ => hq) (fun q => absurd rfl q)) (fun hM => ?_)
      refine wp_iconst dX12_takePiece_42 (by decide) ?_
      exact wp_iret dX12_takePiece_43 rfl (fun _ => hF _ _ _ _ (by omega) (by unfold pcS; rw [if_pos (by first | assumption | omega), if_neg h30]) (by decide))
  · have hamp : ob (MI 126) (MI 124 3) a = 38 := by omega
    refine wp_iconst dX12_takePiece_21 (by decide) ?_
    refine wp_goto (tgt := 26) dX12_takePiece_22 (by decide) ?_
    refine wp_putZ dX12_takePiece_26 pX12_309 rfl (by decide) (by first | exact Or.inl rfl | exact Or.inr rfl | omega) ?_
    refine wp_M (M' := ((rs MI a 0 pl sz 1), ML, (GR d e nw th x))) (by rw [rs_52]) ?_
    refine wp_iload_n dX12_takePiece_29 rfl rfl ?_
    refine wp_cS (n := 1) (mt' := mX12_isChar) (as := [vI ((ob (MI 126) (MI 124 3) a))]) (rest := []) (some (vI ((bI (isCh (ob (MI 126) (MI 124 3) a)))))) ((rs MI a 0 pl sz 1), ML, (GR d e nw th x)) dX12_takePiece_30 lX12_313 kX12_isChar vX12_isChar (by decide) (by decide +kernel) rfl (Nat.le_of_ble_eq_true rfl) rfl (Nat.le_of_ble_eq_true rfl) (fun hM hS Q' hq => w_X12_isChar hq) (fun hM => ?_)
    by_cases h30 : isCh (ob (MI 126) (MI 124 3) a)
    · refine wp_topI (x' := 1) (if_pos h30) ?_
      refine wp_if_ne (tgt := 44) dX12_takePiece_33 (by decide) (fun _ => ?_) (fun q => absurd q (by decide))
      refine wp_aload_n dX12_takePiece_44 rfl rfl (by first | exact Or.inl (by decide) | exact Or.inl (by omega) | exact Or.inr (by decide) | exact Or.inr (by omega)) ?_
      refine wp_dup dX12_takePiece_45 (fun x e => by cases e) ?_
      refine wp_getI dX12_takePiece_46 fX12_276 rfl (by decide) ?_
      refine wp_topI (x' := a) rfl ?_
      refine wp_iconst dX12_takePiece_49 (by decide) ?_
      refine wp_iaddr dX12_takePiece_50 (by omega) ?_
      refine wp_putI dX12_takePiece_51 pX12_276 rfl (by decide) ?_
      refine wp_M (M' := ((rs MI (a + 1) 0 pl sz 1), ML, (GR d e nw th x))) (by rw [rs_4]) ?_
      refine wp_pc (pc' := 54) rfl ?_
      refine wp_aload_n dX12_takePiece_54 rfl rfl (by first | exact Or.inl (by decide) | exact Or.inl (by omega) | exact Or.inr (by decide) | exact Or.inr (by omega)) ?_
      refine wp_getI dX12_takePiece_55 fX12_309 rfl (by decide) ?_
      refine wp_topI (x' := 1) rfl ?_
      refine wp_if_ne (tgt := 63) dX12_takePiece_58 (by decide) (fun _ => ?_) (fun q => absurd q (by decide))
      refine wp_aload_n dX12_takePiece_63 rfl rfl (by first | exact Or.inl (by decide) | exact Or.inl (by omega) | exact Or.inr (by decide) | exact Or.inr (by omega)) ?_
      refine wp_ldc2 (x := 7107643) dX12_takePiece_64 cX12_316 (by decide) ?_
      refine wp_iconst dX12_takePiece_67 (by decide) ?_
      refine wp_cVq (n := 2) (mt' := mX12_stands) (as := [vL 7107643, vI 3]) (rest := []) (fun r M' => (stb (MI 126) (MI 124 3) (a + 1) [108, 116, 59] = true ∧ r = some (vI 1) ∧ M' = Mr MI ML d e nw th x (a + 1) 0 pl sz 1) ∨ (stb (MI 126) (MI 124 3) (a + 1) [108, 116, 59] = false ∧ r = some (vI 0) ∧ M' = Mr MI ML d e nw th x (a + 1) 0 pl sz 1)) dX12_takePiece_68 lX12_285 kX12_stands vX12_stands (by decide) (by decide +kernel) rfl (Nat.le_of_ble_eq_true rfl) (by decide) rfl rfl rfl (Nat.le_of_ble_eq_true rfl) (fun hM hS => w_X12_stands (z := 7107643) (n := 3) (by decide) hs0 hsz (by omega) (fun hs => Or.inl ⟨by rw [← wbl_7107643]; exact hs, rfl, rfl⟩) (fun hs => Or.inr ⟨by rw [← wbl_7107643]; exact hs, rfl, rfl⟩)) (fun r M' hq hM => ?_)
      rcases hq with ⟨h68, rfl, rfl⟩ | ⟨h68, rfl, rfl⟩
      · refine wp_if_eq (tgt := 87) dX12_takePiece_71 (by decide) (fun q => absurd q (by decide)) (fun _ => ?_)
        refine wp_aload_n dX12_takePiece_74 rfl rfl (by first | exact Or.inl (by decide) | exact Or.inl (by omega) | exact Or.inr (by decide) | exact Or.inr (by omega)) ?_
        refine wp_dup dX12_takePiece_75 (fun x e => by cases e) ?_
        refine wp_getI dX12_takePiece_76 fX12_276 rfl (by decide) ?_
        refine wp_topI (x' := (a + 1)) rfl ?_
        refine wp_iconst dX12_takePiece_79 (by decide) ?_
        refine wp_iaddr dX12_takePiece_80 (by omega) ?_
        refine wp_putI dX12_takePiece_81 pX12_276 rfl (by decide) ?_
        refine wp_M (M' := ((rs MI ((a + 1) + 3) 0 pl sz 1), ML, (GR d e nw th x))) (by rw [rs_4]) ?_
        refine wp_pc (pc' := 84) rfl ?_
        refine wp_bipush dX12_takePiece_84 (by decide +kernel) (by decide) ?_
        exact wp_iret dX12_takePiece_86 rfl (fun _ => by have := hT _ _ (by unfold pcS; rw [if_neg (fun q => q hamp), if_pos (by rw [stb_c hamp]; exact h68)]); rw [show bI (ob (MI 126) (MI 124 3) a = 38) = 1 from if_pos hamp] at this; simpa [Int.add_assoc] using this)
      · refine wp_if_eq (tgt := 87) dX12_takePiece_71 (by decide) (fun _ => ?_) (fun q => absurd q (by decide))
        refine wp_aload_n dX12_takePiece_87 rfl rfl (by first | exact Or.inl (by decide) | exact Or.inl (by omega) | exact Or.inr (by decide) | exact Or.inr (by omega)) ?_
        refine wp_ldc2 (x := 6779963) dX12_takePiece_88 cX12_318 (by decide) ?_
        refine wp_iconst dX12_takePiece_91 (by decide) ?_
        refine wp_cVq (n := 2) (mt' := mX12_stands) (as := [vL 6779963, vI 3]) (rest := []) (fun r M' => (stb (MI 126) (MI 124 3) (a + 1) [103, 116, 59] = true ∧ r = some (vI 1) ∧ M' = Mr MI ML d e nw th x (a + 1) 0 pl sz 1) ∨ (stb (MI 126) (MI 124 3) (a + 1) [103, 116, 59] = false ∧ r = some (vI 0) ∧ M' = Mr MI ML d e nw th x (a + 1) 0 pl sz 1)) dX12_takePiece_92 lX12_285 kX12_stands vX12_stands (by decide) (by decide +kernel) rfl (Nat.le_of_ble_eq_true rfl) (by decide) rfl rfl rfl (Nat.le_of_ble_eq_true rfl) (fun hM hS => w_X12_stands (z := 6779963) (n := 3) (by decide) hs0 hsz (by omega) (fun hs => Or.inl ⟨by rw [← wbl_6779963]; exact hs, rfl, rfl⟩) (fun hs => Or.inr ⟨by rw [← wbl_6779963]; exact hs, rfl, rfl⟩)) (fun r M' hq hM => ?_)
        rcases hq with ⟨h92, rfl, rfl⟩ | ⟨h92, rfl, rfl⟩
        · refine wp_if_eq (tgt := 111) dX12_takePiece_95 (by decide) (fun q => absurd q (by decide)) (fun _ => ?_)
          refine wp_aload_n dX12_takePiece_98 rfl rfl (by first | exact Or.inl (by decide) | exact Or.inl (by omega) | exact Or.inr (by decide) | exact Or.inr (by omega)) ?_
          refine wp_dup dX12_takePiece_99 (fun x e => by cases e) ?_
          refine wp_getI dX12_takePiece_100 fX12_276 rfl (by decide) ?_
          refine wp_topI (x' := (a + 1)) rfl ?_
          refine wp_iconst dX12_takePiece_103 (by decide) ?_
          refine wp_iaddr dX12_takePiece_104 (by omega) ?_
          refine wp_putI dX12_takePiece_105 pX12_276 rfl (by decide) ?_
          refine wp_M (M' := ((rs MI ((a + 1) + 3) 0 pl sz 1), ML, (GR d e nw th x))) (by rw [rs_4]) ?_
          refine wp_pc (pc' := 108) rfl ?_
          refine wp_bipush dX12_takePiece_108 (by decide +kernel) (by decide) ?_
          exact wp_iret dX12_takePiece_110 rfl (fun _ => by have := hT _ _ (by unfold pcS; rw [if_neg (fun q => q hamp), if_neg (by rw [stb_c hamp, h68]; decide), if_pos (by rw [stb_c hamp]; exact h92)]); rw [show bI (ob (MI 126) (MI 124 3) a = 38) = 1 from if_pos hamp] at this; simpa [Int.add_assoc] using this)
        · refine wp_if_eq (tgt := 111) dX12_takePiece_95 (by decide) (fun _ => ?_) (fun q => absurd q (by decide))
          refine wp_aload_n dX12_takePiece_111 rfl rfl (by first | exact Or.inl (by decide) | exact Or.inl (by omega) | exact Or.inr (by decide) | exact Or.inr (by omega)) ?_
          refine wp_ldc2 (x := 1634562107) dX12_takePiece_112 cX12_320 (by decide) ?_
          refine wp_iconst dX12_takePiece_115 (by decide) ?_
          refine wp_cVq (n := 2) (mt' := mX12_stands) (as := [vL 1634562107, vI 4]) (rest := []) (fun r M' => (stb (MI 126) (MI 124 3) (a + 1) [97, 109, 112, 59] = true ∧ r = some (vI 1) ∧ M' = Mr MI ML d e nw th x (a + 1) 0 pl sz 1) ∨ (stb (MI 126) (MI 124 3) (a + 1) [97, 109, 112, 59] = false ∧ r = some (vI 0) ∧ M' = Mr MI ML d e nw th x (a + 1) 0 pl sz 1)) dX12_takePiece_116 lX12_285 kX12_stands vX12_stands (by decide) (by decide +kernel) rfl (Nat.le_of_ble_eq_true rfl) (by decide) rfl rfl rfl (Nat.le_of_ble_eq_true rfl) (fun hM hS => w_X12_stands (z := 1634562107) (n := 4) (by decide) hs0 hsz (by omega) (fun hs => Or.inl ⟨by rw [← wbl_1634562107]; exact hs, rfl, rfl⟩) (fun hs => Or.inr ⟨by rw [← wbl_1634562107]; exact hs, rfl, rfl⟩)) (fun r M' hq hM => ?_)
          rcases hq with ⟨h116, rfl, rfl⟩ | ⟨h116, rfl, rfl⟩
          · refine wp_if_eq (tgt := 135) dX12_takePiece_119 (by decide) (fun q => absurd q (by decide)) (fun _ => ?_)
            refine wp_aload_n dX12_takePiece_122 rfl rfl (by first | exact Or.inl (by decide) | exact Or.inl (by omega) | exact Or.inr (by decide) | exact Or.inr (by omega)) ?_
            refine wp_dup dX12_takePiece_123 (fun x e => by cases e) ?_
            refine wp_getI dX12_takePiece_124 fX12_276 rfl (by decide) ?_
            refine wp_topI (x' := (a + 1)) rfl ?_
            refine wp_iconst dX12_takePiece_127 (by decide) ?_
            refine wp_iaddr dX12_takePiece_128 (by omega) ?_
            refine wp_putI dX12_takePiece_129 pX12_276 rfl (by decide) ?_
            refine wp_M (M' := ((rs MI ((a + 1) + 4) 0 pl sz 1), ML, (GR d e nw th x))) (by rw [rs_4]) ?_
            refine wp_pc (pc' := 132) rfl ?_
            refine wp_bipush dX12_takePiece_132 (by decide +kernel) (by decide) ?_
            exact wp_iret dX12_takePiece_134 rfl (fun _ => by have := hT _ _ (by unfold pcS; rw [if_neg (fun q => q hamp), if_neg (by rw [stb_c hamp, h68]; decide), if_neg (by rw [stb_c hamp, h92]; decide), if_pos (by rw [stb_c hamp]; exact h116)]); rw [show bI (ob (MI 126) (MI 124 3) a = 38) = 1 from if_pos hamp] at this; simpa [Int.add_assoc] using this)
          · refine wp_if_eq (tgt := 135) dX12_takePiece_119 (by decide) (fun _ => ?_) (fun q => absurd q (by decide))
            refine wp_aload_n dX12_takePiece_135 rfl rfl (by first | exact Or.inl (by decide) | exact Or.inl (by omega) | exact Or.inr (by decide) | exact Or.inr (by omega)) ?_
            refine wp_ldc2 (x := 487301542971) dX12_takePiece_136 cX12_322 (by decide) ?_
            refine wp_iconst dX12_takePiece_139 (by decide) ?_
            refine wp_cVq (n := 2) (mt' := mX12_stands) (as := [vL 487301542971, vI 5]) (rest := []) (fun r M' => (stb (MI 126) (MI 124 3) (a + 1) [113, 117, 111, 116, 59] = true ∧ r = some (vI 1) ∧ M' = Mr MI ML d e nw th x (a + 1) 0 pl sz 1) ∨ (stb (MI 126) (MI 124 3) (a + 1) [113, 117, 111, 116, 59] = false ∧ r = some (vI 0) ∧ M' = Mr MI ML d e nw th x (a + 1) 0 pl sz 1)) dX12_takePiece_140 lX12_285 kX12_stands vX12_stands (by decide) (by decide +kernel) rfl (Nat.le_of_ble_eq_true rfl) (by decide) rfl rfl rfl (Nat.le_of_ble_eq_true rfl) (fun hM hS => w_X12_stands (z := 487301542971) (n := 5) (by decide) hs0 hsz (by omega) (fun hs => Or.inl ⟨by rw [← wbl_487301542971]; exact hs, rfl, rfl⟩) (fun hs => Or.inr ⟨by rw [← wbl_487301542971]; exact hs, rfl, rfl⟩)) (fun r M' hq hM => ?_)
            rcases hq with ⟨h140, rfl, rfl⟩ | ⟨h140, rfl, rfl⟩
            · refine wp_if_eq (tgt := 159) dX12_takePiece_143 (by decide) (fun q => absurd q (by decide)) (fun _ => ?_)
              refine wp_aload_n dX12_takePiece_146 rfl rfl (by first | exact Or.inl (by decide) | exact Or.inl (by omega) | exact Or.inr (by decide) | exact Or.inr (by omega)) ?_
              refine wp_dup dX12_takePiece_147 (fun x e => by cases e) ?_
              refine wp_getI dX12_takePiece_148 fX12_276 rfl (by decide) ?_
              refine wp_topI (x' := (a + 1)) rfl ?_
              refine wp_iconst dX12_takePiece_151 (by decide) ?_
              refine wp_iaddr dX12_takePiece_152 (by omega) ?_
              refine wp_putI dX12_takePiece_153 pX12_276 rfl (by decide) ?_
              refine wp_M (M' := ((rs MI ((a + 1) + 5) 0 pl sz 1), ML, (GR d e nw th x))) (by rw [rs_4]) ?_
              refine wp_pc (pc' := 156) rfl ?_
              refine wp_bipush dX12_takePiece_156 (by decide +kernel) (by decide) ?_
              exact wp_iret dX12_takePiece_158 rfl (fun _ => by have := hT _ _ (by unfold pcS; rw [if_neg (fun q => q hamp), if_neg (by rw [stb_c hamp, h68]; decide), if_neg (by rw [stb_c hamp, h92]; decide), if_neg (by rw [stb_c hamp, h116]; decide), if_pos (by rw [stb_c hamp]; exact h140)]); rw [show bI (ob (MI 126) (MI 124 3) a = 38) = 1 from if_pos hamp] at this; simpa [Int.add_assoc] using this)
            · refine wp_if_eq (tgt := 159) dX12_takePiece_143 (by decide) (fun _ => ?_) (fun q => absurd q (by decide))
              refine wp_aload_n dX12_takePiece_159 rfl rfl (by first | exact Or.inl (by decide) | exact Or.inl (by omega) | exact Or.inr (by decide) | exact Or.inr (by omega)) ?_
              refine wp_ldc2 (x := 418498179899) dX12_takePiece_160 cX12_324 (by decide) ?_
              refine wp_iconst dX12_takePiece_163 (by decide) ?_
              refine wp_cVq (n := 2) (mt' := mX12_stands) (as := [vL 418498179899, vI 5]) (rest := []) (fun r M' => (stb (MI 126) (MI 124 3) (a + 1) [97, 112, 111, 115, 59] = true ∧ r = some (vI 1) ∧ M' = Mr MI ML d e nw th x (a + 1) 0 pl sz 1) ∨ (stb (MI 126) (MI 124 3) (a + 1) [97, 112, 111, 115, 59] = false ∧ r = some (vI 0) ∧ M' = Mr MI ML d e nw th x (a + 1) 0 pl sz 1)) dX12_takePiece_164 lX12_285 kX12_stands vX12_stands (by decide) (by decide +kernel) rfl (Nat.le_of_ble_eq_true rfl) (by decide) rfl rfl rfl (Nat.le_of_ble_eq_true rfl) (fun hM hS => w_X12_stands (z := 418498179899) (n := 5) (by decide) hs0 hsz (by omega) (fun hs => Or.inl ⟨by rw [← wbl_418498179899]; exact hs, rfl, rfl⟩) (fun hs => Or.inr ⟨by rw [← wbl_418498179899]; exact hs, rfl, rfl⟩)) (fun r M' hq hM => ?_)
              rcases hq with ⟨h164, rfl, rfl⟩ | ⟨h164, rfl, rfl⟩
              · refine wp_if_eq (tgt := 183) dX12_takePiece_167 (by decide) (fun q => absurd q (by decide)) (fun _ => ?_)
                refine wp_aload_n dX12_takePiece_170 rfl rfl (by first | exact Or.inl (by decide) | exact Or.inl (by omega) | exact Or.inr (by decide) | exact Or.inr (by omega)) ?_
                refine wp_dup dX12_takePiece_171 (fun x e => by cases e) ?_
                refine wp_getI dX12_takePiece_172 fX12_276 rfl (by decide) ?_
                refine wp_topI (x' := (a + 1)) rfl ?_
                refine wp_iconst dX12_takePiece_175 (by decide) ?_
                refine wp_iaddr dX12_takePiece_176 (by omega) ?_
                refine wp_putI dX12_takePiece_177 pX12_276 rfl (by decide) ?_
                refine wp_M (M' := ((rs MI ((a + 1) + 5) 0 pl sz 1), ML, (GR d e nw th x))) (by rw [rs_4]) ?_
                refine wp_pc (pc' := 180) rfl ?_
                refine wp_bipush dX12_takePiece_180 (by decide +kernel) (by decide) ?_
                exact wp_iret dX12_takePiece_182 rfl (fun _ => by have := hT _ _ (by unfold pcS; rw [if_neg (fun q => q hamp), if_neg (by rw [stb_c hamp, h68]; decide), if_neg (by rw [stb_c hamp, h92]; decide), if_neg (by rw [stb_c hamp, h116]; decide), if_neg (by rw [stb_c hamp, h140]; decide), if_pos (by rw [stb_c hamp]; exact h164)]); rw [show bI (ob (MI 126) (MI 124 3) a = 38) = 1 from if_pos hamp] at this; simpa [Int.add_assoc] using this)
              · refine wp_if_eq (tgt := 183) dX12_takePiece_167 (by decide) (fun _ => ?_) (fun q => absurd q (by decide))
                refine wp_iconst dX12_takePiece_183 (by decide) ?_
                refine wp_istore_n dX12_takePiece_184 rfl (by decide) (wp_L (L' := [some (vR 124), some (vI a), some (vI ((ob (MI 126) (MI 124 3) a))), some (vI 0), none]) rfl ?_)
                refine wp_iconst dX12_takePiece_185 (by decide) ?_
                refine wp_istore dX12_takePiece_186 (by decide) (wp_L (L' := [some (vR 124), some (vI a), some (vI ((ob (MI 126) (MI 124 3) a))), some (vI 0), some (vI 0)]) rfl ?_)
                refine wp_aload_n dX12_takePiece_188 rfl rfl (by first | exact Or.inl (by decide) | exact Or.inl (by omega) | exact Or.inr (by decide) | exact Or.inr (by omega)) ?_
                refine wp_aload_n dX12_takePiece_189 rfl rfl (by first | exact Or.inl (by decide) | exact Or.inl (by omega) | exact Or.inr (by decide) | exact Or.inr (by omega)) ?_
                refine wp_pc (pc' := 190) rfl ?_
                refine wp_getI dX12_takePiece_190 fX12_276 rfl (by decide) ?_
                refine wp_topI (x' := (a + 1)) rfl ?_
                refine wp_cV (n := 1) (mt' := mX12_octet) (as := [vI ((a + 1))]) (rest := []) (some (vI ((ob (MI 126) (MI 124 3) (a + 1))))) ((rs MI (a + 1) 0 pl sz 1), ML, (GR d e nw th x)) dX12_takePiece_193 lX12_279 kX12_octet vX12_octet (by decide) (by decide +kernel) rfl (Nat.le_of_ble_eq_true rfl) (by decide) rfl rfl rfl (Nat.le_of_ble_eq_true rfl) (fun hM hS Q' hq => w_X12_octet hs0 hsz (by first | assumption | omega) hq) (fun hM => ?_)
                refine wp_bipush dX12_takePiece_196 (by decide +kernel) (by decide) ?_
                refine wp_icmp_ne (tgt := 272) dX12_takePiece_198 (by decide) (fun h198 => ?_) (fun h198 => ?_)
                · exact w_takePiece_x (c := 0) hs0 hsz (by omega) (by unfold numR; rw [if_neg (by omega)]) (fun b y hy => by have := hT b y (by unfold pcS; rw [if_neg (fun q => q hamp), if_neg (by rw [stb_c hamp, h68]; decide), if_neg (by rw [stb_c hamp, h92]; decide), if_neg (by rw [stb_c hamp, h116]; decide), if_neg (by rw [stb_c hamp, h140]; decide), if_neg (by rw [stb_c hamp, h164]; decide)]; exact hy); rw [show bI (ob (MI 126) (MI 124 3) a = 38) = 1 from if_pos hamp] at this; exact this) (fun f p g z hb hy => hF f p g z hb (by unfold pcS; rw [if_neg (fun q => q hamp), if_neg (by rw [stb_c hamp, h68]; decide), if_neg (by rw [stb_c hamp, h92]; decide), if_neg (by rw [stb_c hamp, h116]; decide), if_neg (by rw [stb_c hamp, h140]; decide), if_neg (by rw [stb_c hamp, h164]; decide)]; exact hy))
                · refine wp_aload_n dX12_takePiece_201 rfl rfl (by first | exact Or.inl (by decide) | exact Or.inl (by omega) | exact Or.inr (by decide) | exact Or.inr (by omega)) ?_
                  refine wp_dup dX12_takePiece_202 (fun x e => by cases e) ?_
                  refine wp_getI dX12_takePiece_203 fX12_276 rfl (by decide) ?_
                  refine wp_topI (x' := (a + 1)) rfl ?_
                  refine wp_iconst dX12_takePiece_206 (by decide) ?_
                  refine wp_iaddr dX12_takePiece_207 (by omega) ?_
                  refine wp_putI dX12_takePiece_208 pX12_276 rfl (by decide) ?_
                  refine wp_M (M' := ((rs MI ((a + 1) + 1) 0 pl sz 1), ML, (GR d e nw th x))) (by rw [rs_4]) ?_
                  exact w_takePiece_l hs0 hsz (fun b y hy => by have := hT b y (by unfold pcS; rw [if_neg (fun q => q hamp), if_neg (by rw [stb_c hamp, h68]; decide), if_neg (by rw [stb_c hamp, h92]; decide), if_neg (by rw [stb_c hamp, h116]; decide), if_neg (by rw [stb_c hamp, h140]; decide), if_neg (by rw [stb_c hamp, h164]; decide)]; exact hy); rw [show bI (ob (MI 126) (MI 124 3) a = 38) = 1 from if_pos hamp] at this; exact this) (fun f p g z hb hy => hF f p g z hb (by unfold pcS; rw [if_neg (fun q => q hamp), if_neg (by rw [stb_c hamp, h68]; decide), if_neg (by rw [stb_c hamp, h92]; decide), if_neg (by rw [stb_c hamp, h116]; decide), if_neg (by rw [stb_c hamp, h140]; decide), if_neg (by rw [stb_c hamp, h164]; decide)]; exact hy)) 7 0 0 (a + 1 + 1) (by omega) (by decide) (by omega) (by unfold numR; rw [if_pos (by omega)])
    · refine wp_topI (x' := 0) (if_neg h30) ?_
      refine wp_if_ne (tgt := 44) dX12_takePiece_33 (by decide) (fun q => absurd q (by decide)) (fun _ => ?_)
      refine wp_aload_n dX12_takePiece_36 rfl rfl (by first | exact Or.inl (by decide) | exact Or.inl (by omega) | exact Or.inr (by decide) | exact Or.inr (by omega)) ?_
      refine wp_iconst dX12_takePiece_37 (by decide) ?_
      refine wp_iload_n dX12_takePiece_38 rfl rfl ?_
      refine wp_cV (n := 2) (mt' := mX12_fail) (as := [vI ((-1)), vI a]) (rest := []) none ((rs MI a (-1) a sz 1), ML, (GR d e nw th x)) dX12_takePiece_39 lX12_293 kX12_fail vX12_fail (by decide) (by decide +kernel) rfl (Nat.le_of_ble_eq_true rfl) (by decide) rfl rfl rfl (Nat.le_of_ble_eq_true rfl) (fun hM hS Q' hq => w_X12_fail (fun _ => hq) (fun q => absurd rfl q)) (fun hM => ?_)
      refine wp_iconst dX12_takePiece_42 (by decide) ?_
      exact absurd (by rw [hamp]; omega) h30
end P26
