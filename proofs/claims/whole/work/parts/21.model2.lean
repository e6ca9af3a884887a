theorem dX11_agreeingOf_0 : decode cX11_agreeingOf 0 = .ok (.iconst 0, 1) := by decide +kernel
theorem dX11_agreeingOf_1 : decode cX11_agreeingOf 1 = .ok (.istore_n 2, 1) := by decide +kernel
theorem dX11_agreeingOf_2 : decode cX11_agreeingOf 2 = .ok (.iconst 0, 1) := by decide +kernel
theorem dX11_agreeingOf_3 : decode cX11_agreeingOf 3 = .ok (.istore_n 3, 1) := by decide +kernel
theorem dX11_agreeingOf_4 : decode cX11_agreeingOf 4 = .ok (.iload_n 3, 1) := by decide +kernel
theorem dX11_agreeingOf_5 : decode cX11_agreeingOf 5 = .ok (.aload_n 0, 1) := by decide +kernel
theorem dX11_agreeingOf_6 : decode cX11_agreeingOf 6 = .ok (.getfield 101, 3) := by decide +kernel
theorem dX11_agreeingOf_9 : decode cX11_agreeingOf 9 = .ok (.if_icmp .ge 28, 3) := by decide +kernel
theorem dX11_agreeingOf_12 : decode cX11_agreeingOf 12 = .ok (.iload_n 2, 1) := by decide +kernel
theorem dX11_agreeingOf_13 : decode cX11_agreeingOf 13 = .ok (.aload_n 0, 1) := by decide +kernel
theorem dX11_agreeingOf_14 : decode cX11_agreeingOf 14 = .ok (.iload_n 3, 1) := by decide +kernel
theorem dX11_agreeingOf_15 : decode cX11_agreeingOf 15 = .ok (.iload_n 1, 1) := by decide +kernel
theorem dX11_agreeingOf_16 : decode cX11_agreeingOf 16 = .ok (.invokevirtual 160, 3) := by decide +kernel
theorem dX11_agreeingOf_19 : decode cX11_agreeingOf 19 = .ok (.ifCond .eq 9, 3) := by decide +kernel
theorem dX11_agreeingOf_22 : decode cX11_agreeingOf 22 = .ok (.iconst 1, 1) := by decide +kernel
theorem dX11_agreeingOf_23 : decode cX11_agreeingOf 23 = .ok (.iload_n 3, 1) := by decide +kernel
theorem dX11_agreeingOf_24 : decode cX11_agreeingOf 24 = .ok (.ishl, 1) := by decide +kernel
theorem dX11_agreeingOf_25 : decode cX11_agreeingOf 25 = .ok (.goto 4, 3) := by decide +kernel
theorem dX11_agreeingOf_28 : decode cX11_agreeingOf 28 = .ok (.iconst 0, 1) := by decide +kernel
theorem dX11_agreeingOf_29 : decode cX11_agreeingOf 29 = .ok (.ior, 1) := by decide +kernel
theorem dX11_agreeingOf_30 : decode cX11_agreeingOf 30 = .ok (.istore_n 2, 1) := by decide +kernel
theorem dX11_agreeingOf_31 : decode cX11_agreeingOf 31 = .ok (.iinc 3 1, 3) := by decide +kernel
theorem dX11_agreeingOf_34 : decode cX11_agreeingOf 34 = .ok (.goto (-30), 3) := by decide +kernel
theorem dX11_agreeingOf_37 : decode cX11_agreeingOf 37 = .ok (.iconst 0, 1) := by decide +kernel
theorem dX11_agreeingOf_38 : decode cX11_agreeingOf 38 = .ok (.istore_n 3, 1) := by decide +kernel
theorem dX11_agreeingOf_39 : decode cX11_agreeingOf 39 = .ok (.iload_n 3, 1) := by decide +kernel
theorem dX11_agreeingOf_40 : decode cX11_agreeingOf 40 = .ok (.aload_n 0, 1) := by decide +kernel
theorem dX11_agreeingOf_41 : decode cX11_agreeingOf 41 = .ok (.getfield 101, 3) := by decide +kernel
theorem dX11_agreeingOf_44 : decode cX11_agreeingOf 44 = .ok (.if_icmp .ge 101, 3) := by decide +kernel
theorem dX11_agreeingOf_47 : decode cX11_agreeingOf 47 = .ok (.aload_n 0, 1) := by decide +kernel
theorem dX11_agreeingOf_48 : decode cX11_agreeingOf 48 = .ok (.getfield 60, 3) := by decide +kernel
theorem dX11_agreeingOf_51 : decode cX11_agreeingOf 51 = .ok (.iload_n 3, 1) := by decide +kernel
theorem dX11_agreeingOf_52 : decode cX11_agreeingOf 52 = .ok (.iconst 1, 1) := by decide +kernel
theorem dX11_agreeingOf_53 : decode cX11_agreeingOf 53 = .ok (.iload_n 3, 1) := by decide +kernel
theorem dX11_agreeingOf_54 : decode cX11_agreeingOf 54 = .ok (.ishl, 1) := by decide +kernel
theorem dX11_agreeingOf_55 : decode cX11_agreeingOf 55 = .ok (.iastore, 1) := by decide +kernel
theorem dX11_agreeingOf_56 : decode cX11_agreeingOf 56 = .ok (.iconst 0, 1) := by decide +kernel
theorem dX11_agreeingOf_57 : decode cX11_agreeingOf 57 = .ok (.istore 4, 2) := by decide +kernel
theorem dX11_agreeingOf_59 : decode cX11_agreeingOf 59 = .ok (.iload 4, 2) := by decide +kernel
theorem dX11_agreeingOf_61 : decode cX11_agreeingOf 61 = .ok (.aload_n 0, 1) := by decide +kernel
theorem dX11_agreeingOf_62 : decode cX11_agreeingOf 62 = .ok (.getfield 101, 3) := by decide +kernel
theorem dX11_agreeingOf_65 : decode cX11_agreeingOf 65 = .ok (.if_icmp .ge 74, 3) := by decide +kernel
theorem dX11_agreeingOf_68 : decode cX11_agreeingOf 68 = .ok (.iload_n 2, 1) := by decide +kernel
theorem dX11_agreeingOf_69 : decode cX11_agreeingOf 69 = .ok (.iload_n 3, 1) := by decide +kernel
theorem dX11_agreeingOf_70 : decode cX11_agreeingOf 70 = .ok (.ishr, 1) := by decide +kernel
theorem dX11_agreeingOf_71 : decode cX11_agreeingOf 71 = .ok (.iconst 1, 1) := by decide +kernel
theorem dX11_agreeingOf_72 : decode cX11_agreeingOf 72 = .ok (.iand, 1) := by decide +kernel
theorem dX11_agreeingOf_73 : decode cX11_agreeingOf 73 = .ok (.iconst 1, 1) := by decide +kernel
theorem dX11_agreeingOf_74 : decode cX11_agreeingOf 74 = .ok (.if_icmp .ne 34, 3) := by decide +kernel
theorem dX11_agreeingOf_77 : decode cX11_agreeingOf 77 = .ok (.iload_n 2, 1) := by decide +kernel
theorem dX11_agreeingOf_78 : decode cX11_agreeingOf 78 = .ok (.iload 4, 2) := by decide +kernel
theorem dX11_agreeingOf_80 : decode cX11_agreeingOf 80 = .ok (.ishr, 1) := by decide +kernel
theorem dX11_agreeingOf_81 : decode cX11_agreeingOf 81 = .ok (.iconst 1, 1) := by decide +kernel
theorem dX11_agreeingOf_82 : decode cX11_agreeingOf 82 = .ok (.iand, 1) := by decide +kernel
theorem dX11_agreeingOf_83 : decode cX11_agreeingOf 83 = .ok (.iconst 1, 1) := by decide +kernel
theorem dX11_agreeingOf_84 : decode cX11_agreeingOf 84 = .ok (.if_icmp .ne 24, 3) := by decide +kernel
theorem dX11_agreeingOf_87 : decode cX11_agreeingOf 87 = .ok (.iload_n 3, 1) := by decide +kernel
theorem dX11_agreeingOf_88 : decode cX11_agreeingOf 88 = .ok (.iload 4, 2) := by decide +kernel
theorem dX11_agreeingOf_90 : decode cX11_agreeingOf 90 = .ok (.if_icmp .eq 18, 3) := by decide +kernel
theorem dX11_agreeingOf_93 : decode cX11_agreeingOf 93 = .ok (.aload_n 0, 1) := by decide +kernel
theorem dX11_agreeingOf_94 : decode cX11_agreeingOf 94 = .ok (.iload_n 3, 1) := by decide +kernel
theorem dX11_agreeingOf_95 : decode cX11_agreeingOf 95 = .ok (.iload 4, 2) := by decide +kernel
theorem dX11_agreeingOf_97 : decode cX11_agreeingOf 97 = .ok (.iload_n 1, 1) := by decide +kernel
theorem dX11_agreeingOf_98 : decode cX11_agreeingOf 98 = .ok (.invokevirtual 177, 3) := by decide +kernel
theorem dX11_agreeingOf_101 : decode cX11_agreeingOf 101 = .ok (.ifCond .eq 7, 3) := by decide +kernel
theorem dX11_agreeingOf_104 : decode cX11_agreeingOf 104 = .ok (.iconst 1, 1) := by decide +kernel
theorem dX11_agreeingOf_105 : decode cX11_agreeingOf 105 = .ok (.goto 4, 3) := by decide +kernel
theorem dX11_agreeingOf_108 : decode cX11_agreeingOf 108 = .ok (.iconst 0, 1) := by decide +kernel
theorem dX11_agreeingOf_109 : decode cX11_agreeingOf 109 = .ok (.istore 5, 2) := by decide +kernel
theorem dX11_agreeingOf_111 : decode cX11_agreeingOf 111 = .ok (.aload_n 0, 1) := by decide +kernel
theorem dX11_agreeingOf_112 : decode cX11_agreeingOf 112 = .ok (.getfield 60, 3) := by decide +kernel
theorem dX11_agreeingOf_115 : decode cX11_agreeingOf 115 = .ok (.iload_n 3, 1) := by decide +kernel
theorem dX11_agreeingOf_116 : decode cX11_agreeingOf 116 = .ok (.dup2, 1) := by decide +kernel
theorem dX11_agreeingOf_117 : decode cX11_agreeingOf 117 = .ok (.iaload, 1) := by decide +kernel
theorem dX11_agreeingOf_118 : decode cX11_agreeingOf 118 = .ok (.iload 5, 2) := by decide +kernel
theorem dX11_agreeingOf_120 : decode cX11_agreeingOf 120 = .ok (.ifCond .eq 10, 3) := by decide +kernel
theorem dX11_agreeingOf_123 : decode cX11_agreeingOf 123 = .ok (.iconst 1, 1) := by decide +kernel
theorem dX11_agreeingOf_124 : decode cX11_agreeingOf 124 = .ok (.iload 4, 2) := by decide +kernel
theorem dX11_agreeingOf_126 : decode cX11_agreeingOf 126 = .ok (.ishl, 1) := by decide +kernel
theorem dX11_agreeingOf_127 : decode cX11_agreeingOf 127 = .ok (.goto 4, 3) := by decide +kernel
theorem dX11_agreeingOf_130 : decode cX11_agreeingOf 130 = .ok (.iconst 0, 1) := by decide +kernel
theorem dX11_agreeingOf_131 : decode cX11_agreeingOf 131 = .ok (.ior, 1) := by decide +kernel
theorem dX11_agreeingOf_132 : decode cX11_agreeingOf 132 = .ok (.iastore, 1) := by decide +kernel
theorem dX11_agreeingOf_133 : decode cX11_agreeingOf 133 = .ok (.iinc 4 1, 3) := by decide +kernel
theorem dX11_agreeingOf_136 : decode cX11_agreeingOf 136 = .ok (.goto (-77), 3) := by decide +kernel
theorem dX11_agreeingOf_139 : decode cX11_agreeingOf 139 = .ok (.iinc 3 1, 3) := by decide +kernel
theorem dX11_agreeingOf_142 : decode cX11_agreeingOf 142 = .ok (.goto (-103), 3) := by decide +kernel
theorem dX11_agreeingOf_145 : decode cX11_agreeingOf 145 = .ok (.iconst 0, 1) := by decide +kernel
theorem dX11_agreeingOf_146 : decode cX11_agreeingOf 146 = .ok (.istore_n 3, 1) := by decide +kernel
theorem dX11_agreeingOf_147 : decode cX11_agreeingOf 147 = .ok (.iconst 1, 1) := by decide +kernel
theorem dX11_agreeingOf_148 : decode cX11_agreeingOf 148 = .ok (.istore 4, 2) := by decide +kernel
theorem dX11_agreeingOf_150 : decode cX11_agreeingOf 150 = .ok (.iload 4, 2) := by decide +kernel
theorem dX11_agreeingOf_152 : decode cX11_agreeingOf 152 = .ok (.iconst 1, 1) := by decide +kernel
theorem dX11_agreeingOf_153 : decode cX11_agreeingOf 153 = .ok (.aload_n 0, 1) := by decide +kernel
theorem dX11_agreeingOf_154 : decode cX11_agreeingOf 154 = .ok (.getfield 101, 3) := by decide +kernel
theorem dX11_agreeingOf_157 : decode cX11_agreeingOf 157 = .ok (.ishl, 1) := by decide +kernel
theorem dX11_agreeingOf_158 : decode cX11_agreeingOf 158 = .ok (.if_icmp .ge 104, 3) := by decide +kernel
theorem dX11_agreeingOf_161 : decode cX11_agreeingOf 161 = .ok (.iload 4, 2) := by decide +kernel
theorem dX11_agreeingOf_163 : decode cX11_agreeingOf 163 = .ok (.iload_n 2, 1) := by decide +kernel
theorem dX11_agreeingOf_164 : decode cX11_agreeingOf 164 = .ok (.iconst (-1), 1) := by decide +kernel
theorem dX11_agreeingOf_165 : decode cX11_agreeingOf 165 = .ok (.ixor, 1) := by decide +kernel
theorem dX11_agreeingOf_166 : decode cX11_agreeingOf 166 = .ok (.iand, 1) := by decide +kernel
theorem dX11_agreeingOf_167 : decode cX11_agreeingOf 167 = .ok (.ifCond .ne 19, 3) := by decide +kernel
theorem dX11_agreeingOf_170 : decode cX11_agreeingOf 170 = .ok (.iload 4, 2) := by decide +kernel
theorem dX11_agreeingOf_172 : decode cX11_agreeingOf 172 = .ok (.invokestatic 180, 3) := by decide +kernel
theorem dX11_agreeingOf_175 : decode cX11_agreeingOf 175 = .ok (.iload_n 3, 1) := by decide +kernel
theorem dX11_agreeingOf_176 : decode cX11_agreeingOf 176 = .ok (.invokestatic 180, 3) := by decide +kernel
theorem dX11_agreeingOf_179 : decode cX11_agreeingOf 179 = .ok (.if_icmp .le 7, 3) := by decide +kernel
theorem dX11_agreeingOf_182 : decode cX11_agreeingOf 182 = .ok (.iconst 1, 1) := by decide +kernel
theorem dX11_agreeingOf_183 : decode cX11_agreeingOf 183 = .ok (.goto 4, 3) := by decide +kernel
theorem dX11_agreeingOf_186 : decode cX11_agreeingOf 186 = .ok (.iconst 0, 1) := by decide +kernel
theorem dX11_agreeingOf_187 : decode cX11_agreeingOf 187 = .ok (.istore 5, 2) := by decide +kernel
theorem dX11_agreeingOf_189 : decode cX11_agreeingOf 189 = .ok (.iconst 0, 1) := by decide +kernel
theorem dX11_agreeingOf_190 : decode cX11_agreeingOf 190 = .ok (.istore 6, 2) := by decide +kernel
theorem dX11_agreeingOf_192 : decode cX11_agreeingOf 192 = .ok (.iload 6, 2) := by decide +kernel
theorem dX11_agreeingOf_194 : decode cX11_agreeingOf 194 = .ok (.aload_n 0, 1) := by decide +kernel
theorem dX11_agreeingOf_195 : decode cX11_agreeingOf 195 = .ok (.getfield 101, 3) := by decide +kernel
theorem dX11_agreeingOf_198 : decode cX11_agreeingOf 198 = .ok (.if_icmp .ge 46, 3) := by decide +kernel
theorem dX11_agreeingOf_201 : decode cX11_agreeingOf 201 = .ok (.iload 5, 2) := by decide +kernel
theorem dX11_agreeingOf_203 : decode cX11_agreeingOf 203 = .ok (.ifCond .eq 41, 3) := by decide +kernel
theorem dX11_agreeingOf_206 : decode cX11_agreeingOf 206 = .ok (.iload 4, 2) := by decide +kernel
theorem dX11_agreeingOf_208 : decode cX11_agreeingOf 208 = .ok (.iload 6, 2) := by decide +kernel
theorem dX11_agreeingOf_210 : decode cX11_agreeingOf 210 = .ok (.ishr, 1) := by decide +kernel
theorem dX11_agreeingOf_211 : decode cX11_agreeingOf 211 = .ok (.iconst 1, 1) := by decide +kernel
theorem dX11_agreeingOf_212 : decode cX11_agreeingOf 212 = .ok (.iand, 1) := by decide +kernel
theorem dX11_agreeingOf_213 : decode cX11_agreeingOf 213 = .ok (.ifCond .eq 18, 3) := by decide +kernel
theorem dX11_agreeingOf_216 : decode cX11_agreeingOf 216 = .ok (.iload 4, 2) := by decide +kernel
theorem dX11_agreeingOf_218 : decode cX11_agreeingOf 218 = .ok (.aload_n 0, 1) := by decide +kernel
theorem dX11_agreeingOf_219 : decode cX11_agreeingOf 219 = .ok (.getfield 60, 3) := by decide +kernel
theorem dX11_agreeingOf_222 : decode cX11_agreeingOf 222 = .ok (.iload 6, 2) := by decide +kernel
theorem dX11_agreeingOf_224 : decode cX11_agreeingOf 224 = .ok (.iaload, 1) := by decide +kernel
theorem dX11_agreeingOf_225 : decode cX11_agreeingOf 225 = .ok (.iconst (-1), 1) := by decide +kernel
theorem dX11_agreeingOf_226 : decode cX11_agreeingOf 226 = .ok (.ixor, 1) := by decide +kernel
theorem dX11_agreeingOf_227 : decode cX11_agreeingOf 227 = .ok (.iand, 1) := by decide +kernel
theorem dX11_agreeingOf_228 : decode cX11_agreeingOf 228 = .ok (.ifCond .ne 7, 3) := by decide +kernel
theorem dX11_agreeingOf_231 : decode cX11_agreeingOf 231 = .ok (.iconst 1, 1) := by decide +kernel
theorem dX11_agreeingOf_232 : decode cX11_agreeingOf 232 = .ok (.goto 4, 3) := by decide +kernel
theorem dX11_agreeingOf_235 : decode cX11_agreeingOf 235 = .ok (.iconst 0, 1) := by decide +kernel
theorem dX11_agreeingOf_236 : decode cX11_agreeingOf 236 = .ok (.istore 5, 2) := by decide +kernel
theorem dX11_agreeingOf_238 : decode cX11_agreeingOf 238 = .ok (.iinc 6 1, 3) := by decide +kernel
theorem dX11_agreeingOf_241 : decode cX11_agreeingOf 241 = .ok (.goto (-49), 3) := by decide +kernel
theorem dX11_agreeingOf_244 : decode cX11_agreeingOf 244 = .ok (.iload 5, 2) := by decide +kernel
theorem dX11_agreeingOf_246 : decode cX11_agreeingOf 246 = .ok (.ifCond .eq 8, 3) := by decide +kernel
theorem dX11_agreeingOf_249 : decode cX11_agreeingOf 249 = .ok (.iload 4, 2) := by decide +kernel
theorem dX11_agreeingOf_251 : decode cX11_agreeingOf 251 = .ok (.goto 4, 3) := by decide +kernel
theorem dX11_agreeingOf_254 : decode cX11_agreeingOf 254 = .ok (.iload_n 3, 1) := by decide +kernel
theorem dX11_agreeingOf_255 : decode cX11_agreeingOf 255 = .ok (.istore_n 3, 1) := by decide +kernel
theorem dX11_agreeingOf_256 : decode cX11_agreeingOf 256 = .ok (.iinc 4 1, 3) := by decide +kernel
theorem dX11_agreeingOf_259 : decode cX11_agreeingOf 259 = .ok (.goto (-109), 3) := by decide +kernel
theorem dX11_agreeingOf_262 : decode cX11_agreeingOf 262 = .ok (.iload_n 3, 1) := by decide +kernel
theorem dX11_agreeingOf_263 : decode cX11_agreeingOf 263 = .ok (.ireturn, 1) := by decide +kernel
def wX11_agreeingOf_29 (post : Int32 → Sto → Prop)  (K4 : Int32 → Int32 → Int32 → Sto → Prop) (x1 : Int32) (x3 : Int32) (y0 : Int32) (y1 : Int32) (σ : Sto) : Prop := K4 x1 (y1 ||| y0) (x3 + (1 : Int32)) σ
set_option maxRecDepth 100000 in
set_option maxHeartbeats 4000000 in
theorem vX11_agreeingOf_29 (E : Ev) (post : Int32 → Sto → Prop)   (K4 : Int32 → Int32 → Int32 → Sto → Prop) (HK4 : ∀ (x1 : Int32) (x2 : Int32) (x3 : Int32) (σ : Sto), K4 x1 x2 x3 σ → V E 6 mX11_agreeingOf (pI post) 4 [(0, .ref 67), (1, .int x1), (2, .int x2), (3, .int x3)] [] σ) (x1 : Int32) (x3 : Int32) (y0 : Int32) (y1 : Int32) (σ : Sto) (h : wX11_agreeingOf_29 post  K4 x1 x3 y0 y1 σ) : V E 6 mX11_agreeingOf (pI post) 29 [(0, .ref 67), (1, .int x1), (3, .int x3)] [.int y0, .int y1] σ := by
  unfold wX11_agreeingOf_29 at h
  refine V_ior (pc := 29) dX11_agreeingOf_29 ?_
  refine V_istore_n (pc := 30) dX11_agreeingOf_30 (by decide) ?_
  refine V_iinc (pc := 31) 3 (v := 1) dX11_agreeingOf_31 rfl (by decide) (by decide) ?_
  refine V_goto (pc := 34) (tgt := 4) dX11_agreeingOf_34 (by decide) ?_
  exact V_loc [2, 3, 1, 0] rfl (HK4 x1 (y1 ||| y0) (x3 + (1 : Int32)) σ  h)
def wX11_agreeingOf_4 (post : Int32 → Sto → Prop)  (K37 : Int32 → Int32 → Sto → Prop) : Nat → Int32 → Int32 → Int32 → Sto → Prop
  | 0, _, _, _, _ => False
  | n + 1, x1, x2, x3, σ => (((σ.1 67 1) ≤ x3) → (K37 x1 x2 σ)) ∧ ((¬ ((σ.1 67 1) ≤ x3)) → (wX11_takes  x3 x1 σ (fun (r16 : Bool) (s16 : Sto) => ((r16 = false) → (wX11_agreeingOf_29 post  (wX11_agreeingOf_4 post  K37 n) x1 x3 ((0 : Int32)) x2 s16)) ∧ ((r16 = true) → (wX11_agreeingOf_29 post  (wX11_agreeingOf_4 post  K37 n) x1 x3 (((1 : Int32)) <<< (x3 &&& 31)) x2 s16)))))
set_option maxRecDepth 100000 in
set_option maxHeartbeats 4000000 in
theorem vX11_agreeingOf_4 (E : Ev) (post : Int32 → Sto → Prop)   (K37 : Int32 → Int32 → Sto → Prop) (HK37 : ∀ (x1 : Int32) (x2 : Int32) (σ : Sto), K37 x1 x2 σ → V E 6 mX11_agreeingOf (pI post) 37 [(0, .ref 67), (1, .int x1), (2, .int x2)] [] σ) : ∀ (n : Nat) (x1 : Int32) (x2 : Int32) (x3 : Int32) (σ : Sto), wX11_agreeingOf_4 post  K37 n x1 x2 x3 σ → V E 6 mX11_agreeingOf (pI post) 4 [(0, .ref 67), (1, .int x1), (2, .int x2), (3, .int x3)] [] σ := by
  intro n
  induction n with
  | zero => intro x1 x2 x3 σ h; exact h.elim
  | succ n ih =>
    intro x1 x2 x3 σ h
    unfold wX11_agreeingOf_4 at h
    refine V_iload_n (pc := 4) 3 dX11_agreeingOf_4 rfl ?_
    refine V_aload_n (pc := 5) 0 dX11_agreeingOf_5 rfl ?_
    refine V_getI (pc := 6) dX11_agreeingOf_6 fl_X11_101 sh_67 rfl ?_
    refine V_icmp_ge (pc := 9) (tgt := 37) dX11_agreeingOf_9 (by decide) (fun hc => ?_) (fun hc => ?_)
    · replace h := h.1 hc
      exact V_loc [0, 1, 2] rfl (HK37 x1 x2 σ  h)
    · replace h := h.2 hc
      refine V_iload_n (pc := 12) 2 dX11_agreeingOf_12 rfl ?_
      refine V_aload_n (pc := 13) 0 dX11_agreeingOf_13 rfl ?_
      refine V_iload_n (pc := 14) 3 dX11_agreeingOf_14 rfl ?_
      refine V_iload_n (pc := 15) 1 dX11_agreeingOf_15 rfl ?_
      refine V_callV (pc := 16) (M' := mX11_takes) dX11_agreeingOf_16 ml_X11_160 kv_X11_takes ko_X11_takes sh_67 (by decide) (by decide) rfl rfl (Nat.le_of_ble_eq_true rfl) (Nat.le_of_ble_eq_true rfl) (vX11_takes E  x3 x1 σ _  h) (kB (fun r16 s16 h => ?_))
      refine V_ifz (pc := 19) (tgt := 28) dX11_agreeingOf_19 (by decide) (fun hc => ?_) (fun hc => ?_)
      · replace h := h.1 hc
        refine V_iconst (pc := 28) (v := 0) dX11_agreeingOf_28 (by decide) ?_
        refine V_loc [0, 1, 3] rfl (vX11_agreeingOf_29 E post   _ ih x1 x3 ((0 : Int32)) x2 s16  h)
      · replace h := h.2 hc
        refine V_iconst (pc := 22) (v := 1) dX11_agreeingOf_22 (by decide) ?_
        refine V_iload_n (pc := 23) 3 dX11_agreeingOf_23 rfl ?_
        refine V_ishl (pc := 24) dX11_agreeingOf_24 ?_
        refine V_goto (pc := 25) (tgt := 29) dX11_agreeingOf_25 (by decide) ?_
        refine V_loc [0, 1, 3] rfl (vX11_agreeingOf_29 E post   _ ih x1 x3 (((1 : Int32)) <<< (x3 &&& 31)) x2 s16  h)
def wX11_agreeingOf_131 (post : Int32 → Sto → Prop)  (K59 : Int32 → Int32 → Int32 → Int32 → Sto → Prop) (x1 : Int32) (x2 : Int32) (x3 : Int32) (x4 : Int32) (y0 : Int32) (y1 : Int32) (y2 : Int32) (σ : Sto) : Prop := vp_in y2 14 ∧ (K59 x1 x2 x3 (x4 + (1 : Int32)) (wI σ 82 y2.toNatClampNeg (y1 ||| y0)))
set_option maxRecDepth 100000 in
set_option maxHeartbeats 4000000 in
theorem vX11_agreeingOf_131 (E : Ev) (post : Int32 → Sto → Prop)   (K59 : Int32 → Int32 → Int32 → Int32 → Sto → Prop) (HK59 : ∀ (x1 : Int32) (x2 : Int32) (x3 : Int32) (x4 : Int32) (σ : Sto), K59 x1 x2 x3 x4 σ → V E 6 mX11_agreeingOf (pI post) 59 [(0, .ref 67), (1, .int x1), (2, .int x2), (3, .int x3), (4, .int x4)] [] σ) (x1 : Int32) (x2 : Int32) (x3 : Int32) (x4 : Int32) (y0 : Int32) (y1 : Int32) (y2 : Int32) (σ : Sto) (h : wX11_agreeingOf_131 post  K59 x1 x2 x3 x4 y0 y1 y2 σ) : V E 6 mX11_agreeingOf (pI post) 131 [(0, .ref 67), (1, .int x1), (2, .int x2), (3, .int x3), (4, .int x4)] [.int y0, .int y1, .int y2, .ref 82] σ := by
  unfold wX11_agreeingOf_131 at h
  refine V_ior (pc := 131) dX11_agreeingOf_131 ?_
  obtain ⟨i132, h⟩ := h
  refine V_iast (pc := 132) dX11_agreeingOf_132 sh_82 i132 ?_
  refine V_iinc (pc := 133) 4 (v := 1) dX11_agreeingOf_133 rfl (by decide) (by decide) ?_
  refine V_goto (pc := 136) (tgt := 59) dX11_agreeingOf_136 (by decide) ?_
  exact V_loc [1, 2, 3, 4, 0] rfl (HK59 x1 x2 x3 (x4 + (1 : Int32)) (wI σ 82 y2.toNatClampNeg (y1 ||| y0))  h)
def wX11_agreeingOf_109 (post : Int32 → Sto → Prop)  (K59 : Int32 → Int32 → Int32 → Int32 → Sto → Prop) (x1 : Int32) (x2 : Int32) (x3 : Int32) (x4 : Int32) (y0 : Int32) (σ : Sto) : Prop := vp_in x3 14 ∧ (((y0 = 0) → (wX11_agreeingOf_131 post  K59 x1 x2 x3 x4 ((0 : Int32)) (σ.1 82 x3.toNatClampNeg) x3 σ)) ∧ ((¬ (y0 = 0)) → (wX11_agreeingOf_131 post  K59 x1 x2 x3 x4 (((1 : Int32)) <<< (x4 &&& 31)) (σ.1 82 x3.toNatClampNeg) x3 σ)))
set_option maxRecDepth 100000 in
set_option maxHeartbeats 4000000 in
theorem vX11_agreeingOf_109 (E : Ev) (post : Int32 → Sto → Prop)   (K59 : Int32 → Int32 → Int32 → Int32 → Sto → Prop) (HK59 : ∀ (x1 : Int32) (x2 : Int32) (x3 : Int32) (x4 : Int32) (σ : Sto), K59 x1 x2 x3 x4 σ → V E 6 mX11_agreeingOf (pI post) 59 [(0, .ref 67), (1, .int x1), (2, .int x2), (3, .int x3), (4, .int x4)] [] σ) (x1 : Int32) (x2 : Int32) (x3 : Int32) (x4 : Int32) (y0 : Int32) (σ : Sto) (h : wX11_agreeingOf_109 post  K59 x1 x2 x3 x4 y0 σ) : V E 6 mX11_agreeingOf (pI post) 109 [(0, .ref 67), (1, .int x1), (2, .int x2), (3, .int x3), (4, .int x4)] [.int y0] σ := by
  unfold wX11_agreeingOf_109 at h
  refine V_istore (pc := 109) dX11_agreeingOf_109 (by decide) ?_
  refine V_aload_n (pc := 111) 1 dX11_agreeingOf_111 rfl ?_
  refine V_getR (pc := 112) dX11_agreeingOf_112 fl_X11_60 sh_67 rfl ?_
  refine V_iload_n (pc := 115) 4 dX11_agreeingOf_115 rfl ?_
  refine V_dup2_11 (pc := 116) dX11_agreeingOf_116 rfl rfl ?_
  obtain ⟨i117, h⟩ := h
  refine V_iald (pc := 117) dX11_agreeingOf_117 sh_82 i117 ?_
  refine V_iload (pc := 118) 0 dX11_agreeingOf_118 rfl ?_
  refine V_if_eq (pc := 120) (tgt := 130) dX11_agreeingOf_120 (by decide) (fun hc => ?_) (fun hc => ?_)
  · replace h := h.1 hc
    refine V_iconst (pc := 130) (v := 0) dX11_agreeingOf_130 (by decide) ?_
    refine V_loc [1, 2, 3, 4, 5] rfl (vX11_agreeingOf_131 E post   K59 HK59 x1 x2 x3 x4 ((0 : Int32)) (σ.1 82 x3.toNatClampNeg) x3 σ  h)
  · replace h := h.2 hc
    refine V_iconst (pc := 123) (v := 1) dX11_agreeingOf_123 (by decide) ?_
    refine V_iload (pc := 124) 5 dX11_agreeingOf_124 rfl ?_
    refine V_ishl (pc := 126) dX11_agreeingOf_126 ?_
    refine V_goto (pc := 127) (tgt := 131) dX11_agreeingOf_127 (by decide) ?_
    refine V_loc [1, 2, 3, 4, 5] rfl (vX11_agreeingOf_131 E post   K59 HK59 x1 x2 x3 x4 (((1 : Int32)) <<< (x4 &&& 31)) (σ.1 82 x3.toNatClampNeg) x3 σ  h)
def wX11_agreeingOf_108 (post : Int32 → Sto → Prop)  (K59 : Int32 → Int32 → Int32 → Int32 → Sto → Prop) (x1 : Int32) (x2 : Int32) (x3 : Int32) (x4 : Int32) (σ : Sto) : Prop := wX11_agreeingOf_109 post  K59 x1 x2 x3 x4 ((0 : Int32)) σ
set_option maxRecDepth 100000 in
set_option maxHeartbeats 4000000 in
theorem vX11_agreeingOf_108 (E : Ev) (post : Int32 → Sto → Prop)   (K59 : Int32 → Int32 → Int32 → Int32 → Sto → Prop) (HK59 : ∀ (x1 : Int32) (x2 : Int32) (x3 : Int32) (x4 : Int32) (σ : Sto), K59 x1 x2 x3 x4 σ → V E 6 mX11_agreeingOf (pI post) 59 [(0, .ref 67), (1, .int x1), (2, .int x2), (3, .int x3), (4, .int x4)] [] σ) (x1 : Int32) (x2 : Int32) (x3 : Int32) (x4 : Int32) (σ : Sto) (h : wX11_agreeingOf_108 post  K59 x1 x2 x3 x4 σ) : V E 6 mX11_agreeingOf (pI post) 108 [(0, .ref 67), (1, .int x1), (2, .int x2), (3, .int x3), (4, .int x4)] [] σ := by
  unfold wX11_agreeingOf_108 at h
  refine V_iconst (pc := 108) (v := 0) dX11_agreeingOf_108 (by decide) ?_
  refine V_loc [0, 1, 2, 3, 4] rfl (vX11_agreeingOf_109 E post   K59 HK59 x1 x2 x3 x4 ((0 : Int32)) σ  h)
def wX11_agreeingOf_59 (post : Int32 → Sto → Prop)  (K139 : Int32 → Int32 → Int32 → Sto → Prop) : Nat → Int32 → Int32 → Int32 → Int32 → Sto → Prop
  | 0, _, _, _, _, _ => False
  | n + 1, x1, x2, x3, x4, σ => (((σ.1 67 1) ≤ x4) → (K139 x1 x2 x3 σ)) ∧ ((¬ ((σ.1 67 1) ≤ x4)) → (((¬ ((x2 >>> (x3 &&& 31)) &&& ((1 : Int32))) = ((1 : Int32))) → (wX11_agreeingOf_108 post  (wX11_agreeingOf_59 post  K139 n) x1 x2 x3 x4 σ)) ∧ ((((x2 >>> (x3 &&& 31)) &&& ((1 : Int32))) = ((1 : Int32))) → (((¬ ((x2 >>> (x4 &&& 31)) &&& ((1 : Int32))) = ((1 : Int32))) → (wX11_agreeingOf_108 post  (wX11_agreeingOf_59 post  K139 n) x1 x2 x3 x4 σ)) ∧ ((((x2 >>> (x4 &&& 31)) &&& ((1 : Int32))) = ((1 : Int32))) → (((x3 = x4) → (wX11_agreeingOf_108 post  (wX11_agreeingOf_59 post  K139 n) x1 x2 x3 x4 σ)) ∧ ((¬ (x3 = x4)) → (wX11_doAgree  x3 x4 x1 σ (fun (r98 : Bool) (s98 : Sto) => ((r98 = false) → (wX11_agreeingOf_108 post  (wX11_agreeingOf_59 post  K139 n) x1 x2 x3 x4 s98)) ∧ ((r98 = true) → (wX11_agreeingOf_109 post  (wX11_agreeingOf_59 post  K139 n) x1 x2 x3 x4 ((1 : Int32)) s98)))))))))))
set_option maxRecDepth 100000 in
set_option maxHeartbeats 4000000 in
theorem vX11_agreeingOf_59 (E : Ev) (post : Int32 → Sto → Prop)   (K139 : Int32 → Int32 → Int32 → Sto → Prop) (HK139 : ∀ (x1 : Int32) (x2 : Int32) (x3 : Int32) (σ : Sto), K139 x1 x2 x3 σ → V E 6 mX11_agreeingOf (pI post) 139 [(0, .ref 67), (1, .int x1), (2, .int x2), (3, .int x3)] [] σ) : ∀ (n : Nat) (x1 : Int32) (x2 : Int32) (x3 : Int32) (x4 : Int32) (σ : Sto), wX11_agreeingOf_59 post  K139 n x1 x2 x3 x4 σ → V E 6 mX11_agreeingOf (pI post) 59 [(0, .ref 67), (1, .int x1), (2, .int x2), (3, .int x3), (4, .int x4)] [] σ := by
  intro n
  induction n with
  | zero => intro x1 x2 x3 x4 σ h; exact h.elim
  | succ n ih =>
    intro x1 x2 x3 x4 σ h
    unfold wX11_agreeingOf_59 at h
    refine V_iload (pc := 59) 4 dX11_agreeingOf_59 rfl ?_
    refine V_aload_n (pc := 61) 0 dX11_agreeingOf_61 rfl ?_
    refine V_getI (pc := 62) dX11_agreeingOf_62 fl_X11_101 sh_67 rfl ?_
    refine V_icmp_ge (pc := 65) (tgt := 139) dX11_agreeingOf_65 (by decide) (fun hc => ?_) (fun hc => ?_)
    · replace h := h.1 hc
      exact V_loc [0, 1, 2, 3] rfl (HK139 x1 x2 x3 σ  h)
    · replace h := h.2 hc
      refine V_iload_n (pc := 68) 2 dX11_agreeingOf_68 rfl ?_
      refine V_iload_n (pc := 69) 3 dX11_agreeingOf_69 rfl ?_
      refine V_ishr (pc := 70) dX11_agreeingOf_70 ?_
      refine V_iconst (pc := 71) (v := 1) dX11_agreeingOf_71 (by decide) ?_
      refine V_iand (pc := 72) dX11_agreeingOf_72 ?_
      refine V_iconst (pc := 73) (v := 1) dX11_agreeingOf_73 (by decide) ?_
      refine V_icmp_ne (pc := 74) (tgt := 108) dX11_agreeingOf_74 (by decide) (fun hc => ?_) (fun hc => ?_)
      · replace h := h.1 hc
        refine V_loc [0, 1, 2, 3, 4] rfl (vX11_agreeingOf_108 E post   _ ih x1 x2 x3 x4 σ  h)
      · replace h := h.2 hc
        refine V_iload_n (pc := 77) 2 dX11_agreeingOf_77 rfl ?_
        refine V_iload (pc := 78) 4 dX11_agreeingOf_78 rfl ?_
        refine V_ishr (pc := 80) dX11_agreeingOf_80 ?_
        refine V_iconst (pc := 81) (v := 1) dX11_agreeingOf_81 (by decide) ?_
        refine V_iand (pc := 82) dX11_agreeingOf_82 ?_
        refine V_iconst (pc := 83) (v := 1) dX11_agreeingOf_83 (by decide) ?_
        refine V_icmp_ne (pc := 84) (tgt := 108) dX11_agreeingOf_84 (by decide) (fun hc => ?_) (fun hc => ?_)
        · replace h := h.1 hc
          refine V_loc [0, 1, 2, 3, 4] rfl (vX11_agreeingOf_108 E post   _ ih x1 x2 x3 x4 σ  h)
        · replace h := h.2 hc
          refine V_iload_n (pc := 87) 3 dX11_agreeingOf_87 rfl ?_
          refine V_iload (pc := 88) 4 dX11_agreeingOf_88 rfl ?_
          refine V_icmp_eq (pc := 90) (tgt := 108) dX11_agreeingOf_90 (by decide) (fun hc => ?_) (fun hc => ?_)
          · replace h := h.1 hc
            refine V_loc [0, 1, 2, 3, 4] rfl (vX11_agreeingOf_108 E post   _ ih x1 x2 x3 x4 σ  h)
          · replace h := h.2 hc
            refine V_aload_n (pc := 93) 0 dX11_agreeingOf_93 rfl ?_
            refine V_iload_n (pc := 94) 3 dX11_agreeingOf_94 rfl ?_
            refine V_iload (pc := 95) 4 dX11_agreeingOf_95 rfl ?_
            refine V_iload_n (pc := 97) 1 dX11_agreeingOf_97 rfl ?_
            refine V_callV (pc := 98) (M' := mX11_doAgree) dX11_agreeingOf_98 ml_X11_177 kv_X11_doAgree ko_X11_doAgree sh_67 (by decide) (by decide) rfl rfl (Nat.le_of_ble_eq_true rfl) (Nat.le_of_ble_eq_true rfl) (vX11_doAgree E  x3 x4 x1 σ _  h) (kB (fun r98 s98 h => ?_))
            refine V_ifz (pc := 101) (tgt := 108) dX11_agreeingOf_101 (by decide) (fun hc => ?_) (fun hc => ?_)
            · replace h := h.1 hc
              refine V_loc [0, 1, 2, 3, 4] rfl (vX11_agreeingOf_108 E post   _ ih x1 x2 x3 x4 s98  h)
            · replace h := h.2 hc
              refine V_iconst (pc := 104) (v := 1) dX11_agreeingOf_104 (by decide) ?_
              refine V_goto (pc := 105) (tgt := 109) dX11_agreeingOf_105 (by decide) ?_
              refine V_loc [0, 1, 2, 3, 4] rfl (vX11_agreeingOf_109 E post   _ ih x1 x2 x3 x4 ((1 : Int32)) s98  h)
def wX11_agreeingOf_39 (post : Int32 → Sto → Prop)  (K145 : Int32 → Sto → Prop) : Nat → Int32 → Int32 → Int32 → Sto → Prop
  | 0, _, _, _, _ => False
  | n + 1, x1, x2, x3, σ => (((σ.1 67 1) ≤ x3) → (K145 x2 σ)) ∧ ((¬ ((σ.1 67 1) ≤ x3)) → (vp_in x3 14 ∧ (∃ n59, wX11_agreeingOf_59 post  (fun (x1_2 : Int32) (x2_2 : Int32) (x3_2 : Int32) (σ_2 : Sto) => wX11_agreeingOf_39 post  K145 n x1_2 x2_2 (x3_2 + (1 : Int32)) σ_2) n59 x1 x2 x3 ((0 : Int32)) (wI σ 82 x3.toNatClampNeg (((1 : Int32)) <<< (x3 &&& 31))))))
set_option maxRecDepth 100000 in
set_option maxHeartbeats 4000000 in
theorem vX11_agreeingOf_39 (E : Ev) (post : Int32 → Sto → Prop)   (K145 : Int32 → Sto → Prop) (HK145 : ∀ (x2 : Int32) (σ : Sto), K145 x2 σ → V E 6 mX11_agreeingOf (pI post) 145 [(0, .ref 67), (2, .int x2)] [] σ) : ∀ (n : Nat) (x1 : Int32) (x2 : Int32) (x3 : Int32) (σ : Sto), wX11_agreeingOf_39 post  K145 n x1 x2 x3 σ → V E 6 mX11_agreeingOf (pI post) 39 [(0, .ref 67), (1, .int x1), (2, .int x2), (3, .int x3)] [] σ := by
  intro n
  induction n with
  | zero => intro x1 x2 x3 σ h; exact h.elim
  | succ n ih =>
    intro x1 x2 x3 σ h
    unfold wX11_agreeingOf_39 at h
    refine V_iload_n (pc := 39) 3 dX11_agreeingOf_39 rfl ?_
    refine V_aload_n (pc := 40) 0 dX11_agreeingOf_40 rfl ?_
    refine V_getI (pc := 41) dX11_agreeingOf_41 fl_X11_101 sh_67 rfl ?_
    refine V_icmp_ge (pc := 44) (tgt := 145) dX11_agreeingOf_44 (by decide) (fun hc => ?_) (fun hc => ?_)
    · replace h := h.1 hc
      exact V_loc [0, 2] rfl (HK145 x2 σ  h)
    · replace h := h.2 hc
      refine V_aload_n (pc := 47) 0 dX11_agreeingOf_47 rfl ?_
      refine V_getR (pc := 48) dX11_agreeingOf_48 fl_X11_60 sh_67 rfl ?_
      refine V_iload_n (pc := 51) 3 dX11_agreeingOf_51 rfl ?_
      refine V_iconst (pc := 52) (v := 1) dX11_agreeingOf_52 (by decide) ?_
      refine V_iload_n (pc := 53) 3 dX11_agreeingOf_53 rfl ?_
      refine V_ishl (pc := 54) dX11_agreeingOf_54 ?_
      obtain ⟨i55, h⟩ := h
      refine V_iast (pc := 55) dX11_agreeingOf_55 sh_82 i55 ?_
      refine V_iconst (pc := 56) (v := 0) dX11_agreeingOf_56 (by decide) ?_
      refine V_istore (pc := 57) dX11_agreeingOf_57 (by decide) ?_
      obtain ⟨n59, h⟩ := h
      refine V_loc [1, 2, 3, 4, 0] rfl (vX11_agreeingOf_59 E post   _ (fun x1_2 x2_2 x3_2 σ_2 h => ?_) n59 x1 x2 x3 ((0 : Int32)) (wI σ 82 x3.toNatClampNeg (((1 : Int32)) <<< (x3 &&& 31)))  h)
      · refine V_iinc (pc := 139) 3 (v := 1) dX11_agreeingOf_139 rfl (by decide) (by decide) ?_
        refine V_goto (pc := 142) (tgt := 39) dX11_agreeingOf_142 (by decide) ?_
        exact V_loc [1, 2, 3, 0] rfl (ih x1_2 x2_2 (x3_2 + (1 : Int32)) σ_2  h)
def wX11_agreeingOf_236 (post : Int32 → Sto → Prop)  (K192 : Int32 → Int32 → Int32 → Int32 → Int32 → Sto → Prop) (x2 : Int32) (x3 : Int32) (x4 : Int32) (x6 : Int32) (y0 : Int32) (σ : Sto) : Prop := K192 x2 x3 x4 y0 (x6 + (1 : Int32)) σ
set_option maxRecDepth 100000 in
set_option maxHeartbeats 4000000 in
theorem vX11_agreeingOf_236 (E : Ev) (post : Int32 → Sto → Prop)   (K192 : Int32 → Int32 → Int32 → Int32 → Int32 → Sto → Prop) (HK192 : ∀ (x2 : Int32) (x3 : Int32) (x4 : Int32) (x5 : Int32) (x6 : Int32) (σ : Sto), K192 x2 x3 x4 x5 x6 σ → V E 6 mX11_agreeingOf (pI post) 192 [(0, .ref 67), (2, .int x2), (3, .int x3), (4, .int x4), (5, .int x5), (6, .int x6)] [] σ) (x2 : Int32) (x3 : Int32) (x4 : Int32) (x6 : Int32) (y0 : Int32) (σ : Sto) (h : wX11_agreeingOf_236 post  K192 x2 x3 x4 x6 y0 σ) : V E 6 mX11_agreeingOf (pI post) 236 [(0, .ref 67), (2, .int x2), (3, .int x3), (4, .int x4), (6, .int x6)] [.int y0] σ := by
  unfold wX11_agreeingOf_236 at h
  refine V_istore (pc := 236) dX11_agreeingOf_236 (by decide) ?_
  refine V_iinc (pc := 238) 5 (v := 1) dX11_agreeingOf_238 rfl (by decide) (by decide) ?_
  refine V_goto (pc := 241) (tgt := 192) dX11_agreeingOf_241 (by decide) ?_
  exact V_loc [2, 3, 4, 5, 1, 0] rfl (HK192 x2 x3 x4 y0 (x6 + (1 : Int32)) σ  h)
def wX11_agreeingOf_231 (post : Int32 → Sto → Prop)  (K192 : Int32 → Int32 → Int32 → Int32 → Int32 → Sto → Prop) (x2 : Int32) (x3 : Int32) (x4 : Int32) (x6 : Int32) (σ : Sto) : Prop := wX11_agreeingOf_236 post  K192 x2 x3 x4 x6 ((1 : Int32)) σ
set_option maxRecDepth 100000 in
set_option maxHeartbeats 4000000 in
theorem vX11_agreeingOf_231 (E : Ev) (post : Int32 → Sto → Prop)   (K192 : Int32 → Int32 → Int32 → Int32 → Int32 → Sto → Prop) (HK192 : ∀ (x2 : Int32) (x3 : Int32) (x4 : Int32) (x5 : Int32) (x6 : Int32) (σ : Sto), K192 x2 x3 x4 x5 x6 σ → V E 6 mX11_agreeingOf (pI post) 192 [(0, .ref 67), (2, .int x2), (3, .int x3), (4, .int x4), (5, .int x5), (6, .int x6)] [] σ) (x2 : Int32) (x3 : Int32) (x4 : Int32) (x6 : Int32) (σ : Sto) (h : wX11_agreeingOf_231 post  K192 x2 x3 x4 x6 σ) : V E 6 mX11_agreeingOf (pI post) 231 [(0, .ref 67), (2, .int x2), (3, .int x3), (4, .int x4), (6, .int x6)] [] σ := by
  unfold wX11_agreeingOf_231 at h
  refine V_iconst (pc := 231) (v := 1) dX11_agreeingOf_231 (by decide) ?_
  refine V_goto (pc := 232) (tgt := 236) dX11_agreeingOf_232 (by decide) ?_
  refine V_loc [0, 1, 2, 3, 4] rfl (vX11_agreeingOf_236 E post   K192 HK192 x2 x3 x4 x6 ((1 : Int32)) σ  h)
def wX11_agreeingOf_192 (post : Int32 → Sto → Prop)  (K244 : Int32 → Int32 → Int32 → Int32 → Sto → Prop) : Nat → Int32 → Int32 → Int32 → Int32 → Int32 → Sto → Prop
  | 0, _, _, _, _, _, _ => False
  | n + 1, x2, x3, x4, x5, x6, σ => (((σ.1 67 1) ≤ x6) → (K244 x2 x3 x4 x5 σ)) ∧ ((¬ ((σ.1 67 1) ≤ x6)) → (((x5 = 0) → (K244 x2 x3 x4 x5 σ)) ∧ ((¬ (x5 = 0)) → (((((x4 >>> (x6 &&& 31)) &&& ((1 : Int32))) = 0) → (wX11_agreeingOf_231 post  (wX11_agreeingOf_192 post  K244 n) x2 x3 x4 x6 σ)) ∧ ((¬ (((x4 >>> (x6 &&& 31)) &&& ((1 : Int32))) = 0)) → (vp_in x6 14 ∧ (((¬ (x4 &&& ((σ.1 82 x6.toNatClampNeg) ^^^ ((-1 : Int32)))) = 0) → (wX11_agreeingOf_236 post  (wX11_agreeingOf_192 post  K244 n) x2 x3 x4 x6 ((0 : Int32)) σ)) ∧ (((x4 &&& ((σ.1 82 x6.toNatClampNeg) ^^^ ((-1 : Int32)))) = 0) → (wX11_agreeingOf_231 post  (wX11_agreeingOf_192 post  K244 n) x2 x3 x4 x6 σ)))))))))
set_option maxRecDepth 100000 in
set_option maxHeartbeats 4000000 in
theorem vX11_agreeingOf_192 (E : Ev) (post : Int32 → Sto → Prop)   (K244 : Int32 → Int32 → Int32 → Int32 → Sto → Prop) (HK244 : ∀ (x2 : Int32) (x3 : Int32) (x4 : Int32) (x5 : Int32) (σ : Sto), K244 x2 x3 x4 x5 σ → V E 6 mX11_agreeingOf (pI post) 244 [(0, .ref 67), (2, .int x2), (3, .int x3), (4, .int x4), (5, .int x5)] [] σ) : ∀ (n : Nat) (x2 : Int32) (x3 : Int32) (x4 : Int32) (x5 : Int32) (x6 : Int32) (σ : Sto), wX11_agreeingOf_192 post  K244 n x2 x3 x4 x5 x6 σ → V E 6 mX11_agreeingOf (pI post) 192 [(0, .ref 67), (2, .int x2), (3, .int x3), (4, .int x4), (5, .int x5), (6, .int x6)] [] σ := by
  intro n
  induction n with
  | zero => intro x2 x3 x4 x5 x6 σ h; exact h.elim
  | succ n ih =>
    intro x2 x3 x4 x5 x6 σ h
    unfold wX11_agreeingOf_192 at h
    refine V_iload (pc := 192) 5 dX11_agreeingOf_192 rfl ?_
    refine V_aload_n (pc := 194) 0 dX11_agreeingOf_194 rfl ?_
    refine V_getI (pc := 195) dX11_agreeingOf_195 fl_X11_101 sh_67 rfl ?_
    refine V_icmp_ge (pc := 198) (tgt := 244) dX11_agreeingOf_198 (by decide) (fun hc => ?_) (fun hc => ?_)
    · replace h := h.1 hc
      exact V_loc [0, 1, 2, 3, 4] rfl (HK244 x2 x3 x4 x5 σ  h)
    · replace h := h.2 hc
      refine V_iload (pc := 201) 4 dX11_agreeingOf_201 rfl ?_
      refine V_if_eq (pc := 203) (tgt := 244) dX11_agreeingOf_203 (by decide) (fun hc => ?_) (fun hc => ?_)
      · replace h := h.1 hc
        exact V_loc [0, 1, 2, 3, 4] rfl (HK244 x2 x3 x4 x5 σ  h)
      · replace h := h.2 hc
        refine V_iload (pc := 206) 3 dX11_agreeingOf_206 rfl ?_
        refine V_iload (pc := 208) 5 dX11_agreeingOf_208 rfl ?_
        refine V_ishr (pc := 210) dX11_agreeingOf_210 ?_
        refine V_iconst (pc := 211) (v := 1) dX11_agreeingOf_211 (by decide) ?_
        refine V_iand (pc := 212) dX11_agreeingOf_212 ?_
        refine V_if_eq (pc := 213) (tgt := 231) dX11_agreeingOf_213 (by decide) (fun hc => ?_) (fun hc => ?_)
        · replace h := h.1 hc
          refine V_loc [0, 1, 2, 3, 5] rfl (vX11_agreeingOf_231 E post   _ ih x2 x3 x4 x6 σ  h)
        · replace h := h.2 hc
          refine V_iload (pc := 216) 3 dX11_agreeingOf_216 rfl ?_
          refine V_aload_n (pc := 218) 0 dX11_agreeingOf_218 rfl ?_
          refine V_getR (pc := 219) dX11_agreeingOf_219 fl_X11_60 sh_67 rfl ?_
          refine V_iload (pc := 222) 5 dX11_agreeingOf_222 rfl ?_
          obtain ⟨i224, h⟩ := h
          refine V_iald (pc := 224) dX11_agreeingOf_224 sh_82 i224 ?_
          refine V_iconst (pc := 225) (v := -1) dX11_agreeingOf_225 (by decide) ?_
          refine V_ixor (pc := 226) dX11_agreeingOf_226 ?_
          refine V_iand (pc := 227) dX11_agreeingOf_227 ?_
          refine V_if_ne (pc := 228) (tgt := 235) dX11_agreeingOf_228 (by decide) (fun hc => ?_) (fun hc => ?_)
          · replace h := h.1 hc
            refine V_iconst (pc := 235) (v := 0) dX11_agreeingOf_235 (by decide) ?_
            refine V_loc [0, 1, 2, 3, 5] rfl (vX11_agreeingOf_236 E post   _ ih x2 x3 x4 x6 ((0 : Int32)) σ  h)
          · replace h := h.2 hc
            refine V_loc [0, 1, 2, 3, 5] rfl (vX11_agreeingOf_231 E post   _ ih x2 x3 x4 x6 σ  h)
def wX11_agreeingOf_255 (post : Int32 → Sto → Prop)  (K150 : Int32 → Int32 → Int32 → Sto → Prop) (x2 : Int32) (x4 : Int32) (y0 : Int32) (σ : Sto) : Prop := K150 x2 y0 (x4 + (1 : Int32)) σ
set_option maxRecDepth 100000 in
set_option maxHeartbeats 4000000 in
theorem vX11_agreeingOf_255 (E : Ev) (post : Int32 → Sto → Prop)   (K150 : Int32 → Int32 → Int32 → Sto → Prop) (HK150 : ∀ (x2 : Int32) (x3 : Int32) (x4 : Int32) (σ : Sto), K150 x2 x3 x4 σ → V E 6 mX11_agreeingOf (pI post) 150 [(0, .ref 67), (2, .int x2), (3, .int x3), (4, .int x4)] [] σ) (x2 : Int32) (x4 : Int32) (y0 : Int32) (σ : Sto) (h : wX11_agreeingOf_255 post  K150 x2 x4 y0 σ) : V E 6 mX11_agreeingOf (pI post) 255 [(0, .ref 67), (2, .int x2), (4, .int x4)] [.int y0] σ := by
  unfold wX11_agreeingOf_255 at h
  refine V_istore_n (pc := 255) dX11_agreeingOf_255 (by decide) ?_
  refine V_iinc (pc := 256) 3 (v := 1) dX11_agreeingOf_256 rfl (by decide) (by decide) ?_
  refine V_goto (pc := 259) (tgt := 150) dX11_agreeingOf_259 (by decide) ?_
  exact V_loc [2, 3, 1, 0] rfl (HK150 x2 y0 (x4 + (1 : Int32)) σ  h)
def wX11_agreeingOf_244 (post : Int32 → Sto → Prop)  (K150 : Int32 → Int32 → Int32 → Sto → Prop) (x2 : Int32) (x3 : Int32) (x4 : Int32) (x5 : Int32) (σ : Sto) : Prop := ((x5 = 0) → (wX11_agreeingOf_255 post  K150 x2 x4 x3 σ)) ∧ ((¬ (x5 = 0)) → (wX11_agreeingOf_255 post  K150 x2 x4 x4 σ))
set_option maxRecDepth 100000 in
set_option maxHeartbeats 4000000 in
theorem vX11_agreeingOf_244 (E : Ev) (post : Int32 → Sto → Prop)   (K150 : Int32 → Int32 → Int32 → Sto → Prop) (HK150 : ∀ (x2 : Int32) (x3 : Int32) (x4 : Int32) (σ : Sto), K150 x2 x3 x4 σ → V E 6 mX11_agreeingOf (pI post) 150 [(0, .ref 67), (2, .int x2), (3, .int x3), (4, .int x4)] [] σ) (x2 : Int32) (x3 : Int32) (x4 : Int32) (x5 : Int32) (σ : Sto) (h : wX11_agreeingOf_244 post  K150 x2 x3 x4 x5 σ) : V E 6 mX11_agreeingOf (pI post) 244 [(0, .ref 67), (2, .int x2), (3, .int x3), (4, .int x4), (5, .int x5)] [] σ := by
  unfold wX11_agreeingOf_244 at h
  refine V_iload (pc := 244) 4 dX11_agreeingOf_244 rfl ?_
  refine V_if_eq (pc := 246) (tgt := 254) dX11_agreeingOf_246 (by decide) (fun hc => ?_) (fun hc => ?_)
  · replace h := h.1 hc
    refine V_iload_n (pc := 254) 2 dX11_agreeingOf_254 rfl ?_
    refine V_loc [0, 1, 3] rfl (vX11_agreeingOf_255 E post   K150 HK150 x2 x4 x3 σ  h)
  · replace h := h.2 hc
    refine V_iload (pc := 249) 3 dX11_agreeingOf_249 rfl ?_
    refine V_goto (pc := 251) (tgt := 255) dX11_agreeingOf_251 (by decide) ?_
    refine V_loc [0, 1, 3] rfl (vX11_agreeingOf_255 E post   K150 HK150 x2 x4 x4 σ  h)
def wX11_agreeingOf_187 (post : Int32 → Sto → Prop)  (K150 : Int32 → Int32 → Int32 → Sto → Prop) (x2 : Int32) (x3 : Int32) (x4 : Int32) (y0 : Int32) (σ : Sto) : Prop := ∃ n192, wX11_agreeingOf_192 post  (fun (x2_4 : Int32) (x3_4 : Int32) (x4_4 : Int32) (x5_4 : Int32) (σ_4 : Sto) => wX11_agreeingOf_244 post  K150 x2_4 x3_4 x4_4 x5_4 σ_4) n192 x2 x3 x4 y0 ((0 : Int32)) σ
set_option maxRecDepth 100000 in
set_option maxHeartbeats 4000000 in
theorem vX11_agreeingOf_187 (E : Ev) (post : Int32 → Sto → Prop)   (K150 : Int32 → Int32 → Int32 → Sto → Prop) (HK150 : ∀ (x2 : Int32) (x3 : Int32) (x4 : Int32) (σ : Sto), K150 x2 x3 x4 σ → V E 6 mX11_agreeingOf (pI post) 150 [(0, .ref 67), (2, .int x2), (3, .int x3), (4, .int x4)] [] σ) (x2 : Int32) (x3 : Int32) (x4 : Int32) (y0 : Int32) (σ : Sto) (h : wX11_agreeingOf_187 post  K150 x2 x3 x4 y0 σ) : V E 6 mX11_agreeingOf (pI post) 187 [(0, .ref 67), (2, .int x2), (3, .int x3), (4, .int x4)] [.int y0] σ := by
  unfold wX11_agreeingOf_187 at h
  refine V_istore (pc := 187) dX11_agreeingOf_187 (by decide) ?_
  refine V_iconst (pc := 189) (v := 0) dX11_agreeingOf_189 (by decide) ?_
  refine V_istore (pc := 190) dX11_agreeingOf_190 (by decide) ?_
  obtain ⟨n192, h⟩ := h
  refine V_loc [2, 3, 4, 5, 1, 0] rfl (vX11_agreeingOf_192 E post   _ (fun x2_4 x3_4 x4_4 x5_4 σ_4 h => ?_) n192 x2 x3 x4 y0 ((0 : Int32)) σ  h)
  · refine V_loc [0, 1, 2, 3, 4] rfl (vX11_agreeingOf_244 E post   K150 HK150 x2_4 x3_4 x4_4 x5_4 σ_4  h)
def wX11_agreeingOf_186 (post : Int32 → Sto → Prop)  (K150 : Int32 → Int32 → Int32 → Sto → Prop) (x2 : Int32) (x3 : Int32) (x4 : Int32) (σ : Sto) : Prop := wX11_agreeingOf_187 post  K150 x2 x3 x4 ((0 : Int32)) σ
set_option maxRecDepth 100000 in
set_option maxHeartbeats 4000000 in
theorem vX11_agreeingOf_186 (E : Ev) (post : Int32 → Sto → Prop)   (K150 : Int32 → Int32 → Int32 → Sto → Prop) (HK150 : ∀ (x2 : Int32) (x3 : Int32) (x4 : Int32) (σ : Sto), K150 x2 x3 x4 σ → V E 6 mX11_agreeingOf (pI post) 150 [(0, .ref 67), (2, .int x2), (3, .int x3), (4, .int x4)] [] σ) (x2 : Int32) (x3 : Int32) (x4 : Int32) (σ : Sto) (h : wX11_agreeingOf_186 post  K150 x2 x3 x4 σ) : V E 6 mX11_agreeingOf (pI post) 186 [(0, .ref 67), (2, .int x2), (3, .int x3), (4, .int x4)] [] σ := by
  unfold wX11_agreeingOf_186 at h
  refine V_iconst (pc := 186) (v := 0) dX11_agreeingOf_186 (by decide) ?_
  refine V_loc [0, 1, 2, 3] rfl (vX11_agreeingOf_187 E post   K150 HK150 x2 x3 x4 ((0 : Int32)) σ  h)
def wX11_agreeingOf_150 (post : Int32 → Sto → Prop)  (K262 : Int32 → Sto → Prop) : Nat → Int32 → Int32 → Int32 → Sto → Prop
  | 0, _, _, _, _ => False
  | n + 1, x2, x3, x4, σ => (((((1 : Int32)) <<< ((σ.1 67 1) &&& 31)) ≤ x4) → (K262 x3 σ)) ∧ ((¬ ((((1 : Int32)) <<< ((σ.1 67 1) &&& 31)) ≤ x4)) → (((¬ (x4 &&& (x2 ^^^ ((-1 : Int32)))) = 0) → (wX11_agreeingOf_186 post  (wX11_agreeingOf_150 post  K262 n) x2 x3 x4 σ)) ∧ (((x4 &&& (x2 ^^^ ((-1 : Int32)))) = 0) → (wX11_ones  x4 σ (fun (r172 : Int32) (s172 : Sto) => wX11_ones  x3 s172 (fun (r176 : Int32) (s176 : Sto) => ((r172 ≤ r176) → (wX11_agreeingOf_186 post  (wX11_agreeingOf_150 post  K262 n) x2 x3 x4 s176)) ∧ ((¬ (r172 ≤ r176)) → (wX11_agreeingOf_187 post  (wX11_agreeingOf_150 post  K262 n) x2 x3 x4 ((1 : Int32)) s176))))))))
set_option maxRecDepth 100000 in
set_option maxHeartbeats 4000000 in
theorem vX11_agreeingOf_150 (E : Ev) (post : Int32 → Sto → Prop)   (K262 : Int32 → Sto → Prop) (HK262 : ∀ (x3 : Int32) (σ : Sto), K262 x3 σ → V E 6 mX11_agreeingOf (pI post) 262 [(3, .int x3)] [] σ) : ∀ (n : Nat) (x2 : Int32) (x3 : Int32) (x4 : Int32) (σ : Sto), wX11_agreeingOf_150 post  K262 n x2 x3 x4 σ → V E 6 mX11_agreeingOf (pI post) 150 [(0, .ref 67), (2, .int x2), (3, .int x3), (4, .int x4)] [] σ := by
  intro n
  induction n with
  | zero => intro x2 x3 x4 σ h; exact h.elim
  | succ n ih =>
    intro x2 x3 x4 σ h
    unfold wX11_agreeingOf_150 at h
    refine V_iload (pc := 150) 3 dX11_agreeingOf_150 rfl ?_
    refine V_iconst (pc := 152) (v := 1) dX11_agreeingOf_152 (by decide) ?_
    refine V_aload_n (pc := 153) 0 dX11_agreeingOf_153 rfl ?_
    refine V_getI (pc := 154) dX11_agreeingOf_154 fl_X11_101 sh_67 rfl ?_
    refine V_ishl (pc := 157) dX11_agreeingOf_157 ?_
    refine V_icmp_ge (pc := 158) (tgt := 262) dX11_agreeingOf_158 (by decide) (fun hc => ?_) (fun hc => ?_)
    · replace h := h.1 hc
      exact V_loc [2] rfl (HK262 x3 σ  h)
    · replace h := h.2 hc
      refine V_iload (pc := 161) 3 dX11_agreeingOf_161 rfl ?_
      refine V_iload_n (pc := 163) 1 dX11_agreeingOf_163 rfl ?_
      refine V_iconst (pc := 164) (v := -1) dX11_agreeingOf_164 (by decide) ?_
      refine V_ixor (pc := 165) dX11_agreeingOf_165 ?_
      refine V_iand (pc := 166) dX11_agreeingOf_166 ?_
      refine V_if_ne (pc := 167) (tgt := 186) dX11_agreeingOf_167 (by decide) (fun hc => ?_) (fun hc => ?_)
      · replace h := h.1 hc
        refine V_loc [0, 1, 2, 3] rfl (vX11_agreeingOf_186 E post   _ ih x2 x3 x4 σ  h)
      · replace h := h.2 hc
        refine V_iload (pc := 170) 3 dX11_agreeingOf_170 rfl ?_
        refine V_callS (pc := 172) (M' := mX11_ones) dX11_agreeingOf_172 ml_X11_180 ks_X11_ones ko_X11_ones (by decide) rfl (Nat.le_of_ble_eq_true rfl) (Nat.le_of_ble_eq_true rfl) (vX11_ones E  x4 σ _  h) (kI (fun r172 s172 h => ?_))
        refine V_iload_n (pc := 175) 2 dX11_agreeingOf_175 rfl ?_
        refine V_callS (pc := 176) (M' := mX11_ones) dX11_agreeingOf_176 ml_X11_180 ks_X11_ones ko_X11_ones (by decide) rfl (Nat.le_of_ble_eq_true rfl) (Nat.le_of_ble_eq_true rfl) (vX11_ones E  x3 s172 _  h) (kI (fun r176 s176 h => ?_))
        refine V_icmp_le (pc := 179) (tgt := 186) dX11_agreeingOf_179 (by decide) (fun hc => ?_) (fun hc => ?_)
        · replace h := h.1 hc
          refine V_loc [0, 1, 2, 3] rfl (vX11_agreeingOf_186 E post   _ ih x2 x3 x4 s176  h)
        · replace h := h.2 hc
          refine V_iconst (pc := 182) (v := 1) dX11_agreeingOf_182 (by decide) ?_
          refine V_goto (pc := 183) (tgt := 187) dX11_agreeingOf_183 (by decide) ?_
          refine V_loc [0, 1, 2, 3] rfl (vX11_agreeingOf_187 E post   _ ih x2 x3 x4 ((1 : Int32)) s176  h)
def wX11_agreeingOf  (x1 : Int32) (σ : Sto) (post : Int32 → Sto → Prop) : Prop := ∃ n4, wX11_agreeingOf_4 post  (fun (x1_1 : Int32) (x2_1 : Int32) (σ_1 : Sto) => ∃ n39, wX11_agreeingOf_39 post  (fun (x2_3 : Int32) (σ_3 : Sto) => ∃ n150, wX11_agreeingOf_150 post  (fun (x3_5 : Int32) (σ_5 : Sto) => post x3_5 σ_5) n150 x2_3 ((0 : Int32)) ((1 : Int32)) σ_3) n39 x1_1 x2_1 ((0 : Int32)) σ_1) n4 x1 ((0 : Int32)) ((0 : Int32)) σ
set_option maxRecDepth 100000 in
set_option maxHeartbeats 4000000 in
theorem vX11_agreeingOf (E : Ev)  (x1 : Int32) (σ : Sto) (post : Int32 → Sto → Prop)  (h : wX11_agreeingOf  x1 σ post) : V E 6 mX11_agreeingOf (pI post) 0 [(0, .ref 67), (1, .int x1)] [] σ := by
  unfold wX11_agreeingOf at h
  refine V_iconst (pc := 0) (v := 0) dX11_agreeingOf_0 (by decide) ?_
  refine V_istore_n (pc := 1) dX11_agreeingOf_1 (by decide) ?_
  refine V_iconst (pc := 2) (v := 0) dX11_agreeingOf_2 (by decide) ?_
  refine V_istore_n (pc := 3) dX11_agreeingOf_3 (by decide) ?_
  obtain ⟨n4, h⟩ := h
  refine V_loc [2, 3, 1, 0] rfl (vX11_agreeingOf_4 E post   _ (fun x1_1 x2_1 σ_1 h => ?_) n4 x1 ((0 : Int32)) ((0 : Int32)) σ  h)
  · refine V_iconst (pc := 37) (v := 0) dX11_agreeingOf_37 (by decide) ?_
    refine V_istore_n (pc := 38) dX11_agreeingOf_38 (by decide) ?_
    obtain ⟨n39, h⟩ := h
    refine V_loc [1, 2, 3, 0] rfl (vX11_agreeingOf_39 E post   _ (fun x2_3 σ_3 h => ?_) n39 x1_1 x2_1 ((0 : Int32)) σ_1  h)
    · refine V_iconst (pc := 145) (v := 0) dX11_agreeingOf_145 (by decide) ?_
      refine V_istore_n (pc := 146) dX11_agreeingOf_146 (by decide) ?_
      refine V_iconst (pc := 147) (v := 1) dX11_agreeingOf_147 (by decide) ?_
      refine V_istore (pc := 148) dX11_agreeingOf_148 (by decide) ?_
      obtain ⟨n150, h⟩ := h
      refine V_loc [2, 3, 1, 0] rfl (vX11_agreeingOf_150 E post   _ (fun x3_5 σ_5 h => ?_) n150 x2_3 ((0 : Int32)) ((1 : Int32)) σ_3  h)
      · refine V_iload_n (pc := 262) 0 dX11_agreeingOf_262 rfl ?_
        exact V_iret dX11_agreeingOf_263 rfl h
theorem dX11_agreeing_0 : decode cX11_agreeing 0 = .ok (.iload_n 1, 1) := by decide +kernel
theorem dX11_agreeing_1 : decode cX11_agreeing 1 = .ok (.invokestatic 119, 3) := by decide +kernel
theorem dX11_agreeing_4 : decode cX11_agreeing 4 = .ok (.ifCond .eq 11, 3) := by decide +kernel
theorem dX11_agreeing_7 : decode cX11_agreeing 7 = .ok (.aload_n 0, 1) := by decide +kernel
theorem dX11_agreeing_8 : decode cX11_agreeing 8 = .ok (.iload_n 1, 1) := by decide +kernel
theorem dX11_agreeing_9 : decode cX11_agreeing 9 = .ok (.invokevirtual 183, 3) := by decide +kernel
theorem dX11_agreeing_12 : decode cX11_agreeing 12 = .ok (.goto 5, 3) := by decide +kernel
theorem dX11_agreeing_15 : decode cX11_agreeing 15 = .ok (.bipush (-2), 2) := by decide +kernel
theorem dX11_agreeing_17 : decode cX11_agreeing 17 = .ok (.ireturn, 1) := by decide +kernel
def wX11_agreeing  (x1 : Int32) (σ : Sto) (post : Int32 → Sto → Prop) : Prop := wX11_isPiece  x1 σ (fun (r1 : Bool) (s1 : Sto) => ((r1 = false) → (post ((-2 : Int32)) s1)) ∧ ((r1 = true) → (wX11_agreeingOf  x1 s1 (fun (r9 : Int32) (s9 : Sto) => post r9 s9))))
set_option maxRecDepth 100000 in
set_option maxHeartbeats 4000000 in
theorem vX11_agreeing (E : Ev)  (x1 : Int32) (σ : Sto) (post : Int32 → Sto → Prop)  (h : wX11_agreeing  x1 σ post) : V E 7 mX11_agreeing (pI post) 0 [(0, .ref 67), (1, .int x1)] [] σ := by
  unfold wX11_agreeing at h
  refine V_iload_n (pc := 0) 1 dX11_agreeing_0 rfl ?_
  refine V_callS (pc := 1) (M' := mX11_isPiece) dX11_agreeing_1 ml_X11_119 ks_X11_isPiece ko_X11_isPiece (by decide) rfl (Nat.le_of_ble_eq_true rfl) (Nat.le_of_ble_eq_true rfl) (vX11_isPiece E  x1 σ _  h) (kB (fun r1 s1 h => ?_))
  refine V_ifz (pc := 4) (tgt := 15) dX11_agreeing_4 (by decide) (fun hc => ?_) (fun hc => ?_)
  · replace h := h.1 hc
    refine V_bipush (pc := 15) (v := -2) dX11_agreeing_15 (by decide) ?_
    exact V_iret dX11_agreeing_17 rfl h
  · replace h := h.2 hc
    refine V_aload_n (pc := 7) 0 dX11_agreeing_7 rfl ?_
    refine V_iload_n (pc := 8) 1 dX11_agreeing_8 rfl ?_
    refine V_callV (pc := 9) (M' := mX11_agreeingOf) dX11_agreeing_9 ml_X11_183 kv_X11_agreeingOf ko_X11_agreeingOf sh_67 (by decide) (by decide) rfl rfl (Nat.le_of_ble_eq_true rfl) (Nat.le_of_ble_eq_true rfl) (vX11_agreeingOf E  x1 s1 _  h) (kI (fun r9 s9 h => ?_))
    refine V_goto (pc := 12) (tgt := 17) dX11_agreeing_12 (by decide) ?_
    exact V_iret dX11_agreeing_17 rfl h
theorem dX11_commonOf_0 : decode cX11_commonOf 0 = .ok (.iconst 0, 1) := by decide +kernel
theorem dX11_commonOf_1 : decode cX11_commonOf 1 = .ok (.istore_n 2, 1) := by decide +kernel
theorem dX11_commonOf_2 : decode cX11_commonOf 2 = .ok (.aload_n 0, 1) := by decide +kernel
theorem dX11_commonOf_3 : decode cX11_commonOf 3 = .ok (.lconst 0, 1) := by decide +kernel
theorem dX11_commonOf_4 : decode cX11_commonOf 4 = .ok (.putfield 186, 3) := by decide +kernel
theorem dX11_commonOf_7 : decode cX11_commonOf 7 = .ok (.iconst 0, 1) := by decide +kernel
theorem dX11_commonOf_8 : decode cX11_commonOf 8 = .ok (.istore_n 3, 1) := by decide +kernel
theorem dX11_commonOf_9 : decode cX11_commonOf 9 = .ok (.iload_n 3, 1) := by decide +kernel
theorem dX11_commonOf_10 : decode cX11_commonOf 10 = .ok (.aload_n 0, 1) := by decide +kernel
theorem dX11_commonOf_11 : decode cX11_commonOf 11 = .ok (.getfield 101, 3) := by decide +kernel
theorem dX11_commonOf_14 : decode cX11_commonOf 14 = .ok (.if_icmp .ge 151, 3) := by decide +kernel
theorem dX11_commonOf_17 : decode cX11_commonOf 17 = .ok (.aload_n 0, 1) := by decide +kernel
theorem dX11_commonOf_18 : decode cX11_commonOf 18 = .ok (.iload_n 3, 1) := by decide +kernel
theorem dX11_commonOf_19 : decode cX11_commonOf 19 = .ok (.iload_n 1, 1) := by decide +kernel
theorem dX11_commonOf_20 : decode cX11_commonOf 20 = .ok (.invokevirtual 160, 3) := by decide +kernel
theorem dX11_commonOf_23 : decode cX11_commonOf 23 = .ok (.ifCond .eq 136, 3) := by decide +kernel
theorem dX11_commonOf_26 : decode cX11_commonOf 26 = .ok (.aload_n 0, 1) := by decide +kernel
theorem dX11_commonOf_27 : decode cX11_commonOf 27 = .ok (.iload_n 3, 1) := by decide +kernel
theorem dX11_commonOf_28 : decode cX11_commonOf 28 = .ok (.iload_n 1, 1) := by decide +kernel
theorem dX11_commonOf_29 : decode cX11_commonOf 29 = .ok (.invokevirtual 164, 3) := by decide +kernel
theorem dX11_commonOf_32 : decode cX11_commonOf 32 = .ok (.ldc2_w 139, 3) := by decide +kernel
theorem dX11_commonOf_35 : decode cX11_commonOf 35 = .ok (.aload_n 0, 1) := by decide +kernel
theorem dX11_commonOf_36 : decode cX11_commonOf 36 = .ok (.getfield 38, 3) := by decide +kernel
theorem dX11_commonOf_39 : decode cX11_commonOf 39 = .ok (.i2l, 1) := by decide +kernel
theorem dX11_commonOf_40 : decode cX11_commonOf 40 = .ok (.lmul, 1) := by decide +kernel
theorem dX11_commonOf_41 : decode cX11_commonOf 41 = .ok (.aload_n 0, 1) := by decide +kernel
theorem dX11_commonOf_42 : decode cX11_commonOf 42 = .ok (.getfield 13, 3) := by decide +kernel
theorem dX11_commonOf_45 : decode cX11_commonOf 45 = .ok (.iload_n 3, 1) := by decide +kernel
theorem dX11_commonOf_46 : decode cX11_commonOf 46 = .ok (.iaload, 1) := by decide +kernel
theorem dX11_commonOf_47 : decode cX11_commonOf 47 = .ok (.i2l, 1) := by decide +kernel
theorem dX11_commonOf_48 : decode cX11_commonOf 48 = .ok (.lmul, 1) := by decide +kernel
theorem dX11_commonOf_49 : decode cX11_commonOf 49 = .ok (.lsub, 1) := by decide +kernel
theorem dX11_commonOf_50 : decode cX11_commonOf 50 = .ok (.lstore 4, 2) := by decide +kernel
theorem dX11_commonOf_52 : decode cX11_commonOf 52 = .ok (.iconst 0, 1) := by decide +kernel
theorem dX11_commonOf_53 : decode cX11_commonOf 53 = .ok (.istore 6, 2) := by decide +kernel
theorem dX11_commonOf_55 : decode cX11_commonOf 55 = .ok (.iconst 0, 1) := by decide +kernel
theorem dX11_commonOf_56 : decode cX11_commonOf 56 = .ok (.istore 7, 2) := by decide +kernel
theorem dX11_commonOf_58 : decode cX11_commonOf 58 = .ok (.iload 7, 2) := by decide +kernel
theorem dX11_commonOf_60 : decode cX11_commonOf 60 = .ok (.aload_n 0, 1) := by decide +kernel
theorem dX11_commonOf_61 : decode cX11_commonOf 61 = .ok (.getfield 101, 3) := by decide +kernel
theorem dX11_commonOf_64 : decode cX11_commonOf 64 = .ok (.if_icmp .ge 64, 3) := by decide +kernel
theorem dX11_commonOf_67 : decode cX11_commonOf 67 = .ok (.iload 6, 2) := by decide +kernel
theorem dX11_commonOf_69 : decode cX11_commonOf 69 = .ok (.aload_n 0, 1) := by decide +kernel
theorem dX11_commonOf_70 : decode cX11_commonOf 70 = .ok (.iload 7, 2) := by decide +kernel
theorem dX11_commonOf_72 : decode cX11_commonOf 72 = .ok (.iload_n 1, 1) := by decide +kernel
theorem dX11_commonOf_73 : decode cX11_commonOf 73 = .ok (.invokevirtual 160, 3) := by decide +kernel
theorem dX11_commonOf_76 : decode cX11_commonOf 76 = .ok (.ifCond .eq 42, 3) := by decide +kernel
theorem dX11_commonOf_79 : decode cX11_commonOf 79 = .ok (.aload_n 0, 1) := by decide +kernel
theorem dX11_commonOf_80 : decode cX11_commonOf 80 = .ok (.iload 7, 2) := by decide +kernel
theorem dX11_commonOf_82 : decode cX11_commonOf 82 = .ok (.iload_n 1, 1) := by decide +kernel
theorem dX11_commonOf_83 : decode cX11_commonOf 83 = .ok (.invokevirtual 164, 3) := by decide +kernel
theorem dX11_commonOf_86 : decode cX11_commonOf 86 = .ok (.lload 4, 2) := by decide +kernel
theorem dX11_commonOf_88 : decode cX11_commonOf 88 = .ok (.lsub, 1) := by decide +kernel
theorem dX11_commonOf_89 : decode cX11_commonOf 89 = .ok (.invokestatic 94, 3) := by decide +kernel
theorem dX11_commonOf_92 : decode cX11_commonOf 92 = .ok (.ldc2_w 139, 3) := by decide +kernel
theorem dX11_commonOf_95 : decode cX11_commonOf 95 = .ok (.aload_n 0, 1) := by decide +kernel
theorem dX11_commonOf_96 : decode cX11_commonOf 96 = .ok (.getfield 38, 3) := by decide +kernel
theorem dX11_commonOf_99 : decode cX11_commonOf 99 = .ok (.i2l, 1) := by decide +kernel
theorem dX11_commonOf_100 : decode cX11_commonOf 100 = .ok (.lmul, 1) := by decide +kernel
theorem dX11_commonOf_101 : decode cX11_commonOf 101 = .ok (.aload_n 0, 1) := by decide +kernel
theorem dX11_commonOf_102 : decode cX11_commonOf 102 = .ok (.getfield 13, 3) := by decide +kernel
theorem dX11_commonOf_105 : decode cX11_commonOf 105 = .ok (.iload 7, 2) := by decide +kernel
theorem dX11_commonOf_107 : decode cX11_commonOf 107 = .ok (.iaload, 1) := by decide +kernel
theorem dX11_commonOf_108 : decode cX11_commonOf 108 = .ok (.i2l, 1) := by decide +kernel
theorem dX11_commonOf_109 : decode cX11_commonOf 109 = .ok (.lmul, 1) := by decide +kernel
theorem dX11_commonOf_110 : decode cX11_commonOf 110 = .ok (.lcmp, 1) := by decide +kernel
theorem dX11_commonOf_111 : decode cX11_commonOf 111 = .ok (.ifCond .gt 7, 3) := by decide +kernel
theorem dX11_commonOf_114 : decode cX11_commonOf 114 = .ok (.iconst 1, 1) := by decide +kernel
theorem dX11_commonOf_115 : decode cX11_commonOf 115 = .ok (.goto 4, 3) := by decide +kernel
theorem dX11_commonOf_118 : decode cX11_commonOf 118 = .ok (.iconst 0, 1) := by decide +kernel
theorem dX11_commonOf_119 : decode cX11_commonOf 119 = .ok (.iadd, 1) := by decide +kernel
theorem dX11_commonOf_120 : decode cX11_commonOf 120 = .ok (.istore 6, 2) := by decide +kernel
theorem dX11_commonOf_122 : decode cX11_commonOf 122 = .ok (.iinc 7 1, 3) := by decide +kernel
theorem dX11_commonOf_125 : decode cX11_commonOf 125 = .ok (.goto (-67), 3) := by decide +kernel
theorem dX11_commonOf_128 : decode cX11_commonOf 128 = .ok (.iload 6, 2) := by decide +kernel
theorem dX11_commonOf_130 : decode cX11_commonOf 130 = .ok (.iload_n 2, 1) := by decide +kernel
theorem dX11_commonOf_131 : decode cX11_commonOf 131 = .ok (.if_icmp .gt 19, 3) := by decide +kernel
theorem dX11_commonOf_134 : decode cX11_commonOf 134 = .ok (.iload 6, 2) := by decide +kernel
theorem dX11_commonOf_136 : decode cX11_commonOf 136 = .ok (.iload_n 2, 1) := by decide +kernel
theorem dX11_commonOf_137 : decode cX11_commonOf 137 = .ok (.if_icmp .ne 22, 3) := by decide +kernel
theorem dX11_commonOf_140 : decode cX11_commonOf 140 = .ok (.lload 4, 2) := by decide +kernel
theorem dX11_commonOf_142 : decode cX11_commonOf 142 = .ok (.aload_n 0, 1) := by decide +kernel
theorem dX11_commonOf_143 : decode cX11_commonOf 143 = .ok (.getfield 186, 3) := by decide +kernel
theorem dX11_commonOf_146 : decode cX11_commonOf 146 = .ok (.lcmp, 1) := by decide +kernel
theorem dX11_commonOf_147 : decode cX11_commonOf 147 = .ok (.ifCond .ge 12, 3) := by decide +kernel
theorem dX11_commonOf_150 : decode cX11_commonOf 150 = .ok (.iload 6, 2) := by decide +kernel
theorem dX11_commonOf_152 : decode cX11_commonOf 152 = .ok (.istore_n 2, 1) := by decide +kernel
theorem dX11_commonOf_153 : decode cX11_commonOf 153 = .ok (.aload_n 0, 1) := by decide +kernel
theorem dX11_commonOf_154 : decode cX11_commonOf 154 = .ok (.lload 4, 2) := by decide +kernel
theorem dX11_commonOf_156 : decode cX11_commonOf 156 = .ok (.putfield 186, 3) := by decide +kernel
theorem dX11_commonOf_159 : decode cX11_commonOf 159 = .ok (.iinc 3 1, 3) := by decide +kernel
theorem dX11_commonOf_162 : decode cX11_commonOf 162 = .ok (.goto (-153), 3) := by decide +kernel
theorem dX11_commonOf_165 : decode cX11_commonOf 165 = .ok (.iload_n 2, 1) := by decide +kernel
theorem dX11_commonOf_166 : decode cX11_commonOf 166 = .ok (.ireturn, 1) := by decide +kernel
def wX11_commonOf_119 (post : Int32 → Sto → Prop)  (K58 : Int32 → Int32 → Int32 → Int64 → Int32 → Int32 → Sto → Prop) (x1 : Int32) (x2 : Int32) (x3 : Int32) (x4 : Int64) (x7 : Int32) (y0 : Int32) (y1 : Int32) (σ : Sto) : Prop := K58 x1 x2 x3 x4 (y1 + y0) (x7 + (1 : Int32)) σ
set_option maxRecDepth 100000 in
set_option maxHeartbeats 4000000 in
theorem vX11_commonOf_119 (E : Ev) (post : Int32 → Sto → Prop)   (K58 : Int32 → Int32 → Int32 → Int64 → Int32 → Int32 → Sto → Prop) (HK58 : ∀ (x1 : Int32) (x2 : Int32) (x3 : Int32) (x4 : Int64) (x6 : Int32) (x7 : Int32) (σ : Sto), K58 x1 x2 x3 x4 x6 x7 σ → V E 6 mX11_commonOf (pI post) 58 [(0, .ref 67), (1, .int x1), (2, .int x2), (3, .int x3), (4, .long x4), (6, .int x6), (7, .int x7)] [] σ) (x1 : Int32) (x2 : Int32) (x3 : Int32) (x4 : Int64) (x7 : Int32) (y0 : Int32) (y1 : Int32) (σ : Sto) (h : wX11_commonOf_119 post  K58 x1 x2 x3 x4 x7 y0 y1 σ) : V E 6 mX11_commonOf (pI post) 119 [(0, .ref 67), (1, .int x1), (2, .int x2), (3, .int x3), (4, .long x4), (7, .int x7)] [.int y0, .int y1] σ := by
  unfold wX11_commonOf_119 at h
  refine V_iadd (pc := 119) dX11_commonOf_119 ?_
  refine V_istore (pc := 120) dX11_commonOf_120 (by decide) ?_
  refine V_iinc (pc := 122) 6 (v := 1) dX11_commonOf_122 rfl (by decide) (by decide) ?_
  refine V_goto (pc := 125) (tgt := 58) dX11_commonOf_125 (by decide) ?_
  exact V_loc [2, 3, 4, 5, 6, 1, 0] rfl (HK58 x1 x2 x3 x4 (y1 + y0) (x7 + (1 : Int32)) σ  h)
def wX11_commonOf_118 (post : Int32 → Sto → Prop)  (K58 : Int32 → Int32 → Int32 → Int64 → Int32 → Int32 → Sto → Prop) (x1 : Int32) (x2 : Int32) (x3 : Int32) (x4 : Int64) (x7 : Int32) (y0 : Int32) (σ : Sto) : Prop := wX11_commonOf_119 post  K58 x1 x2 x3 x4 x7 ((0 : Int32)) y0 σ
set_option maxRecDepth 100000 in
set_option maxHeartbeats 4000000 in
theorem vX11_commonOf_118 (E : Ev) (post : Int32 → Sto → Prop)   (K58 : Int32 → Int32 → Int32 → Int64 → Int32 → Int32 → Sto → Prop) (HK58 : ∀ (x1 : Int32) (x2 : Int32) (x3 : Int32) (x4 : Int64) (x6 : Int32) (x7 : Int32) (σ : Sto), K58 x1 x2 x3 x4 x6 x7 σ → V E 6 mX11_commonOf (pI post) 58 [(0, .ref 67), (1, .int x1), (2, .int x2), (3, .int x3), (4, .long x4), (6, .int x6), (7, .int x7)] [] σ) (x1 : Int32) (x2 : Int32) (x3 : Int32) (x4 : Int64) (x7 : Int32) (y0 : Int32) (σ : Sto) (h : wX11_commonOf_118 post  K58 x1 x2 x3 x4 x7 y0 σ) : V E 6 mX11_commonOf (pI post) 118 [(0, .ref 67), (1, .int x1), (2, .int x2), (3, .int x3), (4, .long x4), (7, .int x7)] [.int y0] σ := by
  unfold wX11_commonOf_118 at h
  refine V_iconst (pc := 118) (v := 0) dX11_commonOf_118 (by decide) ?_
  refine V_loc [0, 1, 2, 3, 4, 5] rfl (vX11_commonOf_119 E post   K58 HK58 x1 x2 x3 x4 x7 ((0 : Int32)) y0 σ  h)
def wX11_commonOf_58 (post : Int32 → Sto → Prop)  (K128 : Int32 → Int32 → Int32 → Int64 → Int32 → Sto → Prop) : Nat → Int32 → Int32 → Int32 → Int64 → Int32 → Int32 → Sto → Prop
  | 0, _, _, _, _, _, _, _ => False
  | n + 1, x1, x2, x3, x4, x6, x7, σ => (((σ.1 67 1) ≤ x7) → (K128 x1 x2 x3 x4 x6 σ)) ∧ ((¬ ((σ.1 67 1) ≤ x7)) → (wX11_takes  x7 x1 σ (fun (r73 : Bool) (s73 : Sto) => ((r73 = false) → (wX11_commonOf_118 post  (wX11_commonOf_58 post  K128 n) x1 x2 x3 x4 x7 x6 s73)) ∧ ((r73 = true) → (wX11_toldOf  x7 x1 s73 (fun (r83 : Int64) (s83 : Sto) => wX11_amount  (r83 - x4) s83 (fun (r89 : Int64) (s89 : Sto) => vp_in x7 14 ∧ (((((((1000 : Int64)) * ((s89.1 67 12).toInt64)) * ((s89.1 69 x7.toNatClampNeg).toInt64)) < r89) → (wX11_commonOf_118 post  (wX11_commonOf_58 post  K128 n) x1 x2 x3 x4 x7 x6 s89)) ∧ ((¬ (((((1000 : Int64)) * ((s89.1 67 12).toInt64)) * ((s89.1 69 x7.toNatClampNeg).toInt64)) < r89)) → (wX11_commonOf_119 post  (wX11_commonOf_58 post  K128 n) x1 x2 x3 x4 x7 ((1 : Int32)) x6 s89))))))))))
set_option maxRecDepth 100000 in
set_option maxHeartbeats 4000000 in
theorem vX11_commonOf_58 (E : Ev) (post : Int32 → Sto → Prop)   (K128 : Int32 → Int32 → Int32 → Int64 → Int32 → Sto → Prop) (HK128 : ∀ (x1 : Int32) (x2 : Int32) (x3 : Int32) (x4 : Int64) (x6 : Int32) (σ : Sto), K128 x1 x2 x3 x4 x6 σ → V E 6 mX11_commonOf (pI post) 128 [(0, .ref 67), (1, .int x1), (2, .int x2), (3, .int x3), (4, .long x4), (6, .int x6)] [] σ) : ∀ (n : Nat) (x1 : Int32) (x2 : Int32) (x3 : Int32) (x4 : Int64) (x6 : Int32) (x7 : Int32) (σ : Sto), wX11_commonOf_58 post  K128 n x1 x2 x3 x4 x6 x7 σ → V E 6 mX11_commonOf (pI post) 58 [(0, .ref 67), (1, .int x1), (2, .int x2), (3, .int x3), (4, .long x4), (6, .int x6), (7, .int x7)] [] σ := by
  intro n
  induction n with
  | zero => intro x1 x2 x3 x4 x6 x7 σ h; exact h.elim
  | succ n ih =>
    intro x1 x2 x3 x4 x6 x7 σ h
    unfold wX11_commonOf_58 at h
    refine V_iload (pc := 58) 6 dX11_commonOf_58 rfl ?_
    refine V_aload_n (pc := 60) 0 dX11_commonOf_60 rfl ?_
    refine V_getI (pc := 61) dX11_commonOf_61 fl_X11_101 sh_67 rfl ?_
    refine V_icmp_ge (pc := 64) (tgt := 128) dX11_commonOf_64 (by decide) (fun hc => ?_) (fun hc => ?_)
    · replace h := h.1 hc
      exact V_loc [0, 1, 2, 3, 4, 5] rfl (HK128 x1 x2 x3 x4 x6 σ  h)
    · replace h := h.2 hc
      refine V_iload (pc := 67) 5 dX11_commonOf_67 rfl ?_
      refine V_aload_n (pc := 69) 0 dX11_commonOf_69 rfl ?_
      refine V_iload (pc := 70) 6 dX11_commonOf_70 rfl ?_
      refine V_iload_n (pc := 72) 1 dX11_commonOf_72 rfl ?_
      refine V_callV (pc := 73) (M' := mX11_takes) dX11_commonOf_73 ml_X11_160 kv_X11_takes ko_X11_takes sh_67 (by decide) (by decide) rfl rfl (Nat.le_of_ble_eq_true rfl) (Nat.le_of_ble_eq_true rfl) (vX11_takes E  x7 x1 σ _  h) (kB (fun r73 s73 h => ?_))
      refine V_ifz (pc := 76) (tgt := 118) dX11_commonOf_76 (by decide) (fun hc => ?_) (fun hc => ?_)
      · replace h := h.1 hc
        refine V_loc [0, 1, 2, 3, 4, 6] rfl (vX11_commonOf_118 E post   _ ih x1 x2 x3 x4 x7 x6 s73  h)
      · replace h := h.2 hc
        refine V_aload_n (pc := 79) 0 dX11_commonOf_79 rfl ?_
        refine V_iload (pc := 80) 6 dX11_commonOf_80 rfl ?_
        refine V_iload_n (pc := 82) 1 dX11_commonOf_82 rfl ?_
        refine V_callV (pc := 83) (M' := mX11_toldOf) dX11_commonOf_83 ml_X11_164 kv_X11_toldOf ko_X11_toldOf sh_67 (by decide) (by decide) rfl rfl (Nat.le_of_ble_eq_true rfl) (Nat.le_of_ble_eq_true rfl) (vX11_toldOf E  x7 x1 s73 _  h) (kL (fun r83 s83 h => ?_))
        refine V_lload (pc := 86) 4 dX11_commonOf_86 rfl ?_
        refine V_lsub (pc := 88) dX11_commonOf_88 ?_
        refine V_callS (pc := 89) (M' := mX11_amount) dX11_commonOf_89 ml_X11_94 ks_X11_amount ko_X11_amount (by decide) rfl (Nat.le_of_ble_eq_true rfl) (Nat.le_of_ble_eq_true rfl) (vX11_amount E  (r83 - x4) s83 _  h) (kL (fun r89 s89 h => ?_))
        refine V_ldc2 (pc := 92) dX11_commonOf_92 cl_X11_139 ?_
        refine V_aload_n (pc := 95) 0 dX11_commonOf_95 rfl ?_
        refine V_getI (pc := 96) dX11_commonOf_96 fl_X11_38 sh_67 rfl ?_
        refine V_i2l (pc := 99) dX11_commonOf_99 ?_
        refine V_lmul (pc := 100) dX11_commonOf_100 ?_
        refine V_aload_n (pc := 101) 0 dX11_commonOf_101 rfl ?_
        refine V_getR (pc := 102) dX11_commonOf_102 fl_X11_13 sh_67 rfl ?_
        refine V_iload (pc := 105) 6 dX11_commonOf_105 rfl ?_
        obtain ⟨i107, h⟩ := h
        refine V_iald (pc := 107) dX11_commonOf_107 sh_69 i107 ?_
        refine V_i2l (pc := 108) dX11_commonOf_108 ?_
        refine V_lmul (pc := 109) dX11_commonOf_109 ?_
        refine V_lc_gt (pc := 110) (tgt := 118) dX11_commonOf_110 dX11_commonOf_111 (by decide) (fun hc => ?_) (fun hc => ?_)
        · replace h := h.1 hc
          refine V_loc [0, 1, 2, 3, 4, 6] rfl (vX11_commonOf_118 E post   _ ih x1 x2 x3 x4 x7 x6 s89  h)
        · replace h := h.2 hc
          refine V_iconst (pc := 114) (v := 1) dX11_commonOf_114 (by decide) ?_
          refine V_goto (pc := 115) (tgt := 119) dX11_commonOf_115 (by decide) ?_
          refine V_loc [0, 1, 2, 3, 4, 6] rfl (vX11_commonOf_119 E post   _ ih x1 x2 x3 x4 x7 ((1 : Int32)) x6 s89  h)
def wX11_commonOf_150 (post : Int32 → Sto → Prop)  (K9 : Int32 → Int32 → Int32 → Sto → Prop) (x1 : Int32) (x3 : Int32) (x4 : Int64) (x6 : Int32) (σ : Sto) : Prop := K9 x1 x6 (x3 + (1 : Int32)) (wL σ 67 21 x4)
set_option maxRecDepth 100000 in
set_option maxHeartbeats 4000000 in
theorem vX11_commonOf_150 (E : Ev) (post : Int32 → Sto → Prop)   (K9 : Int32 → Int32 → Int32 → Sto → Prop) (HK9 : ∀ (x1 : Int32) (x2 : Int32) (x3 : Int32) (σ : Sto), K9 x1 x2 x3 σ → V E 6 mX11_commonOf (pI post) 9 [(0, .ref 67), (1, .int x1), (2, .int x2), (3, .int x3)] [] σ) (x1 : Int32) (x3 : Int32) (x4 : Int64) (x6 : Int32) (σ : Sto) (h : wX11_commonOf_150 post  K9 x1 x3 x4 x6 σ) : V E 6 mX11_commonOf (pI post) 150 [(0, .ref 67), (1, .int x1), (3, .int x3), (4, .long x4), (6, .int x6)] [] σ := by
  unfold wX11_commonOf_150 at h
  refine V_iload (pc := 150) 4 dX11_commonOf_150 rfl ?_
  refine V_istore_n (pc := 152) dX11_commonOf_152 (by decide) ?_
  refine V_aload_n (pc := 153) 1 dX11_commonOf_153 rfl ?_
  refine V_lload (pc := 154) 4 dX11_commonOf_154 rfl ?_
  refine V_putL (pc := 156) dX11_commonOf_156 fl_X11_186 po_X11_21 sh_67 rfl rfl rfl ?_
  refine V_iinc (pc := 159) 3 (v := 1) dX11_commonOf_159 rfl (by decide) (by decide) ?_
  refine V_goto (pc := 162) (tgt := 9) dX11_commonOf_162 (by decide) ?_
  exact V_loc [2, 3, 1, 0] rfl (HK9 x1 x6 (x3 + (1 : Int32)) (wL σ 67 21 x4)  h)
def wX11_commonOf_9 (post : Int32 → Sto → Prop)  (K165 : Int32 → Sto → Prop) : Nat → Int32 → Int32 → Int32 → Sto → Prop
  | 0, _, _, _, _ => False
  | n + 1, x1, x2, x3, σ => (((σ.1 67 1) ≤ x3) → (K165 x2 σ)) ∧ ((¬ ((σ.1 67 1) ≤ x3)) → (wX11_takes  x3 x1 σ (fun (r20 : Bool) (s20 : Sto) => ((r20 = false) → (wX11_commonOf_9 post  K165 n x1 x2 (x3 + (1 : Int32)) s20)) ∧ ((r20 = true) → (wX11_toldOf  x3 x1 s20 (fun (r29 : Int64) (s29 : Sto) => vp_in x3 14 ∧ (∃ n58, wX11_commonOf_58 post  (fun (x1_1 : Int32) (x2_1 : Int32) (x3_1 : Int32) (x4_1 : Int64) (x6_1 : Int32) (σ_1 : Sto) => ((x2_1 < x6_1) → (wX11_commonOf_150 post  (wX11_commonOf_9 post  K165 n) x1_1 x3_1 x4_1 x6_1 σ_1)) ∧ ((¬ (x2_1 < x6_1)) → (((¬ x6_1 = x2_1) → (wX11_commonOf_9 post  K165 n x1_1 x2_1 (x3_1 + (1 : Int32)) σ_1)) ∧ ((x6_1 = x2_1) → ((((σ_1.2 67 21) ≤ x4_1) → (wX11_commonOf_9 post  K165 n x1_1 x2_1 (x3_1 + (1 : Int32)) σ_1)) ∧ ((¬ ((σ_1.2 67 21) ≤ x4_1)) → (wX11_commonOf_150 post  (wX11_commonOf_9 post  K165 n) x1_1 x3_1 x4_1 x6_1 σ_1))))))) n58 x1 x2 x3 (r29 - ((((1000 : Int64)) * ((s29.1 67 12).toInt64)) * ((s29.1 69 x3.toNatClampNeg).toInt64))) ((0 : Int32)) ((0 : Int32)) s29)))))))
set_option maxRecDepth 100000 in
set_option maxHeartbeats 4000000 in
theorem vX11_commonOf_9 (E : Ev) (post : Int32 → Sto → Prop)   (K165 : Int32 → Sto → Prop) (HK165 : ∀ (x2 : Int32) (σ : Sto), K165 x2 σ → V E 6 mX11_commonOf (pI post) 165 [(2, .int x2)] [] σ) : ∀ (n : Nat) (x1 : Int32) (x2 : Int32) (x3 : Int32) (σ : Sto), wX11_commonOf_9 post  K165 n x1 x2 x3 σ → V E 6 mX11_commonOf (pI post) 9 [(0, .ref 67), (1, .int x1), (2, .int x2), (3, .int x3)] [] σ := by
  intro n
  induction n with
  | zero => intro x1 x2 x3 σ h; exact h.elim
  | succ n ih =>
    intro x1 x2 x3 σ h
    unfold wX11_commonOf_9 at h
    refine V_iload_n (pc := 9) 3 dX11_commonOf_9 rfl ?_
    refine V_aload_n (pc := 10) 0 dX11_commonOf_10 rfl ?_
    refine V_getI (pc := 11) dX11_commonOf_11 fl_X11_101 sh_67 rfl ?_
    refine V_icmp_ge (pc := 14) (tgt := 165) dX11_commonOf_14 (by decide) (fun hc => ?_) (fun hc => ?_)
    · replace h := h.1 hc
      exact V_loc [2] rfl (HK165 x2 σ  h)
    · replace h := h.2 hc
      refine V_aload_n (pc := 17) 0 dX11_commonOf_17 rfl ?_
      refine V_iload_n (pc := 18) 3 dX11_commonOf_18 rfl ?_
      refine V_iload_n (pc := 19) 1 dX11_commonOf_19 rfl ?_
      refine V_callV (pc := 20) (M' := mX11_takes) dX11_commonOf_20 ml_X11_160 kv_X11_takes ko_X11_takes sh_67 (by decide) (by decide) rfl rfl (Nat.le_of_ble_eq_true rfl) (Nat.le_of_ble_eq_true rfl) (vX11_takes E  x3 x1 σ _  h) (kB (fun r20 s20 h => ?_))
      refine V_ifz (pc := 23) (tgt := 159) dX11_commonOf_23 (by decide) (fun hc => ?_) (fun hc => ?_)
      · replace h := h.1 hc
        refine V_iinc (pc := 159) 3 (v := 1) dX11_commonOf_159 rfl (by decide) (by decide) ?_
        refine V_goto (pc := 162) (tgt := 9) dX11_commonOf_162 (by decide) ?_
        exact V_loc [1, 2, 3, 0] rfl (ih x1 x2 (x3 + (1 : Int32)) s20  h)
      · replace h := h.2 hc
        refine V_aload_n (pc := 26) 0 dX11_commonOf_26 rfl ?_
        refine V_iload_n (pc := 27) 3 dX11_commonOf_27 rfl ?_
        refine V_iload_n (pc := 28) 1 dX11_commonOf_28 rfl ?_
        refine V_callV (pc := 29) (M' := mX11_toldOf) dX11_commonOf_29 ml_X11_164 kv_X11_toldOf ko_X11_toldOf sh_67 (by decide) (by decide) rfl rfl (Nat.le_of_ble_eq_true rfl) (Nat.le_of_ble_eq_true rfl) (vX11_toldOf E  x3 x1 s20 _  h) (kL (fun r29 s29 h => ?_))
        refine V_ldc2 (pc := 32) dX11_commonOf_32 cl_X11_139 ?_
        refine V_aload_n (pc := 35) 0 dX11_commonOf_35 rfl ?_
        refine V_getI (pc := 36) dX11_commonOf_36 fl_X11_38 sh_67 rfl ?_
        refine V_i2l (pc := 39) dX11_commonOf_39 ?_
        refine V_lmul (pc := 40) dX11_commonOf_40 ?_
        refine V_aload_n (pc := 41) 0 dX11_commonOf_41 rfl ?_
        refine V_getR (pc := 42) dX11_commonOf_42 fl_X11_13 sh_67 rfl ?_
        refine V_iload_n (pc := 45) 3 dX11_commonOf_45 rfl ?_
        obtain ⟨i46, h⟩ := h
        refine V_iald (pc := 46) dX11_commonOf_46 sh_69 i46 ?_
        refine V_i2l (pc := 47) dX11_commonOf_47 ?_
        refine V_lmul (pc := 48) dX11_commonOf_48 ?_
        refine V_lsub (pc := 49) dX11_commonOf_49 ?_
        refine V_lstore (pc := 50) dX11_commonOf_50 (by decide) ?_
        refine V_iconst (pc := 52) (v := 0) dX11_commonOf_52 (by decide) ?_
        refine V_istore (pc := 53) dX11_commonOf_53 (by decide) ?_
        refine V_iconst (pc := 55) (v := 0) dX11_commonOf_55 (by decide) ?_
        refine V_istore (pc := 56) dX11_commonOf_56 (by decide) ?_
        obtain ⟨n58, h⟩ := h
        refine V_loc [3, 4, 5, 6, 2, 1, 0] rfl (vX11_commonOf_58 E post   _ (fun x1_1 x2_1 x3_1 x4_1 x6_1 σ_1 h => ?_) n58 x1 x2 x3 (r29 - ((((1000 : Int64)) * ((s29.1 67 12).toInt64)) * ((s29.1 69 x3.toNatClampNeg).toInt64))) ((0 : Int32)) ((0 : Int32)) s29  h)
        · refine V_iload (pc := 128) 5 dX11_commonOf_128 rfl ?_
          refine V_iload_n (pc := 130) 2 dX11_commonOf_130 rfl ?_
          refine V_icmp_gt (pc := 131) (tgt := 150) dX11_commonOf_131 (by decide) (fun hc => ?_) (fun hc => ?_)
          · replace h := h.1 hc
            refine V_loc [0, 1, 3, 4, 5] rfl (vX11_commonOf_150 E post   _ ih x1_1 x3_1 x4_1 x6_1 σ_1  h)
          · replace h := h.2 hc
            refine V_iload (pc := 134) 5 dX11_commonOf_134 rfl ?_
            refine V_iload_n (pc := 136) 2 dX11_commonOf_136 rfl ?_
            refine V_icmp_ne (pc := 137) (tgt := 159) dX11_commonOf_137 (by decide) (fun hc => ?_) (fun hc => ?_)
            · replace h := h.1 hc
              refine V_iinc (pc := 159) 3 (v := 1) dX11_commonOf_159 rfl (by decide) (by decide) ?_
              refine V_goto (pc := 162) (tgt := 9) dX11_commonOf_162 (by decide) ?_
              exact V_loc [1, 2, 3, 0] rfl (ih x1_1 x2_1 (x3_1 + (1 : Int32)) σ_1  h)
            · replace h := h.2 hc
              refine V_lload (pc := 140) 4 dX11_commonOf_140 rfl ?_
              refine V_aload_n (pc := 142) 0 dX11_commonOf_142 rfl ?_
              refine V_getL (pc := 143) dX11_commonOf_143 fl_X11_186 sh_67 rfl ?_
              refine V_lc_ge (pc := 146) (tgt := 159) dX11_commonOf_146 dX11_commonOf_147 (by decide) (fun hc => ?_) (fun hc => ?_)
              · replace h := h.1 hc
                refine V_iinc (pc := 159) 3 (v := 1) dX11_commonOf_159 rfl (by decide) (by decide) ?_
                refine V_goto (pc := 162) (tgt := 9) dX11_commonOf_162 (by decide) ?_
                exact V_loc [1, 2, 3, 0] rfl (ih x1_1 x2_1 (x3_1 + (1 : Int32)) σ_1  h)
              · replace h := h.2 hc
                refine V_loc [0, 1, 3, 4, 5] rfl (vX11_commonOf_150 E post   _ ih x1_1 x3_1 x4_1 x6_1 σ_1  h)
def wX11_commonOf  (x1 : Int32) (σ : Sto) (post : Int32 → Sto → Prop) : Prop := ∃ n9, wX11_commonOf_9 post  (fun (x2_2 : Int32) (σ_2 : Sto) => post x2_2 σ_2) n9 x1 ((0 : Int32)) ((0 : Int32)) (wL σ 67 21 ((0 : Int64)))
set_option maxRecDepth 100000 in
set_option maxHeartbeats 4000000 in
theorem vX11_commonOf (E : Ev)  (x1 : Int32) (σ : Sto) (post : Int32 → Sto → Prop)  (h : wX11_commonOf  x1 σ post) : V E 6 mX11_commonOf (pI post) 0 [(0, .ref 67), (1, .int x1)] [] σ := by
  unfold wX11_commonOf at h
  refine V_iconst (pc := 0) (v := 0) dX11_commonOf_0 (by decide) ?_
  refine V_istore_n (pc := 1) dX11_commonOf_1 (by decide) ?_
  refine V_aload_n (pc := 2) 1 dX11_commonOf_2 rfl ?_
  refine V_lconst (pc := 3) (v := 0) dX11_commonOf_3 (by decide) ?_
  refine V_putL (pc := 4) dX11_commonOf_4 fl_X11_186 po_X11_21 sh_67 rfl rfl rfl ?_
  refine V_iconst (pc := 7) (v := 0) dX11_commonOf_7 (by decide) ?_
  refine V_istore_n (pc := 8) dX11_commonOf_8 (by decide) ?_
  obtain ⟨n9, h⟩ := h
  refine V_loc [2, 3, 1, 0] rfl (vX11_commonOf_9 E post   _ (fun x2_2 σ_2 h => ?_) n9 x1 ((0 : Int32)) ((0 : Int32)) (wL σ 67 21 ((0 : Int64)))  h)
  · refine V_iload_n (pc := 165) 0 dX11_commonOf_165 rfl ?_
    exact V_iret dX11_commonOf_166 rfl h
theorem dX11_common_0 : decode cX11_common 0 = .ok (.iload_n 1, 1) := by decide +kernel
theorem dX11_common_1 : decode cX11_common 1 = .ok (.invokestatic 119, 3) := by decide +kernel
theorem dX11_common_4 : decode cX11_common 4 = .ok (.ifCond .eq 12, 3) := by decide +kernel
theorem dX11_common_7 : decode cX11_common 7 = .ok (.iload_n 2, 1) := by decide +kernel
theorem dX11_common_8 : decode cX11_common 8 = .ok (.iconst 0, 1) := by decide +kernel
theorem dX11_common_9 : decode cX11_common 9 = .ok (.iconst 1, 1) := by decide +kernel
theorem dX11_common_10 : decode cX11_common 10 = .ok (.invokestatic 104, 3) := by decide +kernel
theorem dX11_common_13 : decode cX11_common 13 = .ok (.ifCond .ne 6, 3) := by decide +kernel
theorem dX11_common_16 : decode cX11_common 16 = .ok (.ldc 156, 2) := by decide +kernel
theorem dX11_common_18 : decode cX11_common 18 = .ok (.ireturn, 1) := by decide +kernel
theorem dX11_common_19 : decode cX11_common 19 = .ok (.aload_n 0, 1) := by decide +kernel
theorem dX11_common_20 : decode cX11_common 20 = .ok (.iload_n 1, 1) := by decide +kernel
theorem dX11_common_21 : decode cX11_common 21 = .ok (.invokevirtual 190, 3) := by decide +kernel
theorem dX11_common_24 : decode cX11_common 24 = .ok (.istore_n 3, 1) := by decide +kernel
theorem dX11_common_25 : decode cX11_common 25 = .ok (.iload_n 2, 1) := by decide +kernel
theorem dX11_common_26 : decode cX11_common 26 = .ok (.ifCond .ne 7, 3) := by decide +kernel
theorem dX11_common_29 : decode cX11_common 29 = .ok (.iload_n 3, 1) := by decide +kernel
theorem dX11_common_30 : decode cX11_common 30 = .ok (.goto 17, 3) := by decide +kernel
theorem dX11_common_33 : decode cX11_common 33 = .ok (.iload_n 3, 1) := by decide +kernel
theorem dX11_common_34 : decode cX11_common 34 = .ok (.ifCond .ne 8, 3) := by decide +kernel
theorem dX11_common_37 : decode cX11_common 37 = .ok (.ldc 168, 2) := by decide +kernel
theorem dX11_common_39 : decode cX11_common 39 = .ok (.goto 8, 3) := by decide +kernel
theorem dX11_common_42 : decode cX11_common 42 = .ok (.aload_n 0, 1) := by decide +kernel
theorem dX11_common_43 : decode cX11_common 43 = .ok (.getfield 186, 3) := by decide +kernel
theorem dX11_common_46 : decode cX11_common 46 = .ok (.l2i, 1) := by decide +kernel
theorem dX11_common_47 : decode cX11_common 47 = .ok (.ireturn, 1) := by decide +kernel
def wX11_common  (x1 : Int32) (x2 : Int32) (σ : Sto) (post : Int32 → Sto → Prop) : Prop := wX11_isPiece  x1 σ (fun (r1 : Bool) (s1 : Sto) => ((r1 = false) → (post ((-2147483648 : Int32)) s1)) ∧ ((r1 = true) → (wX11_in  x2 ((0 : Int32)) ((1 : Int32)) s1 (fun (r10 : Bool) (s10 : Sto) => ((r10 = true) → (wX11_commonOf  x1 s10 (fun (r21 : Int32) (s21 : Sto) => ((¬ x2 = 0) → (((¬ r21 = 0) → (post ((s21.2 67 21).toInt32) s21)) ∧ ((r21 = 0) → (post ((-2147483647 : Int32)) s21)))) ∧ ((x2 = 0) → (post r21 s21))))) ∧ ((r10 = false) → (post ((-2147483648 : Int32)) s10))))))
set_option maxRecDepth 100000 in
set_option maxHeartbeats 4000000 in
theorem vX11_common (E : Ev)  (x1 : Int32) (x2 : Int32) (σ : Sto) (post : Int32 → Sto → Prop)  (h : wX11_common  x1 x2 σ post) : V E 7 mX11_common (pI post) 0 [(0, .ref 67), (1, .int x1), (2, .int x2)] [] σ := by
  unfold wX11_common at h
  refine V_iload_n (pc := 0) 1 dX11_common_0 rfl ?_
  refine V_callS (pc := 1) (M' := mX11_isPiece) dX11_common_1 ml_X11_119 ks_X11_isPiece ko_X11_isPiece (by decide) rfl (Nat.le_of_ble_eq_true rfl) (Nat.le_of_ble_eq_true rfl) (vX11_isPiece E  x1 σ _  h) (kB (fun r1 s1 h => ?_))
  refine V_ifz (pc := 4) (tgt := 16) dX11_common_4 (by decide) (fun hc => ?_) (fun hc => ?_)
  · replace h := h.1 hc
    refine V_ldc (pc := 16) dX11_common_16 ci_X11_156 ?_
    exact V_iret dX11_common_18 rfl h
  · replace h := h.2 hc
    refine V_iload_n (pc := 7) 2 dX11_common_7 rfl ?_
    refine V_iconst (pc := 8) (v := 0) dX11_common_8 (by decide) ?_
    refine V_iconst (pc := 9) (v := 1) dX11_common_9 (by decide) ?_
    refine V_callS (pc := 10) (M' := mX11_in) dX11_common_10 ml_X11_104 ks_X11_in ko_X11_in (by decide) rfl (Nat.le_of_ble_eq_true rfl) (Nat.le_of_ble_eq_true rfl) (vX11_in E  x2 ((0 : Int32)) ((1 : Int32)) s1 _  h) (kB (fun r10 s10 h => ?_))
    refine V_ifnz (pc := 13) (tgt := 19) dX11_common_13 (by decide) (fun hc => ?_) (fun hc => ?_)
    · replace h := h.1 hc
      refine V_aload_n (pc := 19) 0 dX11_common_19 rfl ?_
      refine V_iload_n (pc := 20) 1 dX11_common_20 rfl ?_
      refine V_callV (pc := 21) (M' := mX11_commonOf) dX11_common_21 ml_X11_190 kv_X11_commonOf ko_X11_commonOf sh_67 (by decide) (by decide) rfl rfl (Nat.le_of_ble_eq_true rfl) (Nat.le_of_ble_eq_true rfl) (vX11_commonOf E  x1 s10 _  h) (kI (fun r21 s21 h => ?_))
      refine V_istore_n (pc := 24) dX11_common_24 (by decide) ?_
      refine V_iload_n (pc := 25) 3 dX11_common_25 rfl ?_
      refine V_if_ne (pc := 26) (tgt := 33) dX11_common_26 (by decide) (fun hc => ?_) (fun hc => ?_)
      · replace h := h.1 hc
        refine V_iload_n (pc := 33) 0 dX11_common_33 rfl ?_
        refine V_if_ne (pc := 34) (tgt := 42) dX11_common_34 (by decide) (fun hc => ?_) (fun hc => ?_)
        · replace h := h.1 hc
          refine V_aload_n (pc := 42) 1 dX11_common_42 rfl ?_
          refine V_getL (pc := 43) dX11_common_43 fl_X11_186 sh_67 rfl ?_
          refine V_l2i (pc := 46) dX11_common_46 ?_
          exact V_iret dX11_common_47 rfl h
        · replace h := h.2 hc
          refine V_ldc (pc := 37) dX11_common_37 ci_X11_168 ?_
          refine V_goto (pc := 39) (tgt := 47) dX11_common_39 (by decide) ?_
          exact V_iret dX11_common_47 rfl h
      · replace h := h.2 hc
        refine V_iload_n (pc := 29) 0 dX11_common_29 rfl ?_
        refine V_goto (pc := 30) (tgt := 47) dX11_common_30 (by decide) ?_
        exact V_iret dX11_common_47 rfl h
    · replace h := h.2 hc
      refine V_ldc (pc := 16) dX11_common_16 ci_X11_156 ?_
      exact V_iret dX11_common_18 rfl h
theorem dX11_together_0 : decode cX11_together 0 = .ok (.iconst 0, 1) := by decide +kernel
theorem dX11_together_1 : decode cX11_together 1 = .ok (.istore_n 3, 1) := by decide +kernel
theorem dX11_together_2 : decode cX11_together 2 = .ok (.iload_n 3, 1) := by decide +kernel
theorem dX11_together_3 : decode cX11_together 3 = .ok (.iconst 4, 1) := by decide +kernel
theorem dX11_together_4 : decode cX11_together 4 = .ok (.if_icmp .ge 29, 3) := by decide +kernel
theorem dX11_together_7 : decode cX11_together 7 = .ok (.aload_n 0, 1) := by decide +kernel
theorem dX11_together_8 : decode cX11_together 8 = .ok (.iload_n 1, 1) := by decide +kernel
theorem dX11_together_9 : decode cX11_together 9 = .ok (.iload_n 3, 1) := by decide +kernel
theorem dX11_together_10 : decode cX11_together 10 = .ok (.invokevirtual 160, 3) := by decide +kernel
theorem dX11_together_13 : decode cX11_together 13 = .ok (.ifCond .eq 14, 3) := by decide +kernel
theorem dX11_together_16 : decode cX11_together 16 = .ok (.aload_n 0, 1) := by decide +kernel
theorem dX11_together_17 : decode cX11_together 17 = .ok (.iload_n 2, 1) := by decide +kernel
theorem dX11_together_18 : decode cX11_together 18 = .ok (.iload_n 3, 1) := by decide +kernel
theorem dX11_together_19 : decode cX11_together 19 = .ok (.invokevirtual 160, 3) := by decide +kernel
theorem dX11_together_22 : decode cX11_together 22 = .ok (.ifCond .eq 5, 3) := by decide +kernel
theorem dX11_together_25 : decode cX11_together 25 = .ok (.iconst 1, 1) := by decide +kernel
theorem dX11_together_26 : decode cX11_together 26 = .ok (.ireturn, 1) := by decide +kernel
theorem dX11_together_27 : decode cX11_together 27 = .ok (.iinc 3 1, 3) := by decide +kernel
theorem dX11_together_30 : decode cX11_together 30 = .ok (.goto (-28), 3) := by decide +kernel
theorem dX11_together_33 : decode cX11_together 33 = .ok (.iconst 0, 1) := by decide +kernel
theorem dX11_together_34 : decode cX11_together 34 = .ok (.ireturn, 1) := by decide +kernel
def wX11_together_2 (post : Bool → Sto → Prop)  (K33 : Sto → Prop) (K25 : Sto → Prop) : Nat → Int32 → Int32 → Int32 → Sto → Prop
  | 0, _, _, _, _ => False
  | n + 1, x1, x2, x3, σ => ((((4 : Int32)) ≤ x3) → (K33  σ)) ∧ ((¬ (((4 : Int32)) ≤ x3)) → (wX11_takes  x1 x3 σ (fun (r10 : Bool) (s10 : Sto) => ((r10 = false) → (wX11_together_2 post  K33 K25 n x1 x2 (x3 + (1 : Int32)) s10)) ∧ ((r10 = true) → (wX11_takes  x2 x3 s10 (fun (r19 : Bool) (s19 : Sto) => ((r19 = false) → (wX11_together_2 post  K33 K25 n x1 x2 (x3 + (1 : Int32)) s19)) ∧ ((r19 = true) → (K25  s19))))))))
set_option maxRecDepth 100000 in
set_option maxHeartbeats 4000000 in
theorem vX11_together_2 (E : Ev) (post : Bool → Sto → Prop)   (K33 : Sto → Prop) (K25 : Sto → Prop) (HK33 : ∀  (σ : Sto), K33  σ → V E 6 mX11_together (pB post) 33 [] [] σ) (HK25 : ∀  (σ : Sto), K25  σ → V E 6 mX11_together (pB post) 25 [] [] σ) : ∀ (n : Nat) (x1 : Int32) (x2 : Int32) (x3 : Int32) (σ : Sto), wX11_together_2 post  K33 K25 n x1 x2 x3 σ → V E 6 mX11_together (pB post) 2 [(0, .ref 67), (1, .int x1), (2, .int x2), (3, .int x3)] [] σ := by
  intro n
  induction n with
  | zero => intro x1 x2 x3 σ h; exact h.elim
  | succ n ih =>
    intro x1 x2 x3 σ h
    unfold wX11_together_2 at h
    refine V_iload_n (pc := 2) 3 dX11_together_2 rfl ?_
    refine V_iconst (pc := 3) (v := 4) dX11_together_3 (by decide) ?_
    refine V_icmp_ge (pc := 4) (tgt := 33) dX11_together_4 (by decide) (fun hc => ?_) (fun hc => ?_)
    · replace h := h.1 hc
      exact V_loc [] rfl (HK33  σ  h)
    · replace h := h.2 hc
      refine V_aload_n (pc := 7) 0 dX11_together_7 rfl ?_
      refine V_iload_n (pc := 8) 1 dX11_together_8 rfl ?_
      refine V_iload_n (pc := 9) 3 dX11_together_9 rfl ?_
      refine V_callV (pc := 10) (M' := mX11_takes) dX11_together_10 ml_X11_160 kv_X11_takes ko_X11_takes sh_67 (by decide) (by decide) rfl rfl (Nat.le_of_ble_eq_true rfl) (Nat.le_of_ble_eq_true rfl) (vX11_takes E  x1 x3 σ _  h) (kB (fun r10 s10 h => ?_))
      refine V_ifz (pc := 13) (tgt := 27) dX11_together_13 (by decide) (fun hc => ?_) (fun hc => ?_)
      · replace h := h.1 hc
        refine V_iinc (pc := 27) 3 (v := 1) dX11_together_27 rfl (by decide) (by decide) ?_
        refine V_goto (pc := 30) (tgt := 2) dX11_together_30 (by decide) ?_
        exact V_loc [1, 2, 3, 0] rfl (ih x1 x2 (x3 + (1 : Int32)) s10  h)
      · replace h := h.2 hc
        refine V_aload_n (pc := 16) 0 dX11_together_16 rfl ?_
        refine V_iload_n (pc := 17) 2 dX11_together_17 rfl ?_
        refine V_iload_n (pc := 18) 3 dX11_together_18 rfl ?_
        refine V_callV (pc := 19) (M' := mX11_takes) dX11_together_19 ml_X11_160 kv_X11_takes ko_X11_takes sh_67 (by decide) (by decide) rfl rfl (Nat.le_of_ble_eq_true rfl) (Nat.le_of_ble_eq_true rfl) (vX11_takes E  x2 x3 s10 _  h) (kB (fun r19 s19 h => ?_))
        refine V_ifz (pc := 22) (tgt := 27) dX11_together_22 (by decide) (fun hc => ?_) (fun hc => ?_)
        · replace h := h.1 hc
          refine V_iinc (pc := 27) 3 (v := 1) dX11_together_27 rfl (by decide) (by decide) ?_
          refine V_goto (pc := 30) (tgt := 2) dX11_together_30 (by decide) ?_
          exact V_loc [1, 2, 3, 0] rfl (ih x1 x2 (x3 + (1 : Int32)) s19  h)
        · replace h := h.2 hc
          exact V_loc [] rfl (HK25  s19  h)
def wX11_together  (x1 : Int32) (x2 : Int32) (σ : Sto) (post : Bool → Sto → Prop) : Prop := ∃ n2, wX11_together_2 post  (fun  (σ_1 : Sto) => post false σ_1) (fun  (σ_2 : Sto) => post true σ_2) n2 x1 x2 ((0 : Int32)) σ
set_option maxRecDepth 100000 in
set_option maxHeartbeats 4000000 in
theorem vX11_together (E : Ev)  (x1 : Int32) (x2 : Int32) (σ : Sto) (post : Bool → Sto → Prop)  (h : wX11_together  x1 x2 σ post) : V E 6 mX11_together (pB post) 0 [(0, .ref 67), (1, .int x1), (2, .int x2)] [] σ := by
  unfold wX11_together at h
  refine V_iconst (pc := 0) (v := 0) dX11_together_0 (by decide) ?_
  refine V_istore_n (pc := 1) dX11_together_1 (by decide) ?_
  obtain ⟨n2, h⟩ := h
  refine V_loc [1, 2, 3, 0] rfl (vX11_together_2 E post   _ _ (fun σ_1 h => ?_) (fun σ_2 h => ?_) n2 x1 x2 ((0 : Int32)) σ  h)
  · refine V_iconst (pc := 33) (v := 0) dX11_together_33 (by decide) ?_
    exact V_zret false rfl dX11_together_34 rfl h
  · refine V_iconst (pc := 25) (v := 1) dX11_together_25 (by decide) ?_
    exact V_zret true rfl dX11_together_26 rfl h
theorem dX11_costs_0 : decode cX11_costs 0 = .ok (.iconst 0, 1) := by decide +kernel
theorem dX11_costs_1 : decode cX11_costs 1 = .ok (.istore_n 2, 1) := by decide +kernel
theorem dX11_costs_2 : decode cX11_costs 2 = .ok (.iload_n 2, 1) := by decide +kernel
theorem dX11_costs_3 : decode cX11_costs 3 = .ok (.aload_n 0, 1) := by decide +kernel
theorem dX11_costs_4 : decode cX11_costs 4 = .ok (.getfield 101, 3) := by decide +kernel
theorem dX11_costs_7 : decode cX11_costs 7 = .ok (.if_icmp .ge 36, 3) := by decide +kernel
theorem dX11_costs_10 : decode cX11_costs 10 = .ok (.aload_n 0, 1) := by decide +kernel
theorem dX11_costs_11 : decode cX11_costs 11 = .ok (.getfield 63, 3) := by decide +kernel
theorem dX11_costs_14 : decode cX11_costs 14 = .ok (.iload_n 2, 1) := by decide +kernel
theorem dX11_costs_15 : decode cX11_costs 15 = .ok (.iload_n 2, 1) := by decide +kernel
theorem dX11_costs_16 : decode cX11_costs 16 = .ok (.iload_n 1, 1) := by decide +kernel
theorem dX11_costs_17 : decode cX11_costs 17 = .ok (.if_icmp .ne 16, 3) := by decide +kernel
theorem dX11_costs_20 : decode cX11_costs 20 = .ok (.aload_n 0, 1) := by decide +kernel
theorem dX11_costs_21 : decode cX11_costs 21 = .ok (.getfield 13, 3) := by decide +kernel
theorem dX11_costs_24 : decode cX11_costs 24 = .ok (.iload_n 2, 1) := by decide +kernel
theorem dX11_costs_25 : decode cX11_costs 25 = .ok (.iaload, 1) := by decide +kernel
theorem dX11_costs_26 : decode cX11_costs 26 = .ok (.i2l, 1) := by decide +kernel
theorem dX11_costs_27 : decode cX11_costs 27 = .ok (.invokestatic 172, 3) := by decide +kernel
theorem dX11_costs_30 : decode cX11_costs 30 = .ok (.goto 6, 3) := by decide +kernel
theorem dX11_costs_33 : decode cX11_costs 33 = .ok (.ldc2_w 193, 3) := by decide +kernel
theorem dX11_costs_36 : decode cX11_costs 36 = .ok (.lastore, 1) := by decide +kernel
theorem dX11_costs_37 : decode cX11_costs 37 = .ok (.iinc 2 1, 3) := by decide +kernel
theorem dX11_costs_40 : decode cX11_costs 40 = .ok (.goto (-38), 3) := by decide +kernel
theorem dX11_costs_43 : decode cX11_costs 43 = .ok (.iconst 1, 1) := by decide +kernel
theorem dX11_costs_44 : decode cX11_costs 44 = .ok (.istore_n 2, 1) := by decide +kernel
theorem dX11_costs_45 : decode cX11_costs 45 = .ok (.iload_n 2, 1) := by decide +kernel
theorem dX11_costs_46 : decode cX11_costs 46 = .ok (.ifCond .eq 161, 3) := by decide +kernel
theorem dX11_costs_49 : decode cX11_costs 49 = .ok (.iconst 0, 1) := by decide +kernel
theorem dX11_costs_50 : decode cX11_costs 50 = .ok (.istore_n 2, 1) := by decide +kernel
theorem dX11_costs_51 : decode cX11_costs 51 = .ok (.iconst 0, 1) := by decide +kernel
theorem dX11_costs_52 : decode cX11_costs 52 = .ok (.istore_n 3, 1) := by decide +kernel
theorem dX11_costs_53 : decode cX11_costs 53 = .ok (.iload_n 3, 1) := by decide +kernel
theorem dX11_costs_54 : decode cX11_costs 54 = .ok (.aload_n 0, 1) := by decide +kernel
theorem dX11_costs_55 : decode cX11_costs 55 = .ok (.getfield 101, 3) := by decide +kernel
theorem dX11_costs_58 : decode cX11_costs 58 = .ok (.if_icmp .ge 146, 3) := by decide +kernel
theorem dX11_costs_61 : decode cX11_costs 61 = .ok (.iconst 0, 1) := by decide +kernel
theorem dX11_costs_62 : decode cX11_costs 62 = .ok (.istore 4, 2) := by decide +kernel
theorem dX11_costs_64 : decode cX11_costs 64 = .ok (.iload 4, 2) := by decide +kernel
theorem dX11_costs_66 : decode cX11_costs 66 = .ok (.aload_n 0, 1) := by decide +kernel
theorem dX11_costs_67 : decode cX11_costs 67 = .ok (.getfield 101, 3) := by decide +kernel
theorem dX11_costs_70 : decode cX11_costs 70 = .ok (.if_icmp .ge 128, 3) := by decide +kernel
theorem dX11_costs_73 : decode cX11_costs 73 = .ok (.iload_n 3, 1) := by decide +kernel
theorem dX11_costs_74 : decode cX11_costs 74 = .ok (.iload 4, 2) := by decide +kernel
theorem dX11_costs_76 : decode cX11_costs 76 = .ok (.if_icmp .eq 116, 3) := by decide +kernel
theorem dX11_costs_79 : decode cX11_costs 79 = .ok (.aload_n 0, 1) := by decide +kernel
theorem dX11_costs_80 : decode cX11_costs 80 = .ok (.getfield 63, 3) := by decide +kernel
theorem dX11_costs_83 : decode cX11_costs 83 = .ok (.iload 4, 2) := by decide +kernel
theorem dX11_costs_85 : decode cX11_costs 85 = .ok (.laload, 1) := by decide +kernel
theorem dX11_costs_86 : decode cX11_costs 86 = .ok (.ldc2_w 193, 3) := by decide +kernel
theorem dX11_costs_89 : decode cX11_costs 89 = .ok (.lcmp, 1) := by decide +kernel
theorem dX11_costs_90 : decode cX11_costs 90 = .ok (.ifCond .eq 102, 3) := by decide +kernel
theorem dX11_costs_93 : decode cX11_costs 93 = .ok (.aload_n 0, 1) := by decide +kernel
theorem dX11_costs_94 : decode cX11_costs 94 = .ok (.iload_n 3, 1) := by decide +kernel
theorem dX11_costs_95 : decode cX11_costs 95 = .ok (.iload 4, 2) := by decide +kernel
theorem dX11_costs_97 : decode cX11_costs 97 = .ok (.invokevirtual 195, 3) := by decide +kernel
theorem dX11_costs_100 : decode cX11_costs 100 = .ok (.ifCond .eq 92, 3) := by decide +kernel
theorem dX11_costs_103 : decode cX11_costs 103 = .ok (.aload_n 0, 1) := by decide +kernel
theorem dX11_costs_104 : decode cX11_costs 104 = .ok (.getfield 63, 3) := by decide +kernel
theorem dX11_costs_107 : decode cX11_costs 107 = .ok (.iload 4, 2) := by decide +kernel
theorem dX11_costs_109 : decode cX11_costs 109 = .ok (.laload, 1) := by decide +kernel
theorem dX11_costs_110 : decode cX11_costs 110 = .ok (.aload_n 0, 1) := by decide +kernel
theorem dX11_costs_111 : decode cX11_costs 111 = .ok (.getfield 13, 3) := by decide +kernel
theorem dX11_costs_114 : decode cX11_costs 114 = .ok (.iload_n 3, 1) := by decide +kernel
theorem dX11_costs_115 : decode cX11_costs 115 = .ok (.iaload, 1) := by decide +kernel
theorem dX11_costs_116 : decode cX11_costs 116 = .ok (.i2l, 1) := by decide +kernel
theorem dX11_costs_117 : decode cX11_costs 117 = .ok (.invokestatic 172, 3) := by decide +kernel
theorem dX11_costs_120 : decode cX11_costs 120 = .ok (.ladd, 1) := by decide +kernel
theorem dX11_costs_121 : decode cX11_costs 121 = .ok (.lstore 5, 2) := by decide +kernel
theorem dX11_costs_123 : decode cX11_costs 123 = .ok (.aload_n 0, 1) := by decide +kernel
theorem dX11_costs_124 : decode cX11_costs 124 = .ok (.getfield 63, 3) := by decide +kernel
theorem dX11_costs_127 : decode cX11_costs 127 = .ok (.iload_n 3, 1) := by decide +kernel
theorem dX11_costs_128 : decode cX11_costs 128 = .ok (.laload, 1) := by decide +kernel
theorem dX11_costs_129 : decode cX11_costs 129 = .ok (.ldc2_w 193, 3) := by decide +kernel
theorem dX11_costs_132 : decode cX11_costs 132 = .ok (.lcmp, 1) := by decide +kernel
theorem dX11_costs_133 : decode cX11_costs 133 = .ok (.ifCond .eq 15, 3) := by decide +kernel
theorem dX11_costs_136 : decode cX11_costs 136 = .ok (.lload 5, 2) := by decide +kernel
theorem dX11_costs_138 : decode cX11_costs 138 = .ok (.aload_n 0, 1) := by decide +kernel
theorem dX11_costs_139 : decode cX11_costs 139 = .ok (.getfield 63, 3) := by decide +kernel
theorem dX11_costs_142 : decode cX11_costs 142 = .ok (.iload_n 3, 1) := by decide +kernel
theorem dX11_costs_143 : decode cX11_costs 143 = .ok (.laload, 1) := by decide +kernel
theorem dX11_costs_144 : decode cX11_costs 144 = .ok (.lcmp, 1) := by decide +kernel
theorem dX11_costs_145 : decode cX11_costs 145 = .ok (.ifCond .ge 7, 3) := by decide +kernel
theorem dX11_costs_148 : decode cX11_costs 148 = .ok (.iconst 1, 1) := by decide +kernel
theorem dX11_costs_149 : decode cX11_costs 149 = .ok (.goto 4, 3) := by decide +kernel
theorem dX11_costs_152 : decode cX11_costs 152 = .ok (.iconst 0, 1) := by decide +kernel
theorem dX11_costs_153 : decode cX11_costs 153 = .ok (.istore 7, 2) := by decide +kernel
theorem dX11_costs_155 : decode cX11_costs 155 = .ok (.aload_n 0, 1) := by decide +kernel
theorem dX11_costs_156 : decode cX11_costs 156 = .ok (.getfield 63, 3) := by decide +kernel
theorem dX11_costs_159 : decode cX11_costs 159 = .ok (.iload_n 3, 1) := by decide +kernel
theorem dX11_costs_160 : decode cX11_costs 160 = .ok (.iload 7, 2) := by decide +kernel
theorem dX11_costs_162 : decode cX11_costs 162 = .ok (.ifCond .eq 8, 3) := by decide +kernel
theorem dX11_costs_165 : decode cX11_costs 165 = .ok (.lload 5, 2) := by decide +kernel
theorem dX11_costs_167 : decode cX11_costs 167 = .ok (.goto 9, 3) := by decide +kernel
theorem dX11_costs_170 : decode cX11_costs 170 = .ok (.aload_n 0, 1) := by decide +kernel
theorem dX11_costs_171 : decode cX11_costs 171 = .ok (.getfield 63, 3) := by decide +kernel
theorem dX11_costs_174 : decode cX11_costs 174 = .ok (.iload_n 3, 1) := by decide +kernel
theorem dX11_costs_175 : decode cX11_costs 175 = .ok (.laload, 1) := by decide +kernel
theorem dX11_costs_176 : decode cX11_costs 176 = .ok (.lastore, 1) := by decide +kernel
theorem dX11_costs_177 : decode cX11_costs 177 = .ok (.iload_n 2, 1) := by decide +kernel
theorem dX11_costs_178 : decode cX11_costs 178 = .ok (.ifCond .ne 8, 3) := by decide +kernel
theorem dX11_costs_181 : decode cX11_costs 181 = .ok (.iload 7, 2) := by decide +kernel
theorem dX11_costs_183 : decode cX11_costs 183 = .ok (.ifCond .eq 7, 3) := by decide +kernel
theorem dX11_costs_186 : decode cX11_costs 186 = .ok (.iconst 1, 1) := by decide +kernel
theorem dX11_costs_187 : decode cX11_costs 187 = .ok (.goto 4, 3) := by decide +kernel
theorem dX11_costs_190 : decode cX11_costs 190 = .ok (.iconst 0, 1) := by decide +kernel
theorem dX11_costs_191 : decode cX11_costs 191 = .ok (.istore_n 2, 1) := by decide +kernel
theorem dX11_costs_192 : decode cX11_costs 192 = .ok (.iinc 4 1, 3) := by decide +kernel
theorem dX11_costs_195 : decode cX11_costs 195 = .ok (.goto (-131), 3) := by decide +kernel
theorem dX11_costs_198 : decode cX11_costs 198 = .ok (.iinc 3 1, 3) := by decide +kernel
theorem dX11_costs_201 : decode cX11_costs 201 = .ok (.goto (-148), 3) := by decide +kernel
theorem dX11_costs_204 : decode cX11_costs 204 = .ok (.goto (-159), 3) := by decide +kernel
theorem dX11_costs_207 : decode cX11_costs 207 = .ok (.return_, 1) := by decide +kernel
def wX11_costs_36 (post : Sto → Prop)  (K2 : Int32 → Int32 → Sto → Prop) (x1 : Int32) (x2 : Int32) (y0 : Int64) (y1 : Int32) (σ : Sto) : Prop := vp_in y1 14 ∧ (K2 x1 (x2 + (1 : Int32)) (wL σ 83 y1.toNatClampNeg y0))
set_option maxRecDepth 100000 in
set_option maxHeartbeats 4000000 in
theorem vX11_costs_36 (E : Ev) (post : Sto → Prop)   (K2 : Int32 → Int32 → Sto → Prop) (HK2 : ∀ (x1 : Int32) (x2 : Int32) (σ : Sto), K2 x1 x2 σ → V E 7 mX11_costs (pV post) 2 [(0, .ref 67), (1, .int x1), (2, .int x2)] [] σ) (x1 : Int32) (x2 : Int32) (y0 : Int64) (y1 : Int32) (σ : Sto) (h : wX11_costs_36 post  K2 x1 x2 y0 y1 σ) : V E 7 mX11_costs (pV post) 36 [(0, .ref 67), (1, .int x1), (2, .int x2)] [.long y0, .int y1, .ref 83] σ := by
  unfold wX11_costs_36 at h
  obtain ⟨i36, h⟩ := h
  refine V_last (pc := 36) dX11_costs_36 sh_83 i36 ?_
  refine V_iinc (pc := 37) 2 (v := 1) dX11_costs_37 rfl (by decide) (by decide) ?_
  refine V_goto (pc := 40) (tgt := 2) dX11_costs_40 (by decide) ?_
  exact V_loc [1, 2, 0] rfl (HK2 x1 (x2 + (1 : Int32)) (wL σ 83 y1.toNatClampNeg y0)  h)
def wX11_costs_2 (post : Sto → Prop)  (K43 : Sto → Prop) : Nat → Int32 → Int32 → Sto → Prop
  | 0, _, _, _ => False
  | n + 1, x1, x2, σ => (((σ.1 67 1) ≤ x2) → (K43  σ)) ∧ ((¬ ((σ.1 67 1) ≤ x2)) → (((¬ x2 = x1) → (wX11_costs_36 post  (wX11_costs_2 post  K43 n) x1 x2 ((-1 : Int64)) x2 σ)) ∧ ((x2 = x1) → (vp_in x2 14 ∧ (wX11_square  ((σ.1 69 x2.toNatClampNeg).toInt64) σ (fun (r27 : Int64) (s27 : Sto) => wX11_costs_36 post  (wX11_costs_2 post  K43 n) x1 x2 r27 x2 s27))))))
set_option maxRecDepth 100000 in
set_option maxHeartbeats 4000000 in
theorem vX11_costs_2 (E : Ev) (post : Sto → Prop)   (K43 : Sto → Prop) (HK43 : ∀  (σ : Sto), K43  σ → V E 7 mX11_costs (pV post) 43 [(0, .ref 67)] [] σ) : ∀ (n : Nat) (x1 : Int32) (x2 : Int32) (σ : Sto), wX11_costs_2 post  K43 n x1 x2 σ → V E 7 mX11_costs (pV post) 2 [(0, .ref 67), (1, .int x1), (2, .int x2)] [] σ := by
  intro n
  induction n with
  | zero => intro x1 x2 σ h; exact h.elim
  | succ n ih =>
    intro x1 x2 σ h
    unfold wX11_costs_2 at h
    refine V_iload_n (pc := 2) 2 dX11_costs_2 rfl ?_
    refine V_aload_n (pc := 3) 0 dX11_costs_3 rfl ?_
    refine V_getI (pc := 4) dX11_costs_4 fl_X11_101 sh_67 rfl ?_
    refine V_icmp_ge (pc := 7) (tgt := 43) dX11_costs_7 (by decide) (fun hc => ?_) (fun hc => ?_)
    · replace h := h.1 hc
      exact V_loc [0] rfl (HK43  σ  h)
    · replace h := h.2 hc
      refine V_aload_n (pc := 10) 0 dX11_costs_10 rfl ?_
      refine V_getR (pc := 11) dX11_costs_11 fl_X11_63 sh_67 rfl ?_
      refine V_iload_n (pc := 14) 2 dX11_costs_14 rfl ?_
      refine V_iload_n (pc := 15) 2 dX11_costs_15 rfl ?_
      refine V_iload_n (pc := 16) 1 dX11_costs_16 rfl ?_
      refine V_icmp_ne (pc := 17) (tgt := 33) dX11_costs_17 (by decide) (fun hc => ?_) (fun hc => ?_)
      · replace h := h.1 hc
        refine V_ldc2 (pc := 33) dX11_costs_33 cl_X11_193 ?_
        refine V_loc [0, 1, 2] rfl (vX11_costs_36 E post   _ ih x1 x2 ((-1 : Int64)) x2 σ  h)
      · replace h := h.2 hc
        refine V_aload_n (pc := 20) 0 dX11_costs_20 rfl ?_
        refine V_getR (pc := 21) dX11_costs_21 fl_X11_13 sh_67 rfl ?_
        refine V_iload_n (pc := 24) 2 dX11_costs_24 rfl ?_
        obtain ⟨i25, h⟩ := h
        refine V_iald (pc := 25) dX11_costs_25 sh_69 i25 ?_
        refine V_i2l (pc := 26) dX11_costs_26 ?_
        refine V_callS (pc := 27) (M' := mX11_square) dX11_costs_27 ml_X11_172 ks_X11_square ko_X11_square (by decide) rfl (Nat.le_of_ble_eq_true rfl) (Nat.le_of_ble_eq_true rfl) (vX11_square E  ((σ.1 69 x2.toNatClampNeg).toInt64) σ _  h) (kL (fun r27 s27 h => ?_))
        refine V_goto (pc := 30) (tgt := 36) dX11_costs_30 (by decide) ?_
        refine V_loc [0, 1, 2] rfl (vX11_costs_36 E post   _ ih x1 x2 r27 x2 s27  h)
def wX11_costs_191 (post : Sto → Prop)  (K64 : Int32 → Int32 → Int32 → Sto → Prop) (x3 : Int32) (x4 : Int32) (y0 : Int32) (σ : Sto) : Prop := K64 y0 x3 (x4 + (1 : Int32)) σ
set_option maxRecDepth 100000 in
set_option maxHeartbeats 4000000 in
theorem vX11_costs_191 (E : Ev) (post : Sto → Prop)   (K64 : Int32 → Int32 → Int32 → Sto → Prop) (HK64 : ∀ (x2 : Int32) (x3 : Int32) (x4 : Int32) (σ : Sto), K64 x2 x3 x4 σ → V E 7 mX11_costs (pV post) 64 [(0, .ref 67), (2, .int x2), (3, .int x3), (4, .int x4)] [] σ) (x3 : Int32) (x4 : Int32) (y0 : Int32) (σ : Sto) (h : wX11_costs_191 post  K64 x3 x4 y0 σ) : V E 7 mX11_costs (pV post) 191 [(0, .ref 67), (3, .int x3), (4, .int x4)] [.int y0] σ := by
  unfold wX11_costs_191 at h
  refine V_istore_n (pc := 191) dX11_costs_191 (by decide) ?_
  refine V_iinc (pc := 192) 3 (v := 1) dX11_costs_192 rfl (by decide) (by decide) ?_
  refine V_goto (pc := 195) (tgt := 64) dX11_costs_195 (by decide) ?_
  exact V_loc [2, 1, 3, 0] rfl (HK64 y0 x3 (x4 + (1 : Int32)) σ  h)
def wX11_costs_186 (post : Sto → Prop)  (K64 : Int32 → Int32 → Int32 → Sto → Prop) (x3 : Int32) (x4 : Int32) (σ : Sto) : Prop := wX11_costs_191 post  K64 x3 x4 ((1 : Int32)) σ
set_option maxRecDepth 100000 in
set_option maxHeartbeats 4000000 in
theorem vX11_costs_186 (E : Ev) (post : Sto → Prop)   (K64 : Int32 → Int32 → Int32 → Sto → Prop) (HK64 : ∀ (x2 : Int32) (x3 : Int32) (x4 : Int32) (σ : Sto), K64 x2 x3 x4 σ → V E 7 mX11_costs (pV post) 64 [(0, .ref 67), (2, .int x2), (3, .int x3), (4, .int x4)] [] σ) (x3 : Int32) (x4 : Int32) (σ : Sto) (h : wX11_costs_186 post  K64 x3 x4 σ) : V E 7 mX11_costs (pV post) 186 [(0, .ref 67), (3, .int x3), (4, .int x4)] [] σ := by
  unfold wX11_costs_186 at h
  refine V_iconst (pc := 186) (v := 1) dX11_costs_186 (by decide) ?_
  refine V_goto (pc := 187) (tgt := 191) dX11_costs_187 (by decide) ?_
  refine V_loc [0, 1, 2] rfl (vX11_costs_191 E post   K64 HK64 x3 x4 ((1 : Int32)) σ  h)
def wX11_costs_176 (post : Sto → Prop)  (K64 : Int32 → Int32 → Int32 → Sto → Prop) (x2 : Int32) (x3 : Int32) (x4 : Int32) (x7 : Int32) (y0 : Int64) (y1 : Int32) (σ : Sto) : Prop := vp_in y1 14 ∧ (((¬ x2 = 0) → (wX11_costs_186 post  K64 x3 x4 (wL σ 83 y1.toNatClampNeg y0))) ∧ ((x2 = 0) → (((x7 = 0) → (wX11_costs_191 post  K64 x3 x4 ((0 : Int32)) (wL σ 83 y1.toNatClampNeg y0))) ∧ ((¬ (x7 = 0)) → (wX11_costs_186 post  K64 x3 x4 (wL σ 83 y1.toNatClampNeg y0))))))
set_option maxRecDepth 100000 in
set_option maxHeartbeats 4000000 in
theorem vX11_costs_176 (E : Ev) (post : Sto → Prop)   (K64 : Int32 → Int32 → Int32 → Sto → Prop) (HK64 : ∀ (x2 : Int32) (x3 : Int32) (x4 : Int32) (σ : Sto), K64 x2 x3 x4 σ → V E 7 mX11_costs (pV post) 64 [(0, .ref 67), (2, .int x2), (3, .int x3), (4, .int x4)] [] σ) (x2 : Int32) (x3 : Int32) (x4 : Int32) (x7 : Int32) (y0 : Int64) (y1 : Int32) (σ : Sto) (h : wX11_costs_176 post  K64 x2 x3 x4 x7 y0 y1 σ) : V E 7 mX11_costs (pV post) 176 [(0, .ref 67), (2, .int x2), (3, .int x3), (4, .int x4), (7, .int x7)] [.long y0, .int y1, .ref 83] σ := by
  unfold wX11_costs_176 at h
  obtain ⟨i176, h⟩ := h
  refine V_last (pc := 176) dX11_costs_176 sh_83 i176 ?_
  refine V_iload_n (pc := 177) 1 dX11_costs_177 rfl ?_
  refine V_if_ne (pc := 178) (tgt := 186) dX11_costs_178 (by decide) (fun hc => ?_) (fun hc => ?_)
  · replace h := h.1 hc
    refine V_loc [0, 2, 3] rfl (vX11_costs_186 E post   K64 HK64 x3 x4 (wL σ 83 y1.toNatClampNeg y0)  h)
  · replace h := h.2 hc
    refine V_iload (pc := 181) 4 dX11_costs_181 rfl ?_
    refine V_if_eq (pc := 183) (tgt := 190) dX11_costs_183 (by decide) (fun hc => ?_) (fun hc => ?_)
    · replace h := h.1 hc
      refine V_iconst (pc := 190) (v := 0) dX11_costs_190 (by decide) ?_
      refine V_loc [0, 2, 3] rfl (vX11_costs_191 E post   K64 HK64 x3 x4 ((0 : Int32)) (wL σ 83 y1.toNatClampNeg y0)  h)
    · replace h := h.2 hc
      refine V_loc [0, 2, 3] rfl (vX11_costs_186 E post   K64 HK64 x3 x4 (wL σ 83 y1.toNatClampNeg y0)  h)
def wX11_costs_153 (post : Sto → Prop)  (K64 : Int32 → Int32 → Int32 → Sto → Prop) (x2 : Int32) (x3 : Int32) (x4 : Int32) (x5 : Int64) (y0 : Int32) (σ : Sto) : Prop := ((y0 = 0) → (vp_in x3 14 ∧ (wX11_costs_176 post  K64 x2 x3 x4 y0 (σ.2 83 x3.toNatClampNeg) x3 σ))) ∧ ((¬ (y0 = 0)) → (wX11_costs_176 post  K64 x2 x3 x4 y0 x5 x3 σ))
set_option maxRecDepth 100000 in
set_option maxHeartbeats 4000000 in
theorem vX11_costs_153 (E : Ev) (post : Sto → Prop)   (K64 : Int32 → Int32 → Int32 → Sto → Prop) (HK64 : ∀ (x2 : Int32) (x3 : Int32) (x4 : Int32) (σ : Sto), K64 x2 x3 x4 σ → V E 7 mX11_costs (pV post) 64 [(0, .ref 67), (2, .int x2), (3, .int x3), (4, .int x4)] [] σ) (x2 : Int32) (x3 : Int32) (x4 : Int32) (x5 : Int64) (y0 : Int32) (σ : Sto) (h : wX11_costs_153 post  K64 x2 x3 x4 x5 y0 σ) : V E 7 mX11_costs (pV post) 153 [(0, .ref 67), (2, .int x2), (3, .int x3), (4, .int x4), (5, .long x5)] [.int y0] σ := by
  unfold wX11_costs_153 at h
  refine V_istore (pc := 153) dX11_costs_153 (by decide) ?_
  refine V_aload_n (pc := 155) 1 dX11_costs_155 rfl ?_
  refine V_getR (pc := 156) dX11_costs_156 fl_X11_63 sh_67 rfl ?_
  refine V_iload_n (pc := 159) 3 dX11_costs_159 rfl ?_
  refine V_iload (pc := 160) 0 dX11_costs_160 rfl ?_
  refine V_if_eq (pc := 162) (tgt := 170) dX11_costs_162 (by decide) (fun hc => ?_) (fun hc => ?_)
  · replace h := h.1 hc
    refine V_aload_n (pc := 170) 1 dX11_costs_170 rfl ?_
    refine V_getR (pc := 171) dX11_costs_171 fl_X11_63 sh_67 rfl ?_
    refine V_iload_n (pc := 174) 3 dX11_costs_174 rfl ?_
    obtain ⟨i175, h⟩ := h
    refine V_lald (pc := 175) dX11_costs_175 sh_83 i175 ?_
    refine V_loc [1, 2, 3, 4, 0] rfl (vX11_costs_176 E post   K64 HK64 x2 x3 x4 y0 (σ.2 83 x3.toNatClampNeg) x3 σ  h)
  · replace h := h.2 hc
    refine V_lload (pc := 165) 5 dX11_costs_165 rfl ?_
    refine V_goto (pc := 167) (tgt := 176) dX11_costs_167 (by decide) ?_
    refine V_loc [1, 2, 3, 4, 0] rfl (vX11_costs_176 E post   K64 HK64 x2 x3 x4 y0 x5 x3 σ  h)
def wX11_costs_148 (post : Sto → Prop)  (K64 : Int32 → Int32 → Int32 → Sto → Prop) (x2 : Int32) (x3 : Int32) (x4 : Int32) (x5 : Int64) (σ : Sto) : Prop := wX11_costs_153 post  K64 x2 x3 x4 x5 ((1 : Int32)) σ
set_option maxRecDepth 100000 in
set_option maxHeartbeats 4000000 in
theorem vX11_costs_148 (E : Ev) (post : Sto → Prop)   (K64 : Int32 → Int32 → Int32 → Sto → Prop) (HK64 : ∀ (x2 : Int32) (x3 : Int32) (x4 : Int32) (σ : Sto), K64 x2 x3 x4 σ → V E 7 mX11_costs (pV post) 64 [(0, .ref 67), (2, .int x2), (3, .int x3), (4, .int x4)] [] σ) (x2 : Int32) (x3 : Int32) (x4 : Int32) (x5 : Int64) (σ : Sto) (h : wX11_costs_148 post  K64 x2 x3 x4 x5 σ) : V E 7 mX11_costs (pV post) 148 [(0, .ref 67), (2, .int x2), (3, .int x3), (4, .int x4), (5, .long x5)] [] σ := by
  unfold wX11_costs_148 at h
  refine V_iconst (pc := 148) (v := 1) dX11_costs_148 (by decide) ?_
  refine V_goto (pc := 149) (tgt := 153) dX11_costs_149 (by decide) ?_
  refine V_loc [0, 1, 2, 3, 4] rfl (vX11_costs_153 E post   K64 HK64 x2 x3 x4 x5 ((1 : Int32)) σ  h)
def wX11_costs_64 (post : Sto → Prop)  (K198 : Int32 → Int32 → Sto → Prop) : Nat → Int32 → Int32 → Int32 → Sto → Prop
  | 0, _, _, _, _ => False
  | n + 1, x2, x3, x4, σ => (((σ.1 67 1) ≤ x4) → (K198 x2 x3 σ)) ∧ ((¬ ((σ.1 67 1) ≤ x4)) → (((x3 = x4) → (wX11_costs_64 post  K198 n x2 x3 (x4 + (1 : Int32)) σ)) ∧ ((¬ (x3 = x4)) → (vp_in x4 14 ∧ ((((σ.2 83 x4.toNatClampNeg) = ((-1 : Int64))) → (wX11_costs_64 post  K198 n x2 x3 (x4 + (1 : Int32)) σ)) ∧ ((¬ ((σ.2 83 x4.toNatClampNeg) = ((-1 : Int64)))) → (wX11_together  x3 x4 σ (fun (r97 : Bool) (s97 : Sto) => ((r97 = false) → (wX11_costs_64 post  K198 n x2 x3 (x4 + (1 : Int32)) s97)) ∧ ((r97 = true) → (vp_in x4 14 ∧ (vp_in x3 14 ∧ (wX11_square  ((s97.1 69 x3.toNatClampNeg).toInt64) s97 (fun (r117 : Int64) (s117 : Sto) => vp_in x3 14 ∧ ((((s117.2 83 x3.toNatClampNeg) = ((-1 : Int64))) → (wX11_costs_148 post  (wX11_costs_64 post  K198 n) x2 x3 x4 ((s97.2 83 x4.toNatClampNeg) + r117) s117)) ∧ ((¬ ((s117.2 83 x3.toNatClampNeg) = ((-1 : Int64)))) → (vp_in x3 14 ∧ ((((s117.2 83 x3.toNatClampNeg) ≤ ((s97.2 83 x4.toNatClampNeg) + r117)) → (wX11_costs_153 post  (wX11_costs_64 post  K198 n) x2 x3 x4 ((s97.2 83 x4.toNatClampNeg) + r117) ((0 : Int32)) s117)) ∧ ((¬ ((s117.2 83 x3.toNatClampNeg) ≤ ((s97.2 83 x4.toNatClampNeg) + r117))) → (wX11_costs_148 post  (wX11_costs_64 post  K198 n) x2 x3 x4 ((s97.2 83 x4.toNatClampNeg) + r117) s117)))))))))))))))))))
set_option maxRecDepth 100000 in
set_option maxHeartbeats 4000000 in
theorem vX11_costs_64 (E : Ev) (post : Sto → Prop)   (K198 : Int32 → Int32 → Sto → Prop) (HK198 : ∀ (x2 : Int32) (x3 : Int32) (σ : Sto), K198 x2 x3 σ → V E 7 mX11_costs (pV post) 198 [(0, .ref 67), (2, .int x2), (3, .int x3)] [] σ) : ∀ (n : Nat) (x2 : Int32) (x3 : Int32) (x4 : Int32) (σ : Sto), wX11_costs_64 post  K198 n x2 x3 x4 σ → V E 7 mX11_costs (pV post) 64 [(0, .ref 67), (2, .int x2), (3, .int x3), (4, .int x4)] [] σ := by
  intro n
  induction n with
  | zero => intro x2 x3 x4 σ h; exact h.elim
  | succ n ih =>
    intro x2 x3 x4 σ h
    unfold wX11_costs_64 at h
    refine V_iload (pc := 64) 3 dX11_costs_64 rfl ?_
    refine V_aload_n (pc := 66) 0 dX11_costs_66 rfl ?_
    refine V_getI (pc := 67) dX11_costs_67 fl_X11_101 sh_67 rfl ?_
    refine V_icmp_ge (pc := 70) (tgt := 198) dX11_costs_70 (by decide) (fun hc => ?_) (fun hc => ?_)
    · replace h := h.1 hc
      exact V_loc [0, 1, 2] rfl (HK198 x2 x3 σ  h)
    · replace h := h.2 hc
      refine V_iload_n (pc := 73) 2 dX11_costs_73 rfl ?_
      refine V_iload (pc := 74) 3 dX11_costs_74 rfl ?_
      refine V_icmp_eq (pc := 76) (tgt := 192) dX11_costs_76 (by decide) (fun hc => ?_) (fun hc => ?_)
      · replace h := h.1 hc
        refine V_iinc (pc := 192) 3 (v := 1) dX11_costs_192 rfl (by decide) (by decide) ?_
        refine V_goto (pc := 195) (tgt := 64) dX11_costs_195 (by decide) ?_
        exact V_loc [1, 2, 3, 0] rfl (ih x2 x3 (x4 + (1 : Int32)) σ  h)
      · replace h := h.2 hc
        refine V_aload_n (pc := 79) 0 dX11_costs_79 rfl ?_
        refine V_getR (pc := 80) dX11_costs_80 fl_X11_63 sh_67 rfl ?_
        refine V_iload (pc := 83) 3 dX11_costs_83 rfl ?_
        obtain ⟨i85, h⟩ := h
        refine V_lald (pc := 85) dX11_costs_85 sh_83 i85 ?_
        refine V_ldc2 (pc := 86) dX11_costs_86 cl_X11_193 ?_
        refine V_lc_eq (pc := 89) (tgt := 192) dX11_costs_89 dX11_costs_90 (by decide) (fun hc => ?_) (fun hc => ?_)
        · replace h := h.1 hc
          refine V_iinc (pc := 192) 3 (v := 1) dX11_costs_192 rfl (by decide) (by decide) ?_
          refine V_goto (pc := 195) (tgt := 64) dX11_costs_195 (by decide) ?_
          exact V_loc [1, 2, 3, 0] rfl (ih x2 x3 (x4 + (1 : Int32)) σ  h)
        · replace h := h.2 hc
          refine V_aload_n (pc := 93) 0 dX11_costs_93 rfl ?_
          refine V_iload_n (pc := 94) 2 dX11_costs_94 rfl ?_
          refine V_iload (pc := 95) 3 dX11_costs_95 rfl ?_
          refine V_callV (pc := 97) (M' := mX11_together) dX11_costs_97 ml_X11_195 kv_X11_together ko_X11_together sh_67 (by decide) (by decide) rfl rfl (Nat.le_of_ble_eq_true rfl) (Nat.le_of_ble_eq_true rfl) (vX11_together E  x3 x4 σ _  h) (kB (fun r97 s97 h => ?_))
          refine V_ifz (pc := 100) (tgt := 192) dX11_costs_100 (by decide) (fun hc => ?_) (fun hc => ?_)
          · replace h := h.1 hc
            refine V_iinc (pc := 192) 3 (v := 1) dX11_costs_192 rfl (by decide) (by decide) ?_
            refine V_goto (pc := 195) (tgt := 64) dX11_costs_195 (by decide) ?_
            exact V_loc [1, 2, 3, 0] rfl (ih x2 x3 (x4 + (1 : Int32)) s97  h)
          · replace h := h.2 hc
            refine V_aload_n (pc := 103) 0 dX11_costs_103 rfl ?_
            refine V_getR (pc := 104) dX11_costs_104 fl_X11_63 sh_67 rfl ?_
            refine V_iload (pc := 107) 3 dX11_costs_107 rfl ?_
            obtain ⟨i109, h⟩ := h
            refine V_lald (pc := 109) dX11_costs_109 sh_83 i109 ?_
            refine V_aload_n (pc := 110) 0 dX11_costs_110 rfl ?_
            refine V_getR (pc := 111) dX11_costs_111 fl_X11_13 sh_67 rfl ?_
            refine V_iload_n (pc := 114) 2 dX11_costs_114 rfl ?_
            obtain ⟨i115, h⟩ := h
            refine V_iald (pc := 115) dX11_costs_115 sh_69 i115 ?_
            refine V_i2l (pc := 116) dX11_costs_116 ?_
            refine V_callS (pc := 117) (M' := mX11_square) dX11_costs_117 ml_X11_172 ks_X11_square ko_X11_square (by decide) rfl (Nat.le_of_ble_eq_true rfl) (Nat.le_of_ble_eq_true rfl) (vX11_square E  ((s97.1 69 x3.toNatClampNeg).toInt64) s97 _  h) (kL (fun r117 s117 h => ?_))
            refine V_ladd (pc := 120) dX11_costs_120 ?_
            refine V_lstore (pc := 121) dX11_costs_121 (by decide) ?_
            refine V_aload_n (pc := 123) 1 dX11_costs_123 rfl ?_
            refine V_getR (pc := 124) dX11_costs_124 fl_X11_63 sh_67 rfl ?_
            refine V_iload_n (pc := 127) 3 dX11_costs_127 rfl ?_
            obtain ⟨i128, h⟩ := h
            refine V_lald (pc := 128) dX11_costs_128 sh_83 i128 ?_
            refine V_ldc2 (pc := 129) dX11_costs_129 cl_X11_193 ?_
            refine V_lc_eq (pc := 132) (tgt := 148) dX11_costs_132 dX11_costs_133 (by decide) (fun hc => ?_) (fun hc => ?_)
            · replace h := h.1 hc
              refine V_loc [1, 2, 3, 4, 0] rfl (vX11_costs_148 E post   _ ih x2 x3 x4 ((s97.2 83 x4.toNatClampNeg) + r117) s117  h)
            · replace h := h.2 hc
              refine V_lload (pc := 136) 0 dX11_costs_136 rfl ?_
              refine V_aload_n (pc := 138) 1 dX11_costs_138 rfl ?_
              refine V_getR (pc := 139) dX11_costs_139 fl_X11_63 sh_67 rfl ?_
              refine V_iload_n (pc := 142) 3 dX11_costs_142 rfl ?_
              obtain ⟨i143, h⟩ := h
              refine V_lald (pc := 143) dX11_costs_143 sh_83 i143 ?_
              refine V_lc_ge (pc := 144) (tgt := 152) dX11_costs_144 dX11_costs_145 (by decide) (fun hc => ?_) (fun hc => ?_)
              · replace h := h.1 hc
                refine V_iconst (pc := 152) (v := 0) dX11_costs_152 (by decide) ?_
                refine V_loc [1, 2, 3, 4, 0] rfl (vX11_costs_153 E post   _ ih x2 x3 x4 ((s97.2 83 x4.toNatClampNeg) + r117) ((0 : Int32)) s117  h)
              · replace h := h.2 hc
                refine V_loc [1, 2, 3, 4, 0] rfl (vX11_costs_148 E post   _ ih x2 x3 x4 ((s97.2 83 x4.toNatClampNeg) + r117) s117  h)
def wX11_costs_53 (post : Sto → Prop)  (K204 : Int32 → Sto → Prop) : Nat → Int32 → Int32 → Sto → Prop
  | 0, _, _, _ => False
  | n + 1, x2, x3, σ => (((σ.1 67 1) ≤ x3) → (K204 x2 σ)) ∧ ((¬ ((σ.1 67 1) ≤ x3)) → (∃ n64, wX11_costs_64 post  (fun (x2_2 : Int32) (x3_2 : Int32) (σ_2 : Sto) => wX11_costs_53 post  K204 n x2_2 (x3_2 + (1 : Int32)) σ_2) n64 x2 x3 ((0 : Int32)) σ))
set_option maxRecDepth 100000 in
set_option maxHeartbeats 4000000 in
theorem vX11_costs_53 (E : Ev) (post : Sto → Prop)   (K204 : Int32 → Sto → Prop) (HK204 : ∀ (x2 : Int32) (σ : Sto), K204 x2 σ → V E 7 mX11_costs (pV post) 204 [(0, .ref 67), (2, .int x2)] [] σ) : ∀ (n : Nat) (x2 : Int32) (x3 : Int32) (σ : Sto), wX11_costs_53 post  K204 n x2 x3 σ → V E 7 mX11_costs (pV post) 53 [(0, .ref 67), (2, .int x2), (3, .int x3)] [] σ := by
  intro n
  induction n with
  | zero => intro x2 x3 σ h; exact h.elim
  | succ n ih =>
    intro x2 x3 σ h
    unfold wX11_costs_53 at h
    refine V_iload_n (pc := 53) 2 dX11_costs_53 rfl ?_
    refine V_aload_n (pc := 54) 0 dX11_costs_54 rfl ?_
    refine V_getI (pc := 55) dX11_costs_55 fl_X11_101 sh_67 rfl ?_
    refine V_icmp_ge (pc := 58) (tgt := 204) dX11_costs_58 (by decide) (fun hc => ?_) (fun hc => ?_)
    · replace h := h.1 hc
      exact V_loc [0, 1] rfl (HK204 x2 σ  h)
    · replace h := h.2 hc
      refine V_iconst (pc := 61) (v := 0) dX11_costs_61 (by decide) ?_
      refine V_istore (pc := 62) dX11_costs_62 (by decide) ?_
      obtain ⟨n64, h⟩ := h
      refine V_loc [1, 2, 3, 0] rfl (vX11_costs_64 E post   _ (fun x2_2 x3_2 σ_2 h => ?_) n64 x2 x3 ((0 : Int32)) σ  h)
      · refine V_iinc (pc := 198) 2 (v := 1) dX11_costs_198 rfl (by decide) (by decide) ?_
        refine V_goto (pc := 201) (tgt := 53) dX11_costs_201 (by decide) ?_
        exact V_loc [1, 2, 0] rfl (ih x2_2 (x3_2 + (1 : Int32)) σ_2  h)
def wX11_costs_45 (post : Sto → Prop)  (K207 : Sto → Prop) : Nat → Int32 → Sto → Prop
  | 0, _, _ => False
  | n + 1, x2, σ => ((x2 = 0) → (K207  σ)) ∧ ((¬ (x2 = 0)) → (∃ n53, wX11_costs_53 post  (fun (x2_3 : Int32) (σ_3 : Sto) => wX11_costs_45 post  K207 n x2_3 σ_3) n53 ((0 : Int32)) ((0 : Int32)) σ))
set_option maxRecDepth 100000 in
set_option maxHeartbeats 4000000 in
theorem vX11_costs_45 (E : Ev) (post : Sto → Prop)   (K207 : Sto → Prop) (HK207 : ∀  (σ : Sto), K207  σ → V E 7 mX11_costs (pV post) 207 [] [] σ) : ∀ (n : Nat) (x2 : Int32) (σ : Sto), wX11_costs_45 post  K207 n x2 σ → V E 7 mX11_costs (pV post) 45 [(0, .ref 67), (2, .int x2)] [] σ := by
  intro n
  induction n with
  | zero => intro x2 σ h; exact h.elim
  | succ n ih =>
    intro x2 σ h
    unfold wX11_costs_45 at h
    refine V_iload_n (pc := 45) 1 dX11_costs_45 rfl ?_
    refine V_if_eq (pc := 46) (tgt := 207) dX11_costs_46 (by decide) (fun hc => ?_) (fun hc => ?_)
    · replace h := h.1 hc
      exact V_loc [] rfl (HK207  σ  h)
    · replace h := h.2 hc
      refine V_iconst (pc := 49) (v := 0) dX11_costs_49 (by decide) ?_
      refine V_istore_n (pc := 50) dX11_costs_50 (by decide) ?_
      refine V_iconst (pc := 51) (v := 0) dX11_costs_51 (by decide) ?_
      refine V_istore_n (pc := 52) dX11_costs_52 (by decide) ?_
      obtain ⟨n53, h⟩ := h
      refine V_loc [2, 1, 0] rfl (vX11_costs_53 E post   _ (fun x2_3 σ_3 h => ?_) n53 ((0 : Int32)) ((0 : Int32)) σ  h)
      · refine V_goto (pc := 204) (tgt := 45) dX11_costs_204 (by decide) ?_
        exact V_loc [0, 1] rfl (ih x2_3 σ_3  h)
def wX11_costs  (x1 : Int32) (σ : Sto) (post : Sto → Prop) : Prop := ∃ n2, wX11_costs_2 post  (fun  (σ_1 : Sto) => ∃ n45, wX11_costs_45 post  (fun  (σ_4 : Sto) => post σ_4) n45 ((1 : Int32)) σ_1) n2 x1 ((0 : Int32)) σ
set_option maxRecDepth 100000 in
set_option maxHeartbeats 4000000 in
theorem vX11_costs (E : Ev)  (x1 : Int32) (σ : Sto) (post : Sto → Prop)  (h : wX11_costs  x1 σ post) : V E 7 mX11_costs (pV post) 0 [(0, .ref 67), (1, .int x1)] [] σ := by
  unfold wX11_costs at h
  refine V_iconst (pc := 0) (v := 0) dX11_costs_0 (by decide) ?_
  refine V_istore_n (pc := 1) dX11_costs_1 (by decide) ?_
  obtain ⟨n2, h⟩ := h
  refine V_loc [1, 2, 0] rfl (vX11_costs_2 E post   _ (fun σ_1 h => ?_) n2 x1 ((0 : Int32)) σ  h)
  · refine V_iconst (pc := 43) (v := 1) dX11_costs_43 (by decide) ?_
    refine V_istore_n (pc := 44) dX11_costs_44 (by decide) ?_
    obtain ⟨n45, h⟩ := h
    refine V_loc [1, 0] rfl (vX11_costs_45 E post   _ (fun σ_4 h => ?_) n45 ((1 : Int32)) σ_1  h)
    · exact V_vret dX11_costs_207 rfl h
theorem dX11_areTwo_0 : decode cX11_areTwo 0 = .ok (.aload_n 0, 1) := by decide +kernel
theorem dX11_areTwo_1 : decode cX11_areTwo 1 = .ok (.iload_n 1, 1) := by decide +kernel
theorem dX11_areTwo_2 : decode cX11_areTwo 2 = .ok (.invokevirtual 115, 3) := by decide +kernel
theorem dX11_areTwo_5 : decode cX11_areTwo 5 = .ok (.ifCond .eq 20, 3) := by decide +kernel
theorem dX11_areTwo_8 : decode cX11_areTwo 8 = .ok (.aload_n 0, 1) := by decide +kernel
theorem dX11_areTwo_9 : decode cX11_areTwo 9 = .ok (.iload_n 2, 1) := by decide +kernel
theorem dX11_areTwo_10 : decode cX11_areTwo 10 = .ok (.invokevirtual 115, 3) := by decide +kernel
theorem dX11_areTwo_13 : decode cX11_areTwo 13 = .ok (.ifCond .eq 12, 3) := by decide +kernel
theorem dX11_areTwo_16 : decode cX11_areTwo 16 = .ok (.iload_n 1, 1) := by decide +kernel
theorem dX11_areTwo_17 : decode cX11_areTwo 17 = .ok (.iload_n 2, 1) := by decide +kernel
theorem dX11_areTwo_18 : decode cX11_areTwo 18 = .ok (.if_icmp .eq 7, 3) := by decide +kernel
theorem dX11_areTwo_21 : decode cX11_areTwo 21 = .ok (.iconst 1, 1) := by decide +kernel
theorem dX11_areTwo_22 : decode cX11_areTwo 22 = .ok (.goto 4, 3) := by decide +kernel
theorem dX11_areTwo_25 : decode cX11_areTwo 25 = .ok (.iconst 0, 1) := by decide +kernel
theorem dX11_areTwo_26 : decode cX11_areTwo 26 = .ok (.ireturn, 1) := by decide +kernel
def wX11_areTwo  (x1 : Int32) (x2 : Int32) (σ : Sto) (post : Bool → Sto → Prop) : Prop := wX11_isHouse  x1 σ (fun (r2 : Bool) (s2 : Sto) => ((r2 = false) → (post false s2)) ∧ ((r2 = true) → (wX11_isHouse  x2 s2 (fun (r10 : Bool) (s10 : Sto) => ((r10 = false) → (post false s10)) ∧ ((r10 = true) → (((x1 = x2) → (post false s10)) ∧ ((¬ (x1 = x2)) → (post true s10))))))))
set_option maxRecDepth 100000 in
set_option maxHeartbeats 4000000 in
theorem vX11_areTwo (E : Ev)  (x1 : Int32) (x2 : Int32) (σ : Sto) (post : Bool → Sto → Prop)  (h : wX11_areTwo  x1 x2 σ post) : V E 2 mX11_areTwo (pB post) 0 [(0, .ref 67), (1, .int x1), (2, .int x2)] [] σ := by
  unfold wX11_areTwo at h
  refine V_aload_n (pc := 0) 0 dX11_areTwo_0 rfl ?_
  refine V_iload_n (pc := 1) 1 dX11_areTwo_1 rfl ?_
  refine V_callV (pc := 2) (M' := mX11_isHouse) dX11_areTwo_2 ml_X11_115 kv_X11_isHouse ko_X11_isHouse sh_67 (by decide) (by decide) rfl rfl (Nat.le_of_ble_eq_true rfl) (Nat.le_of_ble_eq_true rfl) (vX11_isHouse E  x1 σ _  h) (kB (fun r2 s2 h => ?_))
  refine V_ifz (pc := 5) (tgt := 25) dX11_areTwo_5 (by decide) (fun hc => ?_) (fun hc => ?_)
  · replace h := h.1 hc
    refine V_iconst (pc := 25) (v := 0) dX11_areTwo_25 (by decide) ?_
    exact V_zret false rfl dX11_areTwo_26 rfl h
  · replace h := h.2 hc
    refine V_aload_n (pc := 8) 0 dX11_areTwo_8 rfl ?_
    refine V_iload_n (pc := 9) 2 dX11_areTwo_9 rfl ?_
    refine V_callV (pc := 10) (M' := mX11_isHouse) dX11_areTwo_10 ml_X11_115 kv_X11_isHouse ko_X11_isHouse sh_67 (by decide) (by decide) rfl rfl (Nat.le_of_ble_eq_true rfl) (Nat.le_of_ble_eq_true rfl) (vX11_isHouse E  x2 s2 _  h) (kB (fun r10 s10 h => ?_))
    refine V_ifz (pc := 13) (tgt := 25) dX11_areTwo_13 (by decide) (fun hc => ?_) (fun hc => ?_)
    · replace h := h.1 hc
      refine V_iconst (pc := 25) (v := 0) dX11_areTwo_25 (by decide) ?_
      exact V_zret false rfl dX11_areTwo_26 rfl h
    · replace h := h.2 hc
      refine V_iload_n (pc := 16) 1 dX11_areTwo_16 rfl ?_
      refine V_iload_n (pc := 17) 2 dX11_areTwo_17 rfl ?_
      refine V_icmp_eq (pc := 18) (tgt := 25) dX11_areTwo_18 (by decide) (fun hc => ?_) (fun hc => ?_)
      · replace h := h.1 hc
        refine V_iconst (pc := 25) (v := 0) dX11_areTwo_25 (by decide) ?_
        exact V_zret false rfl dX11_areTwo_26 rfl h
      · replace h := h.2 hc
        refine V_iconst (pc := 21) (v := 1) dX11_areTwo_21 (by decide) ?_
        refine V_goto (pc := 22) (tgt := 26) dX11_areTwo_22 (by decide) ?_
        exact V_zret true rfl dX11_areTwo_26 rfl h
theorem dX11_chain_0 : decode cX11_chain 0 = .ok (.aload_n 0, 1) := by decide +kernel
theorem dX11_chain_1 : decode cX11_chain 1 = .ok (.iload_n 1, 1) := by decide +kernel
theorem dX11_chain_2 : decode cX11_chain 2 = .ok (.iload_n 2, 1) := by decide +kernel
theorem dX11_chain_3 : decode cX11_chain 3 = .ok (.invokevirtual 198, 3) := by decide +kernel
theorem dX11_chain_6 : decode cX11_chain 6 = .ok (.ifCond .ne 6, 3) := by decide +kernel
theorem dX11_chain_9 : decode cX11_chain 9 = .ok (.bipush (-2), 2) := by decide +kernel
theorem dX11_chain_11 : decode cX11_chain 11 = .ok (.ireturn, 1) := by decide +kernel
theorem dX11_chain_12 : decode cX11_chain 12 = .ok (.aload_n 0, 1) := by decide +kernel
theorem dX11_chain_13 : decode cX11_chain 13 = .ok (.iload_n 2, 1) := by decide +kernel
theorem dX11_chain_14 : decode cX11_chain 14 = .ok (.invokevirtual 201, 3) := by decide +kernel
theorem dX11_chain_17 : decode cX11_chain 17 = .ok (.aload_n 0, 1) := by decide +kernel
theorem dX11_chain_18 : decode cX11_chain 18 = .ok (.getfield 63, 3) := by decide +kernel
theorem dX11_chain_21 : decode cX11_chain 21 = .ok (.iload_n 1, 1) := by decide +kernel
theorem dX11_chain_22 : decode cX11_chain 22 = .ok (.laload, 1) := by decide +kernel
theorem dX11_chain_23 : decode cX11_chain 23 = .ok (.l2i, 1) := by decide +kernel
theorem dX11_chain_24 : decode cX11_chain 24 = .ok (.ireturn, 1) := by decide +kernel
def wX11_chain  (x1 : Int32) (x2 : Int32) (σ : Sto) (post : Int32 → Sto → Prop) : Prop := wX11_areTwo  x1 x2 σ (fun (r3 : Bool) (s3 : Sto) => ((r3 = true) → (wX11_costs  x2 s3 (fun (s14 : Sto) => vp_in x1 14 ∧ (post ((s14.2 83 x1.toNatClampNeg).toInt32) s14)))) ∧ ((r3 = false) → (post ((-2 : Int32)) s3)))
set_option maxRecDepth 100000 in
set_option maxHeartbeats 4000000 in
theorem vX11_chain (E : Ev)  (x1 : Int32) (x2 : Int32) (σ : Sto) (post : Int32 → Sto → Prop)  (h : wX11_chain  x1 x2 σ post) : V E 8 mX11_chain (pI post) 0 [(0, .ref 67), (1, .int x1), (2, .int x2)] [] σ := by
  unfold wX11_chain at h
  refine V_aload_n (pc := 0) 0 dX11_chain_0 rfl ?_
  refine V_iload_n (pc := 1) 1 dX11_chain_1 rfl ?_
  refine V_iload_n (pc := 2) 2 dX11_chain_2 rfl ?_
  refine V_callV (pc := 3) (M' := mX11_areTwo) dX11_chain_3 ml_X11_198 kv_X11_areTwo ko_X11_areTwo sh_67 (by decide) (by decide) rfl rfl (Nat.le_of_ble_eq_true rfl) (Nat.le_of_ble_eq_true rfl) (vX11_areTwo E  x1 x2 σ _  h) (kB (fun r3 s3 h => ?_))
  refine V_ifnz (pc := 6) (tgt := 12) dX11_chain_6 (by decide) (fun hc => ?_) (fun hc => ?_)
  · replace h := h.1 hc
    refine V_aload_n (pc := 12) 0 dX11_chain_12 rfl ?_
    refine V_iload_n (pc := 13) 2 dX11_chain_13 rfl ?_
    refine V_callV (pc := 14) (M' := mX11_costs) dX11_chain_14 ml_X11_201 kv_X11_costs ko_X11_costs sh_67 (by decide) (by decide) rfl rfl (Nat.le_of_ble_eq_true rfl) (Nat.le_of_ble_eq_true rfl) (vX11_costs E  x2 s3 _  h) (kV (fun s14 h => ?_))
    refine V_aload_n (pc := 17) 0 dX11_chain_17 rfl ?_
    refine V_getR (pc := 18) dX11_chain_18 fl_X11_63 sh_67 rfl ?_
    refine V_iload_n (pc := 21) 1 dX11_chain_21 rfl ?_
    obtain ⟨i22, h⟩ := h
    refine V_lald (pc := 22) dX11_chain_22 sh_83 i22 ?_
    refine V_l2i (pc := 23) dX11_chain_23 ?_
    exact V_iret dX11_chain_24 rfl h
  · replace h := h.2 hc
    refine V_bipush (pc := 9) (v := -2) dX11_chain_9 (by decide) ?_
    exact V_iret dX11_chain_11 rfl h
theorem dX11_via_0 : decode cX11_via 0 = .ok (.aload_n 0, 1) := by decide +kernel
theorem dX11_via_1 : decode cX11_via 1 = .ok (.iload_n 1, 1) := by decide +kernel
theorem dX11_via_2 : decode cX11_via 2 = .ok (.iload_n 2, 1) := by decide +kernel
theorem dX11_via_3 : decode cX11_via 3 = .ok (.invokevirtual 198, 3) := by decide +kernel
theorem dX11_via_6 : decode cX11_via 6 = .ok (.ifCond .ne 6, 3) := by decide +kernel
theorem dX11_via_9 : decode cX11_via 9 = .ok (.bipush (-2), 2) := by decide +kernel
theorem dX11_via_11 : decode cX11_via 11 = .ok (.ireturn, 1) := by decide +kernel
theorem dX11_via_12 : decode cX11_via 12 = .ok (.aload_n 0, 1) := by decide +kernel
theorem dX11_via_13 : decode cX11_via 13 = .ok (.iload_n 2, 1) := by decide +kernel
theorem dX11_via_14 : decode cX11_via 14 = .ok (.invokevirtual 201, 3) := by decide +kernel
theorem dX11_via_17 : decode cX11_via 17 = .ok (.iconst 0, 1) := by decide +kernel
theorem dX11_via_18 : decode cX11_via 18 = .ok (.istore_n 3, 1) := by decide +kernel
theorem dX11_via_19 : decode cX11_via 19 = .ok (.iload_n 3, 1) := by decide +kernel
theorem dX11_via_20 : decode cX11_via 20 = .ok (.aload_n 0, 1) := by decide +kernel
theorem dX11_via_21 : decode cX11_via 21 = .ok (.getfield 101, 3) := by decide +kernel
theorem dX11_via_24 : decode cX11_via 24 = .ok (.if_icmp .ge 78, 3) := by decide +kernel
theorem dX11_via_27 : decode cX11_via 27 = .ok (.iload_n 3, 1) := by decide +kernel
theorem dX11_via_28 : decode cX11_via 28 = .ok (.iload_n 1, 1) := by decide +kernel
theorem dX11_via_29 : decode cX11_via 29 = .ok (.if_icmp .eq 67, 3) := by decide +kernel
theorem dX11_via_32 : decode cX11_via 32 = .ok (.aload_n 0, 1) := by decide +kernel
theorem dX11_via_33 : decode cX11_via 33 = .ok (.getfield 63, 3) := by decide +kernel
theorem dX11_via_36 : decode cX11_via 36 = .ok (.iload_n 1, 1) := by decide +kernel
theorem dX11_via_37 : decode cX11_via 37 = .ok (.laload, 1) := by decide +kernel
theorem dX11_via_38 : decode cX11_via 38 = .ok (.ldc2_w 193, 3) := by decide +kernel
theorem dX11_via_41 : decode cX11_via 41 = .ok (.lcmp, 1) := by decide +kernel
theorem dX11_via_42 : decode cX11_via 42 = .ok (.ifCond .eq 54, 3) := by decide +kernel
theorem dX11_via_45 : decode cX11_via 45 = .ok (.aload_n 0, 1) := by decide +kernel
theorem dX11_via_46 : decode cX11_via 46 = .ok (.getfield 63, 3) := by decide +kernel
theorem dX11_via_49 : decode cX11_via 49 = .ok (.iload_n 3, 1) := by decide +kernel
theorem dX11_via_50 : decode cX11_via 50 = .ok (.laload, 1) := by decide +kernel
theorem dX11_via_51 : decode cX11_via 51 = .ok (.ldc2_w 193, 3) := by decide +kernel
theorem dX11_via_54 : decode cX11_via 54 = .ok (.lcmp, 1) := by decide +kernel
theorem dX11_via_55 : decode cX11_via 55 = .ok (.ifCond .eq 41, 3) := by decide +kernel
theorem dX11_via_58 : decode cX11_via 58 = .ok (.aload_n 0, 1) := by decide +kernel
theorem dX11_via_59 : decode cX11_via 59 = .ok (.iload_n 1, 1) := by decide +kernel
theorem dX11_via_60 : decode cX11_via 60 = .ok (.iload_n 3, 1) := by decide +kernel
theorem dX11_via_61 : decode cX11_via 61 = .ok (.invokevirtual 195, 3) := by decide +kernel
theorem dX11_via_64 : decode cX11_via 64 = .ok (.ifCond .eq 32, 3) := by decide +kernel
theorem dX11_via_67 : decode cX11_via 67 = .ok (.aload_n 0, 1) := by decide +kernel
theorem dX11_via_68 : decode cX11_via 68 = .ok (.getfield 63, 3) := by decide +kernel
theorem dX11_via_71 : decode cX11_via 71 = .ok (.iload_n 3, 1) := by decide +kernel
theorem dX11_via_72 : decode cX11_via 72 = .ok (.laload, 1) := by decide +kernel
theorem dX11_via_73 : decode cX11_via 73 = .ok (.aload_n 0, 1) := by decide +kernel
theorem dX11_via_74 : decode cX11_via 74 = .ok (.getfield 13, 3) := by decide +kernel
theorem dX11_via_77 : decode cX11_via 77 = .ok (.iload_n 1, 1) := by decide +kernel
theorem dX11_via_78 : decode cX11_via 78 = .ok (.iaload, 1) := by decide +kernel
theorem dX11_via_79 : decode cX11_via 79 = .ok (.i2l, 1) := by decide +kernel
theorem dX11_via_80 : decode cX11_via 80 = .ok (.invokestatic 172, 3) := by decide +kernel
theorem dX11_via_83 : decode cX11_via 83 = .ok (.ladd, 1) := by decide +kernel
theorem dX11_via_84 : decode cX11_via 84 = .ok (.aload_n 0, 1) := by decide +kernel
theorem dX11_via_85 : decode cX11_via 85 = .ok (.getfield 63, 3) := by decide +kernel
theorem dX11_via_88 : decode cX11_via 88 = .ok (.iload_n 1, 1) := by decide +kernel
theorem dX11_via_89 : decode cX11_via 89 = .ok (.laload, 1) := by decide +kernel
theorem dX11_via_90 : decode cX11_via 90 = .ok (.lcmp, 1) := by decide +kernel
theorem dX11_via_91 : decode cX11_via 91 = .ok (.ifCond .ne 5, 3) := by decide +kernel
theorem dX11_via_94 : decode cX11_via 94 = .ok (.iload_n 3, 1) := by decide +kernel
theorem dX11_via_95 : decode cX11_via 95 = .ok (.ireturn, 1) := by decide +kernel
theorem dX11_via_96 : decode cX11_via 96 = .ok (.iinc 3 1, 3) := by decide +kernel
theorem dX11_via_99 : decode cX11_via 99 = .ok (.goto (-80), 3) := by decide +kernel
theorem dX11_via_102 : decode cX11_via 102 = .ok (.iconst (-1), 1) := by decide +kernel
theorem dX11_via_103 : decode cX11_via 103 = .ok (.ireturn, 1) := by decide +kernel
def wX11_via_19 (post : Int32 → Sto → Prop)  (K102 : Sto → Prop) (K94 : Int32 → Sto → Prop) : Nat → Int32 → Int32 → Sto → Prop
  | 0, _, _, _ => False
  | n + 1, x1, x3, σ => (((σ.1 67 1) ≤ x3) → (K102  σ)) ∧ ((¬ ((σ.1 67 1) ≤ x3)) → (((x3 = x1) → (wX11_via_19 post  K102 K94 n x1 (x3 + (1 : Int32)) σ)) ∧ ((¬ (x3 = x1)) → (vp_in x1 14 ∧ ((((σ.2 83 x1.toNatClampNeg) = ((-1 : Int64))) → (wX11_via_19 post  K102 K94 n x1 (x3 + (1 : Int32)) σ)) ∧ ((¬ ((σ.2 83 x1.toNatClampNeg) = ((-1 : Int64)))) → (vp_in x3 14 ∧ ((((σ.2 83 x3.toNatClampNeg) = ((-1 : Int64))) → (wX11_via_19 post  K102 K94 n x1 (x3 + (1 : Int32)) σ)) ∧ ((¬ ((σ.2 83 x3.toNatClampNeg) = ((-1 : Int64)))) → (wX11_together  x1 x3 σ (fun (r61 : Bool) (s61 : Sto) => ((r61 = false) → (wX11_via_19 post  K102 K94 n x1 (x3 + (1 : Int32)) s61)) ∧ ((r61 = true) → (vp_in x3 14 ∧ (vp_in x1 14 ∧ (wX11_square  ((s61.1 69 x1.toNatClampNeg).toInt64) s61 (fun (r80 : Int64) (s80 : Sto) => vp_in x1 14 ∧ (((¬ ((s61.2 83 x3.toNatClampNeg) + r80) = (s80.2 83 x1.toNatClampNeg)) → (wX11_via_19 post  K102 K94 n x1 (x3 + (1 : Int32)) s80)) ∧ ((((s61.2 83 x3.toNatClampNeg) + r80) = (s80.2 83 x1.toNatClampNeg)) → (K94 x3 s80)))))))))))))))))))
set_option maxRecDepth 100000 in
set_option maxHeartbeats 4000000 in
theorem vX11_via_19 (E : Ev) (post : Int32 → Sto → Prop)   (K102 : Sto → Prop) (K94 : Int32 → Sto → Prop) (HK102 : ∀  (σ : Sto), K102  σ → V E 8 mX11_via (pI post) 102 [] [] σ) (HK94 : ∀ (x3 : Int32) (σ : Sto), K94 x3 σ → V E 8 mX11_via (pI post) 94 [(3, .int x3)] [] σ) : ∀ (n : Nat) (x1 : Int32) (x3 : Int32) (σ : Sto), wX11_via_19 post  K102 K94 n x1 x3 σ → V E 8 mX11_via (pI post) 19 [(0, .ref 67), (1, .int x1), (3, .int x3)] [] σ := by
  intro n
  induction n with
  | zero => intro x1 x3 σ h; exact h.elim
  | succ n ih =>
    intro x1 x3 σ h
    unfold wX11_via_19 at h
    refine V_iload_n (pc := 19) 2 dX11_via_19 rfl ?_
    refine V_aload_n (pc := 20) 0 dX11_via_20 rfl ?_
    refine V_getI (pc := 21) dX11_via_21 fl_X11_101 sh_67 rfl ?_
    refine V_icmp_ge (pc := 24) (tgt := 102) dX11_via_24 (by decide) (fun hc => ?_) (fun hc => ?_)
    · replace h := h.1 hc
      exact V_loc [] rfl (HK102  σ  h)
    · replace h := h.2 hc
      refine V_iload_n (pc := 27) 2 dX11_via_27 rfl ?_
      refine V_iload_n (pc := 28) 1 dX11_via_28 rfl ?_
      refine V_icmp_eq (pc := 29) (tgt := 96) dX11_via_29 (by decide) (fun hc => ?_) (fun hc => ?_)
      · replace h := h.1 hc
        refine V_iinc (pc := 96) 2 (v := 1) dX11_via_96 rfl (by decide) (by decide) ?_
        refine V_goto (pc := 99) (tgt := 19) dX11_via_99 (by decide) ?_
        exact V_loc [1, 2, 0] rfl (ih x1 (x3 + (1 : Int32)) σ  h)
      · replace h := h.2 hc
        refine V_aload_n (pc := 32) 0 dX11_via_32 rfl ?_
        refine V_getR (pc := 33) dX11_via_33 fl_X11_63 sh_67 rfl ?_
        refine V_iload_n (pc := 36) 1 dX11_via_36 rfl ?_
        obtain ⟨i37, h⟩ := h
        refine V_lald (pc := 37) dX11_via_37 sh_83 i37 ?_
        refine V_ldc2 (pc := 38) dX11_via_38 cl_X11_193 ?_
        refine V_lc_eq (pc := 41) (tgt := 96) dX11_via_41 dX11_via_42 (by decide) (fun hc => ?_) (fun hc => ?_)
        · replace h := h.1 hc
          refine V_iinc (pc := 96) 2 (v := 1) dX11_via_96 rfl (by decide) (by decide) ?_
          refine V_goto (pc := 99) (tgt := 19) dX11_via_99 (by decide) ?_
          exact V_loc [1, 2, 0] rfl (ih x1 (x3 + (1 : Int32)) σ  h)
        · replace h := h.2 hc
          refine V_aload_n (pc := 45) 0 dX11_via_45 rfl ?_
          refine V_getR (pc := 46) dX11_via_46 fl_X11_63 sh_67 rfl ?_
          refine V_iload_n (pc := 49) 2 dX11_via_49 rfl ?_
          obtain ⟨i50, h⟩ := h
          refine V_lald (pc := 50) dX11_via_50 sh_83 i50 ?_
          refine V_ldc2 (pc := 51) dX11_via_51 cl_X11_193 ?_
          refine V_lc_eq (pc := 54) (tgt := 96) dX11_via_54 dX11_via_55 (by decide) (fun hc => ?_) (fun hc => ?_)
          · replace h := h.1 hc
            refine V_iinc (pc := 96) 2 (v := 1) dX11_via_96 rfl (by decide) (by decide) ?_
            refine V_goto (pc := 99) (tgt := 19) dX11_via_99 (by decide) ?_
            exact V_loc [1, 2, 0] rfl (ih x1 (x3 + (1 : Int32)) σ  h)
          · replace h := h.2 hc
            refine V_aload_n (pc := 58) 0 dX11_via_58 rfl ?_
            refine V_iload_n (pc := 59) 1 dX11_via_59 rfl ?_
            refine V_iload_n (pc := 60) 2 dX11_via_60 rfl ?_
            refine V_callV (pc := 61) (M' := mX11_together) dX11_via_61 ml_X11_195 kv_X11_together ko_X11_together sh_67 (by decide) (by decide) rfl rfl (Nat.le_of_ble_eq_true rfl) (Nat.le_of_ble_eq_true rfl) (vX11_together E  x1 x3 σ _  h) (kB (fun r61 s61 h => ?_))
            refine V_ifz (pc := 64) (tgt := 96) dX11_via_64 (by decide) (fun hc => ?_) (fun hc => ?_)
            · replace h := h.1 hc
              refine V_iinc (pc := 96) 2 (v := 1) dX11_via_96 rfl (by decide) (by decide) ?_
              refine V_goto (pc := 99) (tgt := 19) dX11_via_99 (by decide) ?_
              exact V_loc [1, 2, 0] rfl (ih x1 (x3 + (1 : Int32)) s61  h)
            · replace h := h.2 hc
              refine V_aload_n (pc := 67) 0 dX11_via_67 rfl ?_
              refine V_getR (pc := 68) dX11_via_68 fl_X11_63 sh_67 rfl ?_
              refine V_iload_n (pc := 71) 2 dX11_via_71 rfl ?_
              obtain ⟨i72, h⟩ := h
              refine V_lald (pc := 72) dX11_via_72 sh_83 i72 ?_
              refine V_aload_n (pc := 73) 0 dX11_via_73 rfl ?_
              refine V_getR (pc := 74) dX11_via_74 fl_X11_13 sh_67 rfl ?_
              refine V_iload_n (pc := 77) 1 dX11_via_77 rfl ?_
              obtain ⟨i78, h⟩ := h
              refine V_iald (pc := 78) dX11_via_78 sh_69 i78 ?_
              refine V_i2l (pc := 79) dX11_via_79 ?_
              refine V_callS (pc := 80) (M' := mX11_square) dX11_via_80 ml_X11_172 ks_X11_square ko_X11_square (by decide) rfl (Nat.le_of_ble_eq_true rfl) (Nat.le_of_ble_eq_true rfl) (vX11_square E  ((s61.1 69 x1.toNatClampNeg).toInt64) s61 _  h) (kL (fun r80 s80 h => ?_))
              refine V_ladd (pc := 83) dX11_via_83 ?_
              refine V_aload_n (pc := 84) 0 dX11_via_84 rfl ?_
              refine V_getR (pc := 85) dX11_via_85 fl_X11_63 sh_67 rfl ?_
              refine V_iload_n (pc := 88) 1 dX11_via_88 rfl ?_
              obtain ⟨i89, h⟩ := h
              refine V_lald (pc := 89) dX11_via_89 sh_83 i89 ?_
              refine V_lc_ne (pc := 90) (tgt := 96) dX11_via_90 dX11_via_91 (by decide) (fun hc => ?_) (fun hc => ?_)
              · replace h := h.1 hc
                refine V_iinc (pc := 96) 2 (v := 1) dX11_via_96 rfl (by decide) (by decide) ?_
                refine V_goto (pc := 99) (tgt := 19) dX11_via_99 (by decide) ?_
                exact V_loc [1, 2, 0] rfl (ih x1 (x3 + (1 : Int32)) s80  h)
              · replace h := h.2 hc
                exact V_loc [2] rfl (HK94 x3 s80  h)
def wX11_via  (x1 : Int32) (x2 : Int32) (σ : Sto) (post : Int32 → Sto → Prop) : Prop := wX11_areTwo  x1 x2 σ (fun (r3 : Bool) (s3 : Sto) => ((r3 = true) → (wX11_costs  x2 s3 (fun (s14 : Sto) => ∃ n19, wX11_via_19 post  (fun  (σ_1 : Sto) => post ((-1 : Int32)) σ_1) (fun (x3_2 : Int32) (σ_2 : Sto) => post x3_2 σ_2) n19 x1 ((0 : Int32)) s14))) ∧ ((r3 = false) → (post ((-2 : Int32)) s3)))
set_option maxRecDepth 100000 in
set_option maxHeartbeats 4000000 in
theorem vX11_via (E : Ev)  (x1 : Int32) (x2 : Int32) (σ : Sto) (post : Int32 → Sto → Prop)  (h : wX11_via  x1 x2 σ post) : V E 8 mX11_via (pI post) 0 [(0, .ref 67), (1, .int x1), (2, .int x2)] [] σ := by
  unfold wX11_via at h
  refine V_aload_n (pc := 0) 0 dX11_via_0 rfl ?_
  refine V_iload_n (pc := 1) 1 dX11_via_1 rfl ?_
  refine V_iload_n (pc := 2) 2 dX11_via_2 rfl ?_
  refine V_callV (pc := 3) (M' := mX11_areTwo) dX11_via_3 ml_X11_198 kv_X11_areTwo ko_X11_areTwo sh_67 (by decide) (by decide) rfl rfl (Nat.le_of_ble_eq_true rfl) (Nat.le_of_ble_eq_true rfl) (vX11_areTwo E  x1 x2 σ _  h) (kB (fun r3 s3 h => ?_))
  refine V_ifnz (pc := 6) (tgt := 12) dX11_via_6 (by decide) (fun hc => ?_) (fun hc => ?_)
  · replace h := h.1 hc
    refine V_aload_n (pc := 12) 0 dX11_via_12 rfl ?_
    refine V_iload_n (pc := 13) 2 dX11_via_13 rfl ?_
    refine V_callV (pc := 14) (M' := mX11_costs) dX11_via_14 ml_X11_201 kv_X11_costs ko_X11_costs sh_67 (by decide) (by decide) rfl rfl (Nat.le_of_ble_eq_true rfl) (Nat.le_of_ble_eq_true rfl) (vX11_costs E  x2 s3 _  h) (kV (fun s14 h => ?_))
    refine V_iconst (pc := 17) (v := 0) dX11_via_17 (by decide) ?_
    refine V_istore_n (pc := 18) dX11_via_18 (by decide) ?_
    obtain ⟨n19, h⟩ := h
    refine V_loc [1, 2, 0] rfl (vX11_via_19 E post   _ _ (fun σ_1 h => ?_) (fun x3_2 σ_2 h => ?_) n19 x1 ((0 : Int32)) s14  h)
    · refine V_iconst (pc := 102) (v := -1) dX11_via_102 (by decide) ?_
      exact V_iret dX11_via_103 rfl h
    · refine V_iload_n (pc := 94) 0 dX11_via_94 rfl ?_
      exact V_iret dX11_via_95 rfl h
  · replace h := h.2 hc
    refine V_bipush (pc := 9) (v := -2) dX11_via_9 (by decide) ?_
    exact V_iret dX11_via_11 rfl h
theorem dX11_add_0 : decode cX11_add 0 = .ok (.aload_n 0, 1) := by decide +kernel
theorem dX11_add_1 : decode cX11_add 1 = .ok (.getfield 204, 3) := by decide +kernel
theorem dX11_add_4 : decode cX11_add 4 = .ok (.istore_n 3, 1) := by decide +kernel
theorem dX11_add_5 : decode cX11_add 5 = .ok (.iload_n 3, 1) := by decide +kernel
theorem dX11_add_6 : decode cX11_add 6 = .ok (.ifCond .le 36, 3) := by decide +kernel
theorem dX11_add_9 : decode cX11_add 9 = .ok (.aload_n 0, 1) := by decide +kernel
theorem dX11_add_10 : decode cX11_add 10 = .ok (.getfield 66, 3) := by decide +kernel
theorem dX11_add_13 : decode cX11_add 13 = .ok (.iload_n 3, 1) := by decide +kernel
theorem dX11_add_14 : decode cX11_add 14 = .ok (.iconst 1, 1) := by decide +kernel
theorem dX11_add_15 : decode cX11_add 15 = .ok (.isub, 1) := by decide +kernel
theorem dX11_add_16 : decode cX11_add 16 = .ok (.laload, 1) := by decide +kernel
theorem dX11_add_17 : decode cX11_add 17 = .ok (.lload_n 1, 1) := by decide +kernel
theorem dX11_add_18 : decode cX11_add 18 = .ok (.lcmp, 1) := by decide +kernel
theorem dX11_add_19 : decode cX11_add 19 = .ok (.ifCond .le 23, 3) := by decide +kernel
theorem dX11_add_22 : decode cX11_add 22 = .ok (.aload_n 0, 1) := by decide +kernel
theorem dX11_add_23 : decode cX11_add 23 = .ok (.getfield 66, 3) := by decide +kernel
theorem dX11_add_26 : decode cX11_add 26 = .ok (.iload_n 3, 1) := by decide +kernel
theorem dX11_add_27 : decode cX11_add 27 = .ok (.aload_n 0, 1) := by decide +kernel
theorem dX11_add_28 : decode cX11_add 28 = .ok (.getfield 66, 3) := by decide +kernel
theorem dX11_add_31 : decode cX11_add 31 = .ok (.iload_n 3, 1) := by decide +kernel
theorem dX11_add_32 : decode cX11_add 32 = .ok (.iconst 1, 1) := by decide +kernel
theorem dX11_add_33 : decode cX11_add 33 = .ok (.isub, 1) := by decide +kernel
theorem dX11_add_34 : decode cX11_add 34 = .ok (.laload, 1) := by decide +kernel
theorem dX11_add_35 : decode cX11_add 35 = .ok (.lastore, 1) := by decide +kernel
theorem dX11_add_36 : decode cX11_add 36 = .ok (.iinc 3 (-1), 3) := by decide +kernel
theorem dX11_add_39 : decode cX11_add 39 = .ok (.goto (-34), 3) := by decide +kernel
theorem dX11_add_42 : decode cX11_add 42 = .ok (.aload_n 0, 1) := by decide +kernel
theorem dX11_add_43 : decode cX11_add 43 = .ok (.getfield 66, 3) := by decide +kernel
theorem dX11_add_46 : decode cX11_add 46 = .ok (.iload_n 3, 1) := by decide +kernel
theorem dX11_add_47 : decode cX11_add 47 = .ok (.lload_n 1, 1) := by decide +kernel
theorem dX11_add_48 : decode cX11_add 48 = .ok (.lastore, 1) := by decide +kernel
theorem dX11_add_49 : decode cX11_add 49 = .ok (.aload_n 0, 1) := by decide +kernel
theorem dX11_add_50 : decode cX11_add 50 = .ok (.dup, 1) := by decide +kernel
theorem dX11_add_51 : decode cX11_add 51 = .ok (.getfield 204, 3) := by decide +kernel
theorem dX11_add_54 : decode cX11_add 54 = .ok (.iconst 1, 1) := by decide +kernel
theorem dX11_add_55 : decode cX11_add 55 = .ok (.iadd, 1) := by decide +kernel
theorem dX11_add_56 : decode cX11_add 56 = .ok (.putfield 204, 3) := by decide +kernel
theorem dX11_add_59 : decode cX11_add 59 = .ok (.return_, 1) := by decide +kernel
def wX11_add_5 (post : Sto → Prop)  (K42 : Int64 → Int32 → Sto → Prop) : Nat → Int64 → Int32 → Sto → Prop
  | 0, _, _, _ => False
  | n + 1, x1, x3, σ => ((x3 ≤ 0) → (K42 x1 x3 σ)) ∧ ((¬ (x3 ≤ 0)) → (vp_in (x3 - ((1 : Int32))) 105 ∧ ((((σ.2 84 (x3 - ((1 : Int32))).toNatClampNeg) ≤ x1) → (K42 x1 x3 σ)) ∧ ((¬ ((σ.2 84 (x3 - ((1 : Int32))).toNatClampNeg) ≤ x1)) → (vp_in (x3 - ((1 : Int32))) 105 ∧ (vp_in x3 105 ∧ (wX11_add_5 post  K42 n x1 (x3 + (-1 : Int32)) (wL σ 84 x3.toNatClampNeg (σ.2 84 (x3 - ((1 : Int32))).toNatClampNeg)))))))))
set_option maxRecDepth 100000 in
set_option maxHeartbeats 4000000 in
theorem vX11_add_5 (E : Ev) (post : Sto → Prop)   (K42 : Int64 → Int32 → Sto → Prop) (HK42 : ∀ (x1 : Int64) (x3 : Int32) (σ : Sto), K42 x1 x3 σ → V E 0 mX11_add (pV post) 42 [(0, .ref 67), (1, .long x1), (3, .int x3)] [] σ) : ∀ (n : Nat) (x1 : Int64) (x3 : Int32) (σ : Sto), wX11_add_5 post  K42 n x1 x3 σ → V E 0 mX11_add (pV post) 5 [(0, .ref 67), (1, .long x1), (3, .int x3)] [] σ := by
  intro n
  induction n with
  | zero => intro x1 x3 σ h; exact h.elim
  | succ n ih =>
    intro x1 x3 σ h
    unfold wX11_add_5 at h
    refine V_iload_n (pc := 5) 2 dX11_add_5 rfl ?_
    refine V_if_le (pc := 6) (tgt := 42) dX11_add_6 (by decide) (fun hc => ?_) (fun hc => ?_)
    · replace h := h.1 hc
      exact V_loc [0, 1, 2] rfl (HK42 x1 x3 σ  h)
    · replace h := h.2 hc
      refine V_aload_n (pc := 9) 0 dX11_add_9 rfl ?_
      refine V_getR (pc := 10) dX11_add_10 fl_X11_66 sh_67 rfl ?_
      refine V_iload_n (pc := 13) 2 dX11_add_13 rfl ?_
      refine V_iconst (pc := 14) (v := 1) dX11_add_14 (by decide) ?_
      refine V_isub (pc := 15) dX11_add_15 ?_
      obtain ⟨i16, h⟩ := h
      refine V_lald (pc := 16) dX11_add_16 sh_84 i16 ?_
      refine V_lload_n (pc := 17) 1 dX11_add_17 rfl ?_
      refine V_lc_le (pc := 18) (tgt := 42) dX11_add_18 dX11_add_19 (by decide) (fun hc => ?_) (fun hc => ?_)
      · replace h := h.1 hc
        exact V_loc [0, 1, 2] rfl (HK42 x1 x3 σ  h)
      · replace h := h.2 hc
        refine V_aload_n (pc := 22) 0 dX11_add_22 rfl ?_
        refine V_getR (pc := 23) dX11_add_23 fl_X11_66 sh_67 rfl ?_
        refine V_iload_n (pc := 26) 2 dX11_add_26 rfl ?_
        refine V_aload_n (pc := 27) 0 dX11_add_27 rfl ?_
        refine V_getR (pc := 28) dX11_add_28 fl_X11_66 sh_67 rfl ?_
        refine V_iload_n (pc := 31) 2 dX11_add_31 rfl ?_
        refine V_iconst (pc := 32) (v := 1) dX11_add_32 (by decide) ?_
        refine V_isub (pc := 33) dX11_add_33 ?_
        obtain ⟨i34, h⟩ := h
        refine V_lald (pc := 34) dX11_add_34 sh_84 i34 ?_
        obtain ⟨i35, h⟩ := h
        refine V_last (pc := 35) dX11_add_35 sh_84 i35 ?_
        refine V_iinc (pc := 36) 2 (v := -1) dX11_add_36 rfl (by decide) (by decide) ?_
        refine V_goto (pc := 39) (tgt := 5) dX11_add_39 (by decide) ?_
        exact V_loc [1, 2, 0] rfl (ih x1 (x3 + (-1 : Int32)) (wL σ 84 x3.toNatClampNeg (σ.2 84 (x3 - ((1 : Int32))).toNatClampNeg))  h)
def wX11_add_42 (post : Sto → Prop)   (x1 : Int64) (x3 : Int32) (σ : Sto) : Prop := vp_in x3 105 ∧ (post (wI (wL σ 84 x3.toNatClampNeg x1) 67 23 ((σ.1 67 23) + ((1 : Int32)))))
set_option maxRecDepth 100000 in
set_option maxHeartbeats 4000000 in
theorem vX11_add_42 (E : Ev) (post : Sto → Prop)     (x1 : Int64) (x3 : Int32) (σ : Sto) (h : wX11_add_42 post   x1 x3 σ) : V E 0 mX11_add (pV post) 42 [(0, .ref 67), (1, .long x1), (3, .int x3)] [] σ := by
  unfold wX11_add_42 at h
  refine V_aload_n (pc := 42) 0 dX11_add_42 rfl ?_
  refine V_getR (pc := 43) dX11_add_43 fl_X11_66 sh_67 rfl ?_
  refine V_iload_n (pc := 46) 2 dX11_add_46 rfl ?_
  refine V_lload_n (pc := 47) 1 dX11_add_47 rfl ?_
  obtain ⟨i48, h⟩ := h
  refine V_last (pc := 48) dX11_add_48 sh_84 i48 ?_
  refine V_aload_n (pc := 49) 0 dX11_add_49 rfl ?_
  refine V_dup (pc := 50) dX11_add_50 rfl ?_
  refine V_getI (pc := 51) dX11_add_51 fl_X11_204 sh_67 rfl ?_
  refine V_iconst (pc := 54) (v := 1) dX11_add_54 (by decide) ?_
  refine V_iadd (pc := 55) dX11_add_55 ?_
  refine V_putI (pc := 56) dX11_add_56 fl_X11_204 po_X11_23 sh_67 rfl rfl rfl ?_
  exact V_vret dX11_add_59 rfl h
def wX11_add  (x1 : Int64) (σ : Sto) (post : Sto → Prop) : Prop := ∃ n5, wX11_add_5 post  (fun (x1_1 : Int64) (x3_1 : Int32) (σ_1 : Sto) => wX11_add_42 post   x1_1 x3_1 σ_1) n5 x1 (σ.1 67 23) σ
set_option maxRecDepth 100000 in
set_option maxHeartbeats 4000000 in
theorem vX11_add (E : Ev)  (x1 : Int64) (σ : Sto) (post : Sto → Prop)  (h : wX11_add  x1 σ post) : V E 0 mX11_add (pV post) 0 [(0, .ref 67), (1, .long x1)] [] σ := by
  unfold wX11_add at h
  refine V_aload_n (pc := 0) 0 dX11_add_0 rfl ?_
  refine V_getI (pc := 1) dX11_add_1 fl_X11_204 sh_67 rfl ?_
  refine V_istore_n (pc := 4) dX11_add_4 (by decide) ?_
  obtain ⟨n5, h⟩ := h
  refine V_loc [1, 2, 0] rfl (vX11_add_5 E post   _ (fun x1_1 x3_1 σ_1 h => ?_) n5 x1 (σ.1 67 23) σ  h)
  · refine V_loc [0, 1, 2] rfl (vX11_add_42 E post     x1_1 x3_1 σ_1  h)
theorem dX11_middle_0 : decode cX11_middle 0 = .ok (.aload_n 0, 1) := by decide +kernel
theorem dX11_middle_1 : decode cX11_middle 1 = .ok (.getfield 204, 3) := by decide +kernel
theorem dX11_middle_4 : decode cX11_middle 4 = .ok (.iconst 2, 1) := by decide +kernel
theorem dX11_middle_5 : decode cX11_middle 5 = .ok (.irem, 1) := by decide +kernel
theorem dX11_middle_6 : decode cX11_middle 6 = .ok (.iconst 1, 1) := by decide +kernel
theorem dX11_middle_7 : decode cX11_middle 7 = .ok (.if_icmp .ne 7, 3) := by decide +kernel
theorem dX11_middle_10 : decode cX11_middle 10 = .ok (.iconst 1, 1) := by decide +kernel
theorem dX11_middle_11 : decode cX11_middle 11 = .ok (.goto 4, 3) := by decide +kernel
theorem dX11_middle_14 : decode cX11_middle 14 = .ok (.iconst 0, 1) := by decide +kernel
theorem dX11_middle_15 : decode cX11_middle 15 = .ok (.istore_n 1, 1) := by decide +kernel
theorem dX11_middle_16 : decode cX11_middle 16 = .ok (.aload_n 0, 1) := by decide +kernel
theorem dX11_middle_17 : decode cX11_middle 17 = .ok (.iload_n 1, 1) := by decide +kernel
theorem dX11_middle_18 : decode cX11_middle 18 = .ok (.ifCond .eq 17, 3) := by decide +kernel
theorem dX11_middle_21 : decode cX11_middle 21 = .ok (.aload_n 0, 1) := by decide +kernel
theorem dX11_middle_22 : decode cX11_middle 22 = .ok (.getfield 66, 3) := by decide +kernel
theorem dX11_middle_25 : decode cX11_middle 25 = .ok (.aload_n 0, 1) := by decide +kernel
theorem dX11_middle_26 : decode cX11_middle 26 = .ok (.getfield 204, 3) := by decide +kernel
theorem dX11_middle_29 : decode cX11_middle 29 = .ok (.iconst 2, 1) := by decide +kernel
theorem dX11_middle_30 : decode cX11_middle 30 = .ok (.idiv, 1) := by decide +kernel
theorem dX11_middle_31 : decode cX11_middle 31 = .ok (.laload, 1) := by decide +kernel
theorem dX11_middle_32 : decode cX11_middle 32 = .ok (.goto 28, 3) := by decide +kernel
theorem dX11_middle_35 : decode cX11_middle 35 = .ok (.aload_n 0, 1) := by decide +kernel
theorem dX11_middle_36 : decode cX11_middle 36 = .ok (.getfield 66, 3) := by decide +kernel
theorem dX11_middle_39 : decode cX11_middle 39 = .ok (.aload_n 0, 1) := by decide +kernel
theorem dX11_middle_40 : decode cX11_middle 40 = .ok (.getfield 204, 3) := by decide +kernel
theorem dX11_middle_43 : decode cX11_middle 43 = .ok (.iconst 2, 1) := by decide +kernel
theorem dX11_middle_44 : decode cX11_middle 44 = .ok (.idiv, 1) := by decide +kernel
theorem dX11_middle_45 : decode cX11_middle 45 = .ok (.iconst 1, 1) := by decide +kernel
theorem dX11_middle_46 : decode cX11_middle 46 = .ok (.isub, 1) := by decide +kernel
theorem dX11_middle_47 : decode cX11_middle 47 = .ok (.laload, 1) := by decide +kernel
theorem dX11_middle_48 : decode cX11_middle 48 = .ok (.aload_n 0, 1) := by decide +kernel
theorem dX11_middle_49 : decode cX11_middle 49 = .ok (.getfield 66, 3) := by decide +kernel
theorem dX11_middle_52 : decode cX11_middle 52 = .ok (.aload_n 0, 1) := by decide +kernel
theorem dX11_middle_53 : decode cX11_middle 53 = .ok (.getfield 204, 3) := by decide +kernel
theorem dX11_middle_56 : decode cX11_middle 56 = .ok (.iconst 2, 1) := by decide +kernel
theorem dX11_middle_57 : decode cX11_middle 57 = .ok (.idiv, 1) := by decide +kernel
theorem dX11_middle_58 : decode cX11_middle 58 = .ok (.laload, 1) := by decide +kernel
theorem dX11_middle_59 : decode cX11_middle 59 = .ok (.ladd, 1) := by decide +kernel
theorem dX11_middle_60 : decode cX11_middle 60 = .ok (.putfield 207, 3) := by decide +kernel
theorem dX11_middle_63 : decode cX11_middle 63 = .ok (.aload_n 0, 1) := by decide +kernel
theorem dX11_middle_64 : decode cX11_middle 64 = .ok (.iload_n 1, 1) := by decide +kernel
theorem dX11_middle_65 : decode cX11_middle 65 = .ok (.ifCond .eq 7, 3) := by decide +kernel
theorem dX11_middle_68 : decode cX11_middle 68 = .ok (.lconst 1, 1) := by decide +kernel
theorem dX11_middle_69 : decode cX11_middle 69 = .ok (.goto 6, 3) := by decide +kernel
theorem dX11_middle_72 : decode cX11_middle 72 = .ok (.ldc2_w 88, 3) := by decide +kernel
theorem dX11_middle_75 : decode cX11_middle 75 = .ok (.putfield 210, 3) := by decide +kernel
theorem dX11_middle_78 : decode cX11_middle 78 = .ok (.return_, 1) := by decide +kernel
def wX11_middle_60 (post : Sto → Prop)   (x1 : Int32) (y0 : Int64) (σ : Sto) : Prop := ((x1 = 0) → (post (wL (wL σ 67 25 y0) 67 26 ((2 : Int64))))) ∧ ((¬ (x1 = 0)) → (post (wL (wL σ 67 25 y0) 67 26 ((1 : Int64)))))
set_option maxRecDepth 100000 in
set_option maxHeartbeats 4000000 in
theorem vX11_middle_60 (E : Ev) (post : Sto → Prop)     (x1 : Int32) (y0 : Int64) (σ : Sto) (h : wX11_middle_60 post   x1 y0 σ) : V E 0 mX11_middle (pV post) 60 [(0, .ref 67), (1, .int x1)] [.long y0, .ref 67] σ := by
  unfold wX11_middle_60 at h
  refine V_putL (pc := 60) dX11_middle_60 fl_X11_207 po_X11_25 sh_67 rfl rfl rfl ?_
  refine V_aload_n (pc := 63) 0 dX11_middle_63 rfl ?_
  refine V_iload_n (pc := 64) 1 dX11_middle_64 rfl ?_
  refine V_if_eq (pc := 65) (tgt := 72) dX11_middle_65 (by decide) (fun hc => ?_) (fun hc => ?_)
  · replace h := h.1 hc
    refine V_ldc2 (pc := 72) dX11_middle_72 cl_X11_88 ?_
    refine V_putL (pc := 75) dX11_middle_75 fl_X11_210 po_X11_26 sh_67 rfl rfl rfl ?_
    exact V_vret dX11_middle_78 rfl h
  · replace h := h.2 hc
    refine V_lconst (pc := 68) (v := 1) dX11_middle_68 (by decide) ?_
    refine V_goto (pc := 69) (tgt := 75) dX11_middle_69 (by decide) ?_
    refine V_putL (pc := 75) dX11_middle_75 fl_X11_210 po_X11_26 sh_67 rfl rfl rfl ?_
    exact V_vret dX11_middle_78 rfl h
def wX11_middle_15 (post : Sto → Prop)   (y0 : Int32) (σ : Sto) : Prop := ((y0 = 0) → (vp_in (((σ.1 67 23) / ((2 : Int32))) - ((1 : Int32))) 105 ∧ (vp_in ((σ.1 67 23) / ((2 : Int32))) 105 ∧ (wX11_middle_60 post   y0 ((σ.2 84 (((σ.1 67 23) / ((2 : Int32))) - ((1 : Int32))).toNatClampNeg) + (σ.2 84 ((σ.1 67 23) / ((2 : Int32))).toNatClampNeg)) σ)))) ∧ ((¬ (y0 = 0)) → (vp_in ((σ.1 67 23) / ((2 : Int32))) 105 ∧ (wX11_middle_60 post   y0 (σ.2 84 ((σ.1 67 23) / ((2 : Int32))).toNatClampNeg) σ)))
set_option maxRecDepth 100000 in
set_option maxHeartbeats 4000000 in
theorem vX11_middle_15 (E : Ev) (post : Sto → Prop)     (y0 : Int32) (σ : Sto) (h : wX11_middle_15 post   y0 σ) : V E 0 mX11_middle (pV post) 15 [(0, .ref 67)] [.int y0] σ := by
  unfold wX11_middle_15 at h
  refine V_istore_n (pc := 15) dX11_middle_15 (by decide) ?_
  refine V_aload_n (pc := 16) 1 dX11_middle_16 rfl ?_
  refine V_iload_n (pc := 17) 0 dX11_middle_17 rfl ?_
  refine V_if_eq (pc := 18) (tgt := 35) dX11_middle_18 (by decide) (fun hc => ?_) (fun hc => ?_)
  · replace h := h.1 hc
    refine V_aload_n (pc := 35) 1 dX11_middle_35 rfl ?_
    refine V_getR (pc := 36) dX11_middle_36 fl_X11_66 sh_67 rfl ?_
    refine V_aload_n (pc := 39) 1 dX11_middle_39 rfl ?_
    refine V_getI (pc := 40) dX11_middle_40 fl_X11_204 sh_67 rfl ?_
    refine V_iconst (pc := 43) (v := 2) dX11_middle_43 (by decide) ?_
    refine V_idiv (pc := 44) dX11_middle_44 (by decide) ?_
    refine V_iconst (pc := 45) (v := 1) dX11_middle_45 (by decide) ?_
    refine V_isub (pc := 46) dX11_middle_46 ?_
    obtain ⟨i47, h⟩ := h
    refine V_lald (pc := 47) dX11_middle_47 sh_84 i47 ?_
    refine V_aload_n (pc := 48) 1 dX11_middle_48 rfl ?_
    refine V_getR (pc := 49) dX11_middle_49 fl_X11_66 sh_67 rfl ?_
    refine V_aload_n (pc := 52) 1 dX11_middle_52 rfl ?_
    refine V_getI (pc := 53) dX11_middle_53 fl_X11_204 sh_67 rfl ?_
    refine V_iconst (pc := 56) (v := 2) dX11_middle_56 (by decide) ?_
    refine V_idiv (pc := 57) dX11_middle_57 (by decide) ?_
    obtain ⟨i58, h⟩ := h
    refine V_lald (pc := 58) dX11_middle_58 sh_84 i58 ?_
    refine V_ladd (pc := 59) dX11_middle_59 ?_
    refine V_loc [1, 0] rfl (vX11_middle_60 E post     y0 ((σ.2 84 (((σ.1 67 23) / ((2 : Int32))) - ((1 : Int32))).toNatClampNeg) + (σ.2 84 ((σ.1 67 23) / ((2 : Int32))).toNatClampNeg)) σ  h)
  · replace h := h.2 hc
    refine V_aload_n (pc := 21) 1 dX11_middle_21 rfl ?_
    refine V_getR (pc := 22) dX11_middle_22 fl_X11_66 sh_67 rfl ?_
    refine V_aload_n (pc := 25) 1 dX11_middle_25 rfl ?_
    refine V_getI (pc := 26) dX11_middle_26 fl_X11_204 sh_67 rfl ?_
    refine V_iconst (pc := 29) (v := 2) dX11_middle_29 (by decide) ?_
    refine V_idiv (pc := 30) dX11_middle_30 (by decide) ?_
    obtain ⟨i31, h⟩ := h
    refine V_lald (pc := 31) dX11_middle_31 sh_84 i31 ?_
    refine V_goto (pc := 32) (tgt := 60) dX11_middle_32 (by decide) ?_
    refine V_loc [1, 0] rfl (vX11_middle_60 E post     y0 (σ.2 84 ((σ.1 67 23) / ((2 : Int32))).toNatClampNeg) σ  h)
def wX11_middle   (σ : Sto) (post : Sto → Prop) : Prop := ((¬ ((σ.1 67 23) - (σ.1 67 23) / ((2 : Int32)) * ((2 : Int32))) = ((1 : Int32))) → (wX11_middle_15 post   ((0 : Int32)) σ)) ∧ ((((σ.1 67 23) - (σ.1 67 23) / ((2 : Int32)) * ((2 : Int32))) = ((1 : Int32))) → (wX11_middle_15 post   ((1 : Int32)) σ))
set_option maxRecDepth 100000 in
set_option maxHeartbeats 4000000 in
theorem vX11_middle (E : Ev)   (σ : Sto) (post : Sto → Prop)  (h : wX11_middle   σ post) : V E 0 mX11_middle (pV post) 0 [(0, .ref 67)] [] σ := by
  unfold wX11_middle at h
  refine V_aload_n (pc := 0) 0 dX11_middle_0 rfl ?_
  refine V_getI (pc := 1) dX11_middle_1 fl_X11_204 sh_67 rfl ?_
  refine V_iconst (pc := 4) (v := 2) dX11_middle_4 (by decide) ?_
  refine V_irem (pc := 5) dX11_middle_5 (by decide) ?_
  refine V_iconst (pc := 6) (v := 1) dX11_middle_6 (by decide) ?_
  refine V_icmp_ne (pc := 7) (tgt := 14) dX11_middle_7 (by decide) (fun hc => ?_) (fun hc => ?_)
  · replace h := h.1 hc
    refine V_iconst (pc := 14) (v := 0) dX11_middle_14 (by decide) ?_
    refine V_loc [0] rfl (vX11_middle_15 E post     ((0 : Int32)) σ  h)
  · replace h := h.2 hc
    refine V_iconst (pc := 10) (v := 1) dX11_middle_10 (by decide) ?_
    refine V_goto (pc := 11) (tgt := 15) dX11_middle_11 (by decide) ?_
    refine V_loc [0] rfl (vX11_middle_15 E post     ((1 : Int32)) σ  h)
theorem dX11_rowOf_0 : decode cX11_rowOf 0 = .ok (.aload_n 0, 1) := by decide +kernel
theorem dX11_rowOf_1 : decode cX11_rowOf 1 = .ok (.iconst 0, 1) := by decide +kernel
theorem dX11_rowOf_2 : decode cX11_rowOf 2 = .ok (.putfield 204, 3) := by decide +kernel
theorem dX11_rowOf_5 : decode cX11_rowOf 5 = .ok (.iconst 0, 1) := by decide +kernel
theorem dX11_rowOf_6 : decode cX11_rowOf 6 = .ok (.istore_n 2, 1) := by decide +kernel
theorem dX11_rowOf_7 : decode cX11_rowOf 7 = .ok (.iload_n 2, 1) := by decide +kernel
theorem dX11_rowOf_8 : decode cX11_rowOf 8 = .ok (.aload_n 0, 1) := by decide +kernel
theorem dX11_rowOf_9 : decode cX11_rowOf 9 = .ok (.getfield 101, 3) := by decide +kernel
theorem dX11_rowOf_12 : decode cX11_rowOf 12 = .ok (.if_icmp .ge 28, 3) := by decide +kernel
theorem dX11_rowOf_15 : decode cX11_rowOf 15 = .ok (.aload_n 0, 1) := by decide +kernel
theorem dX11_rowOf_16 : decode cX11_rowOf 16 = .ok (.iload_n 2, 1) := by decide +kernel
theorem dX11_rowOf_17 : decode cX11_rowOf 17 = .ok (.iload_n 1, 1) := by decide +kernel
theorem dX11_rowOf_18 : decode cX11_rowOf 18 = .ok (.invokevirtual 160, 3) := by decide +kernel
theorem dX11_rowOf_21 : decode cX11_rowOf 21 = .ok (.ifCond .eq 13, 3) := by decide +kernel
theorem dX11_rowOf_24 : decode cX11_rowOf 24 = .ok (.aload_n 0, 1) := by decide +kernel
theorem dX11_rowOf_25 : decode cX11_rowOf 25 = .ok (.aload_n 0, 1) := by decide +kernel
theorem dX11_rowOf_26 : decode cX11_rowOf 26 = .ok (.iload_n 2, 1) := by decide +kernel
theorem dX11_rowOf_27 : decode cX11_rowOf 27 = .ok (.iload_n 1, 1) := by decide +kernel
theorem dX11_rowOf_28 : decode cX11_rowOf 28 = .ok (.invokevirtual 164, 3) := by decide +kernel
theorem dX11_rowOf_31 : decode cX11_rowOf 31 = .ok (.invokevirtual 213, 3) := by decide +kernel
theorem dX11_rowOf_34 : decode cX11_rowOf 34 = .ok (.iinc 2 1, 3) := by decide +kernel
theorem dX11_rowOf_37 : decode cX11_rowOf 37 = .ok (.goto (-30), 3) := by decide +kernel
theorem dX11_rowOf_40 : decode cX11_rowOf 40 = .ok (.return_, 1) := by decide +kernel
def wX11_rowOf_7 (post : Sto → Prop)  (K40 : Sto → Prop) : Nat → Int32 → Int32 → Sto → Prop
  | 0, _, _, _ => False
  | n + 1, x1, x2, σ => (((σ.1 67 1) ≤ x2) → (K40  σ)) ∧ ((¬ ((σ.1 67 1) ≤ x2)) → (wX11_takes  x2 x1 σ (fun (r18 : Bool) (s18 : Sto) => ((r18 = false) → (wX11_rowOf_7 post  K40 n x1 (x2 + (1 : Int32)) s18)) ∧ ((r18 = true) → (wX11_toldOf  x2 x1 s18 (fun (r28 : Int64) (s28 : Sto) => wX11_add  r28 s28 (fun (s31 : Sto) => wX11_rowOf_7 post  K40 n x1 (x2 + (1 : Int32)) s31)))))))
set_option maxRecDepth 100000 in
set_option maxHeartbeats 4000000 in
theorem vX11_rowOf_7 (E : Ev) (post : Sto → Prop)   (K40 : Sto → Prop) (HK40 : ∀  (σ : Sto), K40  σ → V E 6 mX11_rowOf (pV post) 40 [] [] σ) : ∀ (n : Nat) (x1 : Int32) (x2 : Int32) (σ : Sto), wX11_rowOf_7 post  K40 n x1 x2 σ → V E 6 mX11_rowOf (pV post) 7 [(0, .ref 67), (1, .int x1), (2, .int x2)] [] σ := by
  intro n
  induction n with
  | zero => intro x1 x2 σ h; exact h.elim
  | succ n ih =>
    intro x1 x2 σ h
    unfold wX11_rowOf_7 at h
    refine V_iload_n (pc := 7) 2 dX11_rowOf_7 rfl ?_
    refine V_aload_n (pc := 8) 0 dX11_rowOf_8 rfl ?_
    refine V_getI (pc := 9) dX11_rowOf_9 fl_X11_101 sh_67 rfl ?_
    refine V_icmp_ge (pc := 12) (tgt := 40) dX11_rowOf_12 (by decide) (fun hc => ?_) (fun hc => ?_)
    · replace h := h.1 hc
      exact V_loc [] rfl (HK40  σ  h)
    · replace h := h.2 hc
      refine V_aload_n (pc := 15) 0 dX11_rowOf_15 rfl ?_
      refine V_iload_n (pc := 16) 2 dX11_rowOf_16 rfl ?_
      refine V_iload_n (pc := 17) 1 dX11_rowOf_17 rfl ?_
      refine V_callV (pc := 18) (M' := mX11_takes) dX11_rowOf_18 ml_X11_160 kv_X11_takes ko_X11_takes sh_67 (by decide) (by decide) rfl rfl (Nat.le_of_ble_eq_true rfl) (Nat.le_of_ble_eq_true rfl) (vX11_takes E  x2 x1 σ _  h) (kB (fun r18 s18 h => ?_))
      refine V_ifz (pc := 21) (tgt := 34) dX11_rowOf_21 (by decide) (fun hc => ?_) (fun hc => ?_)
      · replace h := h.1 hc
        refine V_iinc (pc := 34) 2 (v := 1) dX11_rowOf_34 rfl (by decide) (by decide) ?_
        refine V_goto (pc := 37) (tgt := 7) dX11_rowOf_37 (by decide) ?_
        exact V_loc [1, 2, 0] rfl (ih x1 (x2 + (1 : Int32)) s18  h)
      · replace h := h.2 hc
        refine V_aload_n (pc := 24) 0 dX11_rowOf_24 rfl ?_
        refine V_aload_n (pc := 25) 0 dX11_rowOf_25 rfl ?_
        refine V_iload_n (pc := 26) 2 dX11_rowOf_26 rfl ?_
        refine V_iload_n (pc := 27) 1 dX11_rowOf_27 rfl ?_
        refine V_callV (pc := 28) (M' := mX11_toldOf) dX11_rowOf_28 ml_X11_164 kv_X11_toldOf ko_X11_toldOf sh_67 (by decide) (by decide) rfl rfl (Nat.le_of_ble_eq_true rfl) (Nat.le_of_ble_eq_true rfl) (vX11_toldOf E  x2 x1 s18 _  h) (kL (fun r28 s28 h => ?_))
        refine V_callV (pc := 31) (M' := mX11_add) dX11_rowOf_31 ml_X11_213 kv_X11_add ko_X11_add sh_67 (by decide) (by decide) rfl rfl (Nat.le_of_ble_eq_true rfl) (Nat.le_of_ble_eq_true rfl) (vX11_add E  r28 s28 _  h) (kV (fun s31 h => ?_))
        refine V_iinc (pc := 34) 2 (v := 1) dX11_rowOf_34 rfl (by decide) (by decide) ?_
        refine V_goto (pc := 37) (tgt := 7) dX11_rowOf_37 (by decide) ?_
        exact V_loc [1, 2, 0] rfl (ih x1 (x2 + (1 : Int32)) s31  h)
def wX11_rowOf  (x1 : Int32) (σ : Sto) (post : Sto → Prop) : Prop := ∃ n7, wX11_rowOf_7 post  (fun  (σ_1 : Sto) => post σ_1) n7 x1 ((0 : Int32)) (wI σ 67 23 ((0 : Int32)))
set_option maxRecDepth 100000 in
set_option maxHeartbeats 4000000 in
theorem vX11_rowOf (E : Ev)  (x1 : Int32) (σ : Sto) (post : Sto → Prop)  (h : wX11_rowOf  x1 σ post) : V E 6 mX11_rowOf (pV post) 0 [(0, .ref 67), (1, .int x1)] [] σ := by
  unfold wX11_rowOf at h
  refine V_aload_n (pc := 0) 0 dX11_rowOf_0 rfl ?_
  refine V_iconst (pc := 1) (v := 0) dX11_rowOf_1 (by decide) ?_
  refine V_putI (pc := 2) dX11_rowOf_2 fl_X11_204 po_X11_23 sh_67 rfl rfl rfl ?_
  refine V_iconst (pc := 5) (v := 0) dX11_rowOf_5 (by decide) ?_
  refine V_istore_n (pc := 6) dX11_rowOf_6 (by decide) ?_
  obtain ⟨n7, h⟩ := h
  refine V_loc [1, 2, 0] rfl (vX11_rowOf_7 E post   _ (fun σ_1 h => ?_) n7 x1 ((0 : Int32)) (wI σ 67 23 ((0 : Int32)))  h)
  · exact V_vret dX11_rowOf_40 rfl h
theorem dX11_pairsOf_0 : decode cX11_pairsOf 0 = .ok (.aload_n 0, 1) := by decide +kernel
theorem dX11_pairsOf_1 : decode cX11_pairsOf 1 = .ok (.iconst 0, 1) := by decide +kernel
theorem dX11_pairsOf_2 : decode cX11_pairsOf 2 = .ok (.putfield 204, 3) := by decide +kernel
theorem dX11_pairsOf_5 : decode cX11_pairsOf 5 = .ok (.iconst 0, 1) := by decide +kernel
theorem dX11_pairsOf_6 : decode cX11_pairsOf 6 = .ok (.istore_n 2, 1) := by decide +kernel
theorem dX11_pairsOf_7 : decode cX11_pairsOf 7 = .ok (.iload_n 2, 1) := by decide +kernel
theorem dX11_pairsOf_8 : decode cX11_pairsOf 8 = .ok (.aload_n 0, 1) := by decide +kernel
theorem dX11_pairsOf_9 : decode cX11_pairsOf 9 = .ok (.getfield 101, 3) := by decide +kernel
theorem dX11_pairsOf_12 : decode cX11_pairsOf 12 = .ok (.if_icmp .ge 60, 3) := by decide +kernel
theorem dX11_pairsOf_15 : decode cX11_pairsOf 15 = .ok (.iload_n 2, 1) := by decide +kernel
theorem dX11_pairsOf_16 : decode cX11_pairsOf 16 = .ok (.istore_n 3, 1) := by decide +kernel
theorem dX11_pairsOf_17 : decode cX11_pairsOf 17 = .ok (.iload_n 3, 1) := by decide +kernel
theorem dX11_pairsOf_18 : decode cX11_pairsOf 18 = .ok (.aload_n 0, 1) := by decide +kernel
theorem dX11_pairsOf_19 : decode cX11_pairsOf 19 = .ok (.getfield 101, 3) := by decide +kernel
theorem dX11_pairsOf_22 : decode cX11_pairsOf 22 = .ok (.if_icmp .ge 44, 3) := by decide +kernel
theorem dX11_pairsOf_25 : decode cX11_pairsOf 25 = .ok (.aload_n 0, 1) := by decide +kernel
theorem dX11_pairsOf_26 : decode cX11_pairsOf 26 = .ok (.iload_n 2, 1) := by decide +kernel
theorem dX11_pairsOf_27 : decode cX11_pairsOf 27 = .ok (.iload_n 1, 1) := by decide +kernel
theorem dX11_pairsOf_28 : decode cX11_pairsOf 28 = .ok (.invokevirtual 160, 3) := by decide +kernel
theorem dX11_pairsOf_31 : decode cX11_pairsOf 31 = .ok (.ifCond .eq 29, 3) := by decide +kernel
theorem dX11_pairsOf_34 : decode cX11_pairsOf 34 = .ok (.aload_n 0, 1) := by decide +kernel
theorem dX11_pairsOf_35 : decode cX11_pairsOf 35 = .ok (.iload_n 3, 1) := by decide +kernel
theorem dX11_pairsOf_36 : decode cX11_pairsOf 36 = .ok (.iload_n 1, 1) := by decide +kernel
theorem dX11_pairsOf_37 : decode cX11_pairsOf 37 = .ok (.invokevirtual 160, 3) := by decide +kernel
theorem dX11_pairsOf_40 : decode cX11_pairsOf 40 = .ok (.ifCond .eq 20, 3) := by decide +kernel
theorem dX11_pairsOf_43 : decode cX11_pairsOf 43 = .ok (.aload_n 0, 1) := by decide +kernel
theorem dX11_pairsOf_44 : decode cX11_pairsOf 44 = .ok (.aload_n 0, 1) := by decide +kernel
theorem dX11_pairsOf_45 : decode cX11_pairsOf 45 = .ok (.iload_n 2, 1) := by decide +kernel
theorem dX11_pairsOf_46 : decode cX11_pairsOf 46 = .ok (.iload_n 1, 1) := by decide +kernel
theorem dX11_pairsOf_47 : decode cX11_pairsOf 47 = .ok (.invokevirtual 164, 3) := by decide +kernel
theorem dX11_pairsOf_50 : decode cX11_pairsOf 50 = .ok (.aload_n 0, 1) := by decide +kernel
theorem dX11_pairsOf_51 : decode cX11_pairsOf 51 = .ok (.iload_n 3, 1) := by decide +kernel
theorem dX11_pairsOf_52 : decode cX11_pairsOf 52 = .ok (.iload_n 1, 1) := by decide +kernel
theorem dX11_pairsOf_53 : decode cX11_pairsOf 53 = .ok (.invokevirtual 164, 3) := by decide +kernel
theorem dX11_pairsOf_56 : decode cX11_pairsOf 56 = .ok (.ladd, 1) := by decide +kernel
theorem dX11_pairsOf_57 : decode cX11_pairsOf 57 = .ok (.invokevirtual 213, 3) := by decide +kernel
theorem dX11_pairsOf_60 : decode cX11_pairsOf 60 = .ok (.iinc 3 1, 3) := by decide +kernel
theorem dX11_pairsOf_63 : decode cX11_pairsOf 63 = .ok (.goto (-46), 3) := by decide +kernel
theorem dX11_pairsOf_66 : decode cX11_pairsOf 66 = .ok (.iinc 2 1, 3) := by decide +kernel
theorem dX11_pairsOf_69 : decode cX11_pairsOf 69 = .ok (.goto (-62), 3) := by decide +kernel
theorem dX11_pairsOf_72 : decode cX11_pairsOf 72 = .ok (.aload_n 0, 1) := by decide +kernel
theorem dX11_pairsOf_73 : decode cX11_pairsOf 73 = .ok (.invokevirtual 217, 3) := by decide +kernel
theorem dX11_pairsOf_76 : decode cX11_pairsOf 76 = .ok (.aload_n 0, 1) := by decide +kernel
theorem dX11_pairsOf_77 : decode cX11_pairsOf 77 = .ok (.dup, 1) := by decide +kernel
theorem dX11_pairsOf_78 : decode cX11_pairsOf 78 = .ok (.getfield 210, 3) := by decide +kernel
theorem dX11_pairsOf_81 : decode cX11_pairsOf 81 = .ok (.ldc2_w 88, 3) := by decide +kernel
theorem dX11_pairsOf_84 : decode cX11_pairsOf 84 = .ok (.lmul, 1) := by decide +kernel
theorem dX11_pairsOf_85 : decode cX11_pairsOf 85 = .ok (.putfield 210, 3) := by decide +kernel
theorem dX11_pairsOf_88 : decode cX11_pairsOf 88 = .ok (.return_, 1) := by decide +kernel
def wX11_pairsOf_17 (post : Sto → Prop)  (K66 : Int32 → Int32 → Sto → Prop) : Nat → Int32 → Int32 → Int32 → Sto → Prop
  | 0, _, _, _, _ => False
  | n + 1, x1, x2, x3, σ => (((σ.1 67 1) ≤ x3) → (K66 x1 x2 σ)) ∧ ((¬ ((σ.1 67 1) ≤ x3)) → (wX11_takes  x2 x1 σ (fun (r28 : Bool) (s28 : Sto) => ((r28 = false) → (wX11_pairsOf_17 post  K66 n x1 x2 (x3 + (1 : Int32)) s28)) ∧ ((r28 = true) → (wX11_takes  x3 x1 s28 (fun (r37 : Bool) (s37 : Sto) => ((r37 = false) → (wX11_pairsOf_17 post  K66 n x1 x2 (x3 + (1 : Int32)) s37)) ∧ ((r37 = true) → (wX11_toldOf  x2 x1 s37 (fun (r47 : Int64) (s47 : Sto) => wX11_toldOf  x3 x1 s47 (fun (r53 : Int64) (s53 : Sto) => wX11_add  (r47 + r53) s53 (fun (s57 : Sto) => wX11_pairsOf_17 post  K66 n x1 x2 (x3 + (1 : Int32)) s57)))))))))))
set_option maxRecDepth 100000 in
set_option maxHeartbeats 4000000 in
theorem vX11_pairsOf_17 (E : Ev) (post : Sto → Prop)   (K66 : Int32 → Int32 → Sto → Prop) (HK66 : ∀ (x1 : Int32) (x2 : Int32) (σ : Sto), K66 x1 x2 σ → V E 6 mX11_pairsOf (pV post) 66 [(0, .ref 67), (1, .int x1), (2, .int x2)] [] σ) : ∀ (n : Nat) (x1 : Int32) (x2 : Int32) (x3 : Int32) (σ : Sto), wX11_pairsOf_17 post  K66 n x1 x2 x3 σ → V E 6 mX11_pairsOf (pV post) 17 [(0, .ref 67), (1, .int x1), (2, .int x2), (3, .int x3)] [] σ := by
  intro n
  induction n with
  | zero => intro x1 x2 x3 σ h; exact h.elim
  | succ n ih =>
    intro x1 x2 x3 σ h
    unfold wX11_pairsOf_17 at h
    refine V_iload_n (pc := 17) 3 dX11_pairsOf_17 rfl ?_
    refine V_aload_n (pc := 18) 0 dX11_pairsOf_18 rfl ?_
    refine V_getI (pc := 19) dX11_pairsOf_19 fl_X11_101 sh_67 rfl ?_
    refine V_icmp_ge (pc := 22) (tgt := 66) dX11_pairsOf_22 (by decide) (fun hc => ?_) (fun hc => ?_)
    · replace h := h.1 hc
      exact V_loc [0, 1, 2] rfl (HK66 x1 x2 σ  h)
    · replace h := h.2 hc
      refine V_aload_n (pc := 25) 0 dX11_pairsOf_25 rfl ?_
      refine V_iload_n (pc := 26) 2 dX11_pairsOf_26 rfl ?_
      refine V_iload_n (pc := 27) 1 dX11_pairsOf_27 rfl ?_
      refine V_callV (pc := 28) (M' := mX11_takes) dX11_pairsOf_28 ml_X11_160 kv_X11_takes ko_X11_takes sh_67 (by decide) (by decide) rfl rfl (Nat.le_of_ble_eq_true rfl) (Nat.le_of_ble_eq_true rfl) (vX11_takes E  x2 x1 σ _  h) (kB (fun r28 s28 h => ?_))
      refine V_ifz (pc := 31) (tgt := 60) dX11_pairsOf_31 (by decide) (fun hc => ?_) (fun hc => ?_)
      · replace h := h.1 hc
        refine V_iinc (pc := 60) 3 (v := 1) dX11_pairsOf_60 rfl (by decide) (by decide) ?_
        refine V_goto (pc := 63) (tgt := 17) dX11_pairsOf_63 (by decide) ?_
        exact V_loc [1, 2, 3, 0] rfl (ih x1 x2 (x3 + (1 : Int32)) s28  h)
      · replace h := h.2 hc
        refine V_aload_n (pc := 34) 0 dX11_pairsOf_34 rfl ?_
        refine V_iload_n (pc := 35) 3 dX11_pairsOf_35 rfl ?_
        refine V_iload_n (pc := 36) 1 dX11_pairsOf_36 rfl ?_
        refine V_callV (pc := 37) (M' := mX11_takes) dX11_pairsOf_37 ml_X11_160 kv_X11_takes ko_X11_takes sh_67 (by decide) (by decide) rfl rfl (Nat.le_of_ble_eq_true rfl) (Nat.le_of_ble_eq_true rfl) (vX11_takes E  x3 x1 s28 _  h) (kB (fun r37 s37 h => ?_))
        refine V_ifz (pc := 40) (tgt := 60) dX11_pairsOf_40 (by decide) (fun hc => ?_) (fun hc => ?_)
        · replace h := h.1 hc
          refine V_iinc (pc := 60) 3 (v := 1) dX11_pairsOf_60 rfl (by decide) (by decide) ?_
          refine V_goto (pc := 63) (tgt := 17) dX11_pairsOf_63 (by decide) ?_
          exact V_loc [1, 2, 3, 0] rfl (ih x1 x2 (x3 + (1 : Int32)) s37  h)
        · replace h := h.2 hc
          refine V_aload_n (pc := 43) 0 dX11_pairsOf_43 rfl ?_
          refine V_aload_n (pc := 44) 0 dX11_pairsOf_44 rfl ?_
          refine V_iload_n (pc := 45) 2 dX11_pairsOf_45 rfl ?_
          refine V_iload_n (pc := 46) 1 dX11_pairsOf_46 rfl ?_
          refine V_callV (pc := 47) (M' := mX11_toldOf) dX11_pairsOf_47 ml_X11_164 kv_X11_toldOf ko_X11_toldOf sh_67 (by decide) (by decide) rfl rfl (Nat.le_of_ble_eq_true rfl) (Nat.le_of_ble_eq_true rfl) (vX11_toldOf E  x2 x1 s37 _  h) (kL (fun r47 s47 h => ?_))
          refine V_aload_n (pc := 50) 0 dX11_pairsOf_50 rfl ?_
          refine V_iload_n (pc := 51) 3 dX11_pairsOf_51 rfl ?_
          refine V_iload_n (pc := 52) 1 dX11_pairsOf_52 rfl ?_
          refine V_callV (pc := 53) (M' := mX11_toldOf) dX11_pairsOf_53 ml_X11_164 kv_X11_toldOf ko_X11_toldOf sh_67 (by decide) (by decide) rfl rfl (Nat.le_of_ble_eq_true rfl) (Nat.le_of_ble_eq_true rfl) (vX11_toldOf E  x3 x1 s47 _  h) (kL (fun r53 s53 h => ?_))
          refine V_ladd (pc := 56) dX11_pairsOf_56 ?_
          refine V_callV (pc := 57) (M' := mX11_add) dX11_pairsOf_57 ml_X11_213 kv_X11_add ko_X11_add sh_67 (by decide) (by decide) rfl rfl (Nat.le_of_ble_eq_true rfl) (Nat.le_of_ble_eq_true rfl) (vX11_add E  (r47 + r53) s53 _  h) (kV (fun s57 h => ?_))
          refine V_iinc (pc := 60) 3 (v := 1) dX11_pairsOf_60 rfl (by decide) (by decide) ?_
          refine V_goto (pc := 63) (tgt := 17) dX11_pairsOf_63 (by decide) ?_
          exact V_loc [1, 2, 3, 0] rfl (ih x1 x2 (x3 + (1 : Int32)) s57  h)
def wX11_pairsOf_7 (post : Sto → Prop)  (K72 : Sto → Prop) : Nat → Int32 → Int32 → Sto → Prop
  | 0, _, _, _ => False
  | n + 1, x1, x2, σ => (((σ.1 67 1) ≤ x2) → (K72  σ)) ∧ ((¬ ((σ.1 67 1) ≤ x2)) → (∃ n17, wX11_pairsOf_17 post  (fun (x1_1 : Int32) (x2_1 : Int32) (σ_1 : Sto) => wX11_pairsOf_7 post  K72 n x1_1 (x2_1 + (1 : Int32)) σ_1) n17 x1 x2 x2 σ))
set_option maxRecDepth 100000 in
set_option maxHeartbeats 4000000 in
theorem vX11_pairsOf_7 (E : Ev) (post : Sto → Prop)   (K72 : Sto → Prop) (HK72 : ∀  (σ : Sto), K72  σ → V E 6 mX11_pairsOf (pV post) 72 [(0, .ref 67)] [] σ) : ∀ (n : Nat) (x1 : Int32) (x2 : Int32) (σ : Sto), wX11_pairsOf_7 post  K72 n x1 x2 σ → V E 6 mX11_pairsOf (pV post) 7 [(0, .ref 67), (1, .int x1), (2, .int x2)] [] σ := by
  intro n
  induction n with
  | zero => intro x1 x2 σ h; exact h.elim
  | succ n ih =>
    intro x1 x2 σ h
    unfold wX11_pairsOf_7 at h
    refine V_iload_n (pc := 7) 2 dX11_pairsOf_7 rfl ?_
    refine V_aload_n (pc := 8) 0 dX11_pairsOf_8 rfl ?_
    refine V_getI (pc := 9) dX11_pairsOf_9 fl_X11_101 sh_67 rfl ?_
    refine V_icmp_ge (pc := 12) (tgt := 72) dX11_pairsOf_12 (by decide) (fun hc => ?_) (fun hc => ?_)
    · replace h := h.1 hc
      exact V_loc [0] rfl (HK72  σ  h)
    · replace h := h.2 hc
      refine V_iload_n (pc := 15) 2 dX11_pairsOf_15 rfl ?_
      refine V_istore_n (pc := 16) dX11_pairsOf_16 (by decide) ?_
      obtain ⟨n17, h⟩ := h
      refine V_loc [1, 2, 3, 0] rfl (vX11_pairsOf_17 E post   _ (fun x1_1 x2_1 σ_1 h => ?_) n17 x1 x2 x2 σ  h)
      · refine V_iinc (pc := 66) 2 (v := 1) dX11_pairsOf_66 rfl (by decide) (by decide) ?_
        refine V_goto (pc := 69) (tgt := 7) dX11_pairsOf_69 (by decide) ?_
        exact V_loc [1, 2, 0] rfl (ih x1_1 (x2_1 + (1 : Int32)) σ_1  h)
def wX11_pairsOf  (x1 : Int32) (σ : Sto) (post : Sto → Prop) : Prop := ∃ n7, wX11_pairsOf_7 post  (fun  (σ_2 : Sto) => wX11_middle   σ_2 (fun (s73 : Sto) => post (wL s73 67 26 ((s73.2 67 26) * ((2 : Int64)))))) n7 x1 ((0 : Int32)) (wI σ 67 23 ((0 : Int32)))
set_option maxRecDepth 100000 in
set_option maxHeartbeats 4000000 in
theorem vX11_pairsOf (E : Ev)  (x1 : Int32) (σ : Sto) (post : Sto → Prop)  (h : wX11_pairsOf  x1 σ post) : V E 6 mX11_pairsOf (pV post) 0 [(0, .ref 67), (1, .int x1)] [] σ := by
  unfold wX11_pairsOf at h
  refine V_aload_n (pc := 0) 0 dX11_pairsOf_0 rfl ?_
  refine V_iconst (pc := 1) (v := 0) dX11_pairsOf_1 (by decide) ?_
  refine V_putI (pc := 2) dX11_pairsOf_2 fl_X11_204 po_X11_23 sh_67 rfl rfl rfl ?_
  refine V_iconst (pc := 5) (v := 0) dX11_pairsOf_5 (by decide) ?_
  refine V_istore_n (pc := 6) dX11_pairsOf_6 (by decide) ?_
  obtain ⟨n7, h⟩ := h
  refine V_loc [1, 2, 0] rfl (vX11_pairsOf_7 E post   _ (fun σ_2 h => ?_) n7 x1 ((0 : Int32)) (wI σ 67 23 ((0 : Int32)))  h)
  · refine V_aload_n (pc := 72) 0 dX11_pairsOf_72 rfl ?_
    refine V_callV (pc := 73) (M' := mX11_middle) dX11_pairsOf_73 ml_X11_217 kv_X11_middle ko_X11_middle sh_67 (by decide) (by decide) rfl rfl (Nat.le_of_ble_eq_true rfl) (Nat.le_of_ble_eq_true rfl) (vX11_middle E   σ_2 _  h) (kV (fun s73 h => ?_))
    refine V_aload_n (pc := 76) 0 dX11_pairsOf_76 rfl ?_
    refine V_dup (pc := 77) dX11_pairsOf_77 rfl ?_
    refine V_getL (pc := 78) dX11_pairsOf_78 fl_X11_210 sh_67 rfl ?_
    refine V_ldc2 (pc := 81) dX11_pairsOf_81 cl_X11_88 ?_
    refine V_lmul (pc := 84) dX11_pairsOf_84 ?_
    refine V_putL (pc := 85) dX11_pairsOf_85 fl_X11_210 po_X11_26 sh_67 rfl rfl rfl ?_
    exact V_vret dX11_pairsOf_88 rfl h
theorem dX11_weighted_0 : decode cX11_weighted 0 = .ok (.aload_n 0, 1) := by decide +kernel
theorem dX11_weighted_1 : decode cX11_weighted 1 = .ok (.lconst 0, 1) := by decide +kernel
theorem dX11_weighted_2 : decode cX11_weighted 2 = .ok (.putfield 207, 3) := by decide +kernel
theorem dX11_weighted_5 : decode cX11_weighted 5 = .ok (.aload_n 0, 1) := by decide +kernel
theorem dX11_weighted_6 : decode cX11_weighted 6 = .ok (.lconst 0, 1) := by decide +kernel
theorem dX11_weighted_7 : decode cX11_weighted 7 = .ok (.putfield 210, 3) := by decide +kernel
theorem dX11_weighted_10 : decode cX11_weighted 10 = .ok (.iconst 0, 1) := by decide +kernel
theorem dX11_weighted_11 : decode cX11_weighted 11 = .ok (.istore_n 2, 1) := by decide +kernel
theorem dX11_weighted_12 : decode cX11_weighted 12 = .ok (.iload_n 2, 1) := by decide +kernel
theorem dX11_weighted_13 : decode cX11_weighted 13 = .ok (.aload_n 0, 1) := by decide +kernel
theorem dX11_weighted_14 : decode cX11_weighted 14 = .ok (.getfield 101, 3) := by decide +kernel
theorem dX11_weighted_17 : decode cX11_weighted 17 = .ok (.if_icmp .ge 60, 3) := by decide +kernel
theorem dX11_weighted_20 : decode cX11_weighted 20 = .ok (.aload_n 0, 1) := by decide +kernel
theorem dX11_weighted_21 : decode cX11_weighted 21 = .ok (.iload_n 2, 1) := by decide +kernel
theorem dX11_weighted_22 : decode cX11_weighted 22 = .ok (.iload_n 1, 1) := by decide +kernel
theorem dX11_weighted_23 : decode cX11_weighted 23 = .ok (.invokevirtual 160, 3) := by decide +kernel
theorem dX11_weighted_26 : decode cX11_weighted 26 = .ok (.ifCond .eq 45, 3) := by decide +kernel
theorem dX11_weighted_29 : decode cX11_weighted 29 = .ok (.ldc2_w 220, 3) := by decide +kernel
theorem dX11_weighted_32 : decode cX11_weighted 32 = .ok (.aload_n 0, 1) := by decide +kernel
theorem dX11_weighted_33 : decode cX11_weighted 33 = .ok (.getfield 13, 3) := by decide +kernel
theorem dX11_weighted_36 : decode cX11_weighted 36 = .ok (.iload_n 2, 1) := by decide +kernel
theorem dX11_weighted_37 : decode cX11_weighted 37 = .ok (.iaload, 1) := by decide +kernel
theorem dX11_weighted_38 : decode cX11_weighted 38 = .ok (.i2l, 1) := by decide +kernel
theorem dX11_weighted_39 : decode cX11_weighted 39 = .ok (.invokestatic 172, 3) := by decide +kernel
theorem dX11_weighted_42 : decode cX11_weighted 42 = .ok (.ldiv, 1) := by decide +kernel
theorem dX11_weighted_43 : decode cX11_weighted 43 = .ok (.lstore_n 3, 1) := by decide +kernel
theorem dX11_weighted_44 : decode cX11_weighted 44 = .ok (.aload_n 0, 1) := by decide +kernel
theorem dX11_weighted_45 : decode cX11_weighted 45 = .ok (.dup, 1) := by decide +kernel
theorem dX11_weighted_46 : decode cX11_weighted 46 = .ok (.getfield 207, 3) := by decide +kernel
theorem dX11_weighted_49 : decode cX11_weighted 49 = .ok (.lload_n 3, 1) := by decide +kernel
theorem dX11_weighted_50 : decode cX11_weighted 50 = .ok (.aload_n 0, 1) := by decide +kernel
theorem dX11_weighted_51 : decode cX11_weighted 51 = .ok (.iload_n 2, 1) := by decide +kernel
theorem dX11_weighted_52 : decode cX11_weighted 52 = .ok (.iload_n 1, 1) := by decide +kernel
theorem dX11_weighted_53 : decode cX11_weighted 53 = .ok (.invokevirtual 164, 3) := by decide +kernel
theorem dX11_weighted_56 : decode cX11_weighted 56 = .ok (.lmul, 1) := by decide +kernel
theorem dX11_weighted_57 : decode cX11_weighted 57 = .ok (.ladd, 1) := by decide +kernel
theorem dX11_weighted_58 : decode cX11_weighted 58 = .ok (.putfield 207, 3) := by decide +kernel
theorem dX11_weighted_61 : decode cX11_weighted 61 = .ok (.aload_n 0, 1) := by decide +kernel
theorem dX11_weighted_62 : decode cX11_weighted 62 = .ok (.dup, 1) := by decide +kernel
theorem dX11_weighted_63 : decode cX11_weighted 63 = .ok (.getfield 210, 3) := by decide +kernel
theorem dX11_weighted_66 : decode cX11_weighted 66 = .ok (.lload_n 3, 1) := by decide +kernel
theorem dX11_weighted_67 : decode cX11_weighted 67 = .ok (.ladd, 1) := by decide +kernel
theorem dX11_weighted_68 : decode cX11_weighted 68 = .ok (.putfield 210, 3) := by decide +kernel
theorem dX11_weighted_71 : decode cX11_weighted 71 = .ok (.iinc 2 1, 3) := by decide +kernel
theorem dX11_weighted_74 : decode cX11_weighted 74 = .ok (.goto (-62), 3) := by decide +kernel
theorem dX11_weighted_77 : decode cX11_weighted 77 = .ok (.return_, 1) := by decide +kernel
def wX11_weighted_12 (post : Sto → Prop)  (K77 : Sto → Prop) : Nat → Int32 → Int32 → Sto → Prop
  | 0, _, _, _ => False
  | n + 1, x1, x2, σ => (((σ.1 67 1) ≤ x2) → (K77  σ)) ∧ ((¬ ((σ.1 67 1) ≤ x2)) → (wX11_takes  x2 x1 σ (fun (r23 : Bool) (s23 : Sto) => ((r23 = false) → (wX11_weighted_12 post  K77 n x1 (x2 + (1 : Int32)) s23)) ∧ ((r23 = true) → (vp_in x2 14 ∧ (wX11_square  ((s23.1 69 x2.toNatClampNeg).toInt64) s23 (fun (r39 : Int64) (s39 : Sto) => (¬ r39 = 0) ∧ (wX11_toldOf  x2 x1 s39 (fun (r53 : Int64) (s53 : Sto) => wX11_weighted_12 post  K77 n x1 (x2 + (1 : Int32)) (wL (wL s53 67 25 ((s39.2 67 25) + ((((100000000 : Int64)) / r39) * r53))) 67 26 ((s53.2 67 26) + (((100000000 : Int64)) / r39))))))))))))
set_option maxRecDepth 100000 in
set_option maxHeartbeats 4000000 in
theorem vX11_weighted_12 (E : Ev) (post : Sto → Prop)   (K77 : Sto → Prop) (HK77 : ∀  (σ : Sto), K77  σ → V E 6 mX11_weighted (pV post) 77 [] [] σ) : ∀ (n : Nat) (x1 : Int32) (x2 : Int32) (σ : Sto), wX11_weighted_12 post  K77 n x1 x2 σ → V E 6 mX11_weighted (pV post) 12 [(0, .ref 67), (1, .int x1), (2, .int x2)] [] σ := by
  intro n
  induction n with
  | zero => intro x1 x2 σ h; exact h.elim
  | succ n ih =>
    intro x1 x2 σ h
    unfold wX11_weighted_12 at h
    refine V_iload_n (pc := 12) 2 dX11_weighted_12 rfl ?_
    refine V_aload_n (pc := 13) 0 dX11_weighted_13 rfl ?_
    refine V_getI (pc := 14) dX11_weighted_14 fl_X11_101 sh_67 rfl ?_
    refine V_icmp_ge (pc := 17) (tgt := 77) dX11_weighted_17 (by decide) (fun hc => ?_) (fun hc => ?_)
    · replace h := h.1 hc
      exact V_loc [] rfl (HK77  σ  h)
    · replace h := h.2 hc
      refine V_aload_n (pc := 20) 0 dX11_weighted_20 rfl ?_
      refine V_iload_n (pc := 21) 2 dX11_weighted_21 rfl ?_
      refine V_iload_n (pc := 22) 1 dX11_weighted_22 rfl ?_
      refine V_callV (pc := 23) (M' := mX11_takes) dX11_weighted_23 ml_X11_160 kv_X11_takes ko_X11_takes sh_67 (by decide) (by decide) rfl rfl (Nat.le_of_ble_eq_true rfl) (Nat.le_of_ble_eq_true rfl) (vX11_takes E  x2 x1 σ _  h) (kB (fun r23 s23 h => ?_))
      refine V_ifz (pc := 26) (tgt := 71) dX11_weighted_26 (by decide) (fun hc => ?_) (fun hc => ?_)
      · replace h := h.1 hc
        refine V_iinc (pc := 71) 2 (v := 1) dX11_weighted_71 rfl (by decide) (by decide) ?_
        refine V_goto (pc := 74) (tgt := 12) dX11_weighted_74 (by decide) ?_
        exact V_loc [1, 2, 0] rfl (ih x1 (x2 + (1 : Int32)) s23  h)
      · replace h := h.2 hc
        refine V_ldc2 (pc := 29) dX11_weighted_29 cl_X11_220 ?_
        refine V_aload_n (pc := 32) 0 dX11_weighted_32 rfl ?_
        refine V_getR (pc := 33) dX11_weighted_33 fl_X11_13 sh_67 rfl ?_
        refine V_iload_n (pc := 36) 2 dX11_weighted_36 rfl ?_
        obtain ⟨i37, h⟩ := h
        refine V_iald (pc := 37) dX11_weighted_37 sh_69 i37 ?_
        refine V_i2l (pc := 38) dX11_weighted_38 ?_
        refine V_callS (pc := 39) (M' := mX11_square) dX11_weighted_39 ml_X11_172 ks_X11_square ko_X11_square (by decide) rfl (Nat.le_of_ble_eq_true rfl) (Nat.le_of_ble_eq_true rfl) (vX11_square E  ((s23.1 69 x2.toNatClampNeg).toInt64) s23 _  h) (kL (fun r39 s39 h => ?_))
        obtain ⟨z42, h⟩ := h
        refine V_ldiv (pc := 42) dX11_weighted_42 z42 ?_
        refine V_lstore_n (pc := 43) dX11_weighted_43 (by decide) ?_
        refine V_aload_n (pc := 44) 1 dX11_weighted_44 rfl ?_
        refine V_dup (pc := 45) dX11_weighted_45 rfl ?_
        refine V_getL (pc := 46) dX11_weighted_46 fl_X11_207 sh_67 rfl ?_
        refine V_lload_n (pc := 49) 0 dX11_weighted_49 rfl ?_
        refine V_aload_n (pc := 50) 1 dX11_weighted_50 rfl ?_
        refine V_iload_n (pc := 51) 3 dX11_weighted_51 rfl ?_
        refine V_iload_n (pc := 52) 2 dX11_weighted_52 rfl ?_
        refine V_callV (pc := 53) (M' := mX11_toldOf) dX11_weighted_53 ml_X11_164 kv_X11_toldOf ko_X11_toldOf sh_67 (by decide) (by decide) rfl rfl (Nat.le_of_ble_eq_true rfl) (Nat.le_of_ble_eq_true rfl) (vX11_toldOf E  x2 x1 s39 _  h) (kL (fun r53 s53 h => ?_))
        refine V_lmul (pc := 56) dX11_weighted_56 ?_
        refine V_ladd (pc := 57) dX11_weighted_57 ?_
        refine V_putL (pc := 58) dX11_weighted_58 fl_X11_207 po_X11_25 sh_67 rfl rfl rfl ?_
        refine V_aload_n (pc := 61) 1 dX11_weighted_61 rfl ?_
        refine V_dup (pc := 62) dX11_weighted_62 rfl ?_
        refine V_getL (pc := 63) dX11_weighted_63 fl_X11_210 sh_67 rfl ?_
        refine V_lload_n (pc := 66) 0 dX11_weighted_66 rfl ?_
        refine V_ladd (pc := 67) dX11_weighted_67 ?_
        refine V_putL (pc := 68) dX11_weighted_68 fl_X11_210 po_X11_26 sh_67 rfl rfl rfl ?_
        refine V_iinc (pc := 71) 3 (v := 1) dX11_weighted_71 rfl (by decide) (by decide) ?_
        refine V_goto (pc := 74) (tgt := 12) dX11_weighted_74 (by decide) ?_
        exact V_loc [2, 3, 0] rfl (ih x1 (x2 + (1 : Int32)) (wL (wL s53 67 25 ((s39.2 67 25) + ((((100000000 : Int64)) / r39) * r53))) 67 26 ((s53.2 67 26) + (((100000000 : Int64)) / r39)))  h)
def wX11_weighted  (x1 : Int32) (σ : Sto) (post : Sto → Prop) : Prop := ∃ n12, wX11_weighted_12 post  (fun  (σ_1 : Sto) => post σ_1) n12 x1 ((0 : Int32)) (wL (wL σ 67 25 ((0 : Int64))) 67 26 ((0 : Int64)))
set_option maxRecDepth 100000 in
set_option maxHeartbeats 4000000 in
theorem vX11_weighted (E : Ev)  (x1 : Int32) (σ : Sto) (post : Sto → Prop)  (h : wX11_weighted  x1 σ post) : V E 6 mX11_weighted (pV post) 0 [(0, .ref 67), (1, .int x1)] [] σ := by
  unfold wX11_weighted at h
  refine V_aload_n (pc := 0) 0 dX11_weighted_0 rfl ?_
  refine V_lconst (pc := 1) (v := 0) dX11_weighted_1 (by decide) ?_
  refine V_putL (pc := 2) dX11_weighted_2 fl_X11_207 po_X11_25 sh_67 rfl rfl rfl ?_
  refine V_aload_n (pc := 5) 0 dX11_weighted_5 rfl ?_
  refine V_lconst (pc := 6) (v := 0) dX11_weighted_6 (by decide) ?_
  refine V_putL (pc := 7) dX11_weighted_7 fl_X11_210 po_X11_26 sh_67 rfl rfl rfl ?_
  refine V_iconst (pc := 10) (v := 0) dX11_weighted_10 (by decide) ?_
  refine V_istore_n (pc := 11) dX11_weighted_11 (by decide) ?_
  obtain ⟨n12, h⟩ := h
  refine V_loc [1, 2, 0] rfl (vX11_weighted_12 E post   _ (fun σ_1 h => ?_) n12 x1 ((0 : Int32)) (wL (wL σ 67 25 ((0 : Int64))) 67 26 ((0 : Int64)))  h)
  · exact V_vret dX11_weighted_77 rfl h
theorem dX11_root_0 : decode cX11_root 0 = .ok (.lconst 0, 1) := by decide +kernel
theorem dX11_root_1 : decode cX11_root 1 = .ok (.lstore_n 2, 1) := by decide +kernel
theorem dX11_root_2 : decode cX11_root 2 = .ok (.ldc2_w 222, 3) := by decide +kernel
theorem dX11_root_5 : decode cX11_root 5 = .ok (.lstore 4, 2) := by decide +kernel
theorem dX11_root_7 : decode cX11_root 7 = .ok (.lload_n 2, 1) := by decide +kernel
theorem dX11_root_8 : decode cX11_root 8 = .ok (.lload 4, 2) := by decide +kernel
theorem dX11_root_10 : decode cX11_root 10 = .ok (.lcmp, 1) := by decide +kernel
theorem dX11_root_11 : decode cX11_root 11 = .ok (.ifCond .ge 40, 3) := by decide +kernel
theorem dX11_root_14 : decode cX11_root 14 = .ok (.lload_n 2, 1) := by decide +kernel
theorem dX11_root_15 : decode cX11_root 15 = .ok (.lload 4, 2) := by decide +kernel
theorem dX11_root_17 : decode cX11_root 17 = .ok (.ladd, 1) := by decide +kernel
theorem dX11_root_18 : decode cX11_root 18 = .ok (.lconst 1, 1) := by decide +kernel
theorem dX11_root_19 : decode cX11_root 19 = .ok (.ladd, 1) := by decide +kernel
theorem dX11_root_20 : decode cX11_root 20 = .ok (.ldc2_w 88, 3) := by decide +kernel
theorem dX11_root_23 : decode cX11_root 23 = .ok (.ldiv, 1) := by decide +kernel
theorem dX11_root_24 : decode cX11_root 24 = .ok (.lstore 6, 2) := by decide +kernel
theorem dX11_root_26 : decode cX11_root 26 = .ok (.lload 6, 2) := by decide +kernel
theorem dX11_root_28 : decode cX11_root 28 = .ok (.lload 6, 2) := by decide +kernel
theorem dX11_root_30 : decode cX11_root 30 = .ok (.lmul, 1) := by decide +kernel
theorem dX11_root_31 : decode cX11_root 31 = .ok (.lload_n 0, 1) := by decide +kernel
theorem dX11_root_32 : decode cX11_root 32 = .ok (.lcmp, 1) := by decide +kernel
theorem dX11_root_33 : decode cX11_root 33 = .ok (.ifCond .gt 9, 3) := by decide +kernel
theorem dX11_root_36 : decode cX11_root 36 = .ok (.lload 6, 2) := by decide +kernel
theorem dX11_root_38 : decode cX11_root 38 = .ok (.lstore_n 2, 1) := by decide +kernel
theorem dX11_root_39 : decode cX11_root 39 = .ok (.goto 9, 3) := by decide +kernel
theorem dX11_root_42 : decode cX11_root 42 = .ok (.lload 6, 2) := by decide +kernel
theorem dX11_root_44 : decode cX11_root 44 = .ok (.lconst 1, 1) := by decide +kernel
theorem dX11_root_45 : decode cX11_root 45 = .ok (.lsub, 1) := by decide +kernel
theorem dX11_root_46 : decode cX11_root 46 = .ok (.lstore 4, 2) := by decide +kernel
theorem dX11_root_48 : decode cX11_root 48 = .ok (.goto (-41), 3) := by decide +kernel
theorem dX11_root_51 : decode cX11_root 51 = .ok (.lload_n 2, 1) := by decide +kernel
theorem dX11_root_52 : decode cX11_root 52 = .ok (.lreturn, 1) := by decide +kernel
def wX11_root_7 (post : Int64 → Sto → Prop)  (K51 : Int64 → Sto → Prop) : Nat → Int64 → Int64 → Int64 → Sto → Prop
  | 0, _, _, _, _ => False
  | n + 1, x0, x2, x4, σ => ((x4 ≤ x2) → (K51 x2 σ)) ∧ ((¬ (x4 ≤ x2)) → (((x0 < ((((x2 + x4) + ((1 : Int64))) / ((2 : Int64))) * (((x2 + x4) + ((1 : Int64))) / ((2 : Int64))))) → (wX11_root_7 post  K51 n x0 x2 ((((x2 + x4) + ((1 : Int64))) / ((2 : Int64))) - ((1 : Int64))) σ)) ∧ ((¬ (x0 < ((((x2 + x4) + ((1 : Int64))) / ((2 : Int64))) * (((x2 + x4) + ((1 : Int64))) / ((2 : Int64)))))) → (wX11_root_7 post  K51 n x0 (((x2 + x4) + ((1 : Int64))) / ((2 : Int64))) x4 σ))))
set_option maxRecDepth 100000 in
set_option maxHeartbeats 4000000 in
theorem vX11_root_7 (E : Ev) (post : Int64 → Sto → Prop)   (K51 : Int64 → Sto → Prop) (HK51 : ∀ (x2 : Int64) (σ : Sto), K51 x2 σ → V E 0 mX11_root (pL post) 51 [(2, .long x2)] [] σ) : ∀ (n : Nat) (x0 : Int64) (x2 : Int64) (x4 : Int64) (σ : Sto), wX11_root_7 post  K51 n x0 x2 x4 σ → V E 0 mX11_root (pL post) 7 [(0, .long x0), (2, .long x2), (4, .long x4)] [] σ := by
  intro n
  induction n with
  | zero => intro x0 x2 x4 σ h; exact h.elim
  | succ n ih =>
    intro x0 x2 x4 σ h
    unfold wX11_root_7 at h
    refine V_lload_n (pc := 7) 1 dX11_root_7 rfl ?_
    refine V_lload (pc := 8) 2 dX11_root_8 rfl ?_
    refine V_lc_ge (pc := 10) (tgt := 51) dX11_root_10 dX11_root_11 (by decide) (fun hc => ?_) (fun hc => ?_)
    · replace h := h.1 hc
      exact V_loc [1] rfl (HK51 x2 σ  h)
    · replace h := h.2 hc
      refine V_lload_n (pc := 14) 1 dX11_root_14 rfl ?_
      refine V_lload (pc := 15) 2 dX11_root_15 rfl ?_
      refine V_ladd (pc := 17) dX11_root_17 ?_
      refine V_lconst (pc := 18) (v := 1) dX11_root_18 (by decide) ?_
      refine V_ladd (pc := 19) dX11_root_19 ?_
      refine V_ldc2 (pc := 20) dX11_root_20 cl_X11_88 ?_
      refine V_ldiv (pc := 23) dX11_root_23 (by decide) ?_
      refine V_lstore (pc := 24) dX11_root_24 (by decide) ?_
      refine V_lload (pc := 26) 0 dX11_root_26 rfl ?_
      refine V_lload (pc := 28) 0 dX11_root_28 rfl ?_
      refine V_lmul (pc := 30) dX11_root_30 ?_
      refine V_lload_n (pc := 31) 1 dX11_root_31 rfl ?_
      refine V_lc_gt (pc := 32) (tgt := 42) dX11_root_32 dX11_root_33 (by decide) (fun hc => ?_) (fun hc => ?_)
      · replace h := h.1 hc
        refine V_lload (pc := 42) 0 dX11_root_42 rfl ?_
        refine V_lconst (pc := 44) (v := 1) dX11_root_44 (by decide) ?_
        refine V_lsub (pc := 45) dX11_root_45 ?_
        refine V_lstore (pc := 46) dX11_root_46 (by decide) ?_
        refine V_goto (pc := 48) (tgt := 7) dX11_root_48 (by decide) ?_
        exact V_loc [2, 3, 0] rfl (ih x0 x2 ((((x2 + x4) + ((1 : Int64))) / ((2 : Int64))) - ((1 : Int64))) σ  h)
      · replace h := h.2 hc
        refine V_lload (pc := 36) 0 dX11_root_36 rfl ?_
        refine V_lstore_n (pc := 38) dX11_root_38 (by decide) ?_
        refine V_goto (pc := 39) (tgt := 48) dX11_root_39 (by decide) ?_
        refine V_goto (pc := 48) (tgt := 7) dX11_root_48 (by decide) ?_
        exact V_loc [2, 0, 3] rfl (ih x0 (((x2 + x4) + ((1 : Int64))) / ((2 : Int64))) x4 σ  h)
def wX11_root  (x0 : Int64) (σ : Sto) (post : Int64 → Sto → Prop) : Prop := ∃ n7, wX11_root_7 post  (fun (x2_1 : Int64) (σ_1 : Sto) => post x2_1 σ_1) n7 x0 ((0 : Int64)) ((3000000000 : Int64)) σ
set_option maxRecDepth 100000 in
set_option maxHeartbeats 4000000 in
theorem vX11_root (E : Ev)  (x0 : Int64) (σ : Sto) (post : Int64 → Sto → Prop)  (h : wX11_root  x0 σ post) : V E 0 mX11_root (pL post) 0 [(0, .long x0)] [] σ := by
  unfold wX11_root at h
  refine V_lconst (pc := 0) (v := 0) dX11_root_0 (by decide) ?_
  refine V_lstore_n (pc := 1) dX11_root_1 (by decide) ?_
  refine V_ldc2 (pc := 2) dX11_root_2 cl_X11_222 ?_
  refine V_lstore (pc := 5) dX11_root_5 (by decide) ?_
  obtain ⟨n7, h⟩ := h
  refine V_loc [2, 1, 0] rfl (vX11_root_7 E post   _ (fun x2_1 σ_1 h => ?_) n7 x0 ((0 : Int64)) ((3000000000 : Int64)) σ  h)
  · refine V_lload_n (pc := 51) 0 dX11_root_51 rfl ?_
    exact V_lret dX11_root_52 rfl h
theorem dX11_clipped_0 : decode cX11_clipped 0 = .ok (.lload_n 0, 1) := by decide +kernel
theorem dX11_clipped_1 : decode cX11_clipped 1 = .ok (.lload_n 2, 1) := by decide +kernel
theorem dX11_clipped_2 : decode cX11_clipped 2 = .ok (.lcmp, 1) := by decide +kernel
theorem dX11_clipped_3 : decode cX11_clipped 3 = .ok (.ifCond .ge 7, 3) := by decide +kernel
theorem dX11_clipped_6 : decode cX11_clipped 6 = .ok (.lload_n 2, 1) := by decide +kernel
theorem dX11_clipped_7 : decode cX11_clipped 7 = .ok (.goto 16, 3) := by decide +kernel
theorem dX11_clipped_10 : decode cX11_clipped 10 = .ok (.lload_n 0, 1) := by decide +kernel
theorem dX11_clipped_11 : decode cX11_clipped 11 = .ok (.lload 4, 2) := by decide +kernel
theorem dX11_clipped_13 : decode cX11_clipped 13 = .ok (.lcmp, 1) := by decide +kernel
theorem dX11_clipped_14 : decode cX11_clipped 14 = .ok (.ifCond .le 8, 3) := by decide +kernel
theorem dX11_clipped_17 : decode cX11_clipped 17 = .ok (.lload 4, 2) := by decide +kernel
theorem dX11_clipped_19 : decode cX11_clipped 19 = .ok (.goto 4, 3) := by decide +kernel
theorem dX11_clipped_22 : decode cX11_clipped 22 = .ok (.lload_n 0, 1) := by decide +kernel
theorem dX11_clipped_23 : decode cX11_clipped 23 = .ok (.lreturn, 1) := by decide +kernel
def wX11_clipped  (x0 : Int64) (x2 : Int64) (x4 : Int64) (σ : Sto) (post : Int64 → Sto → Prop) : Prop := ((x2 ≤ x0) → (((x0 ≤ x4) → (post x0 σ)) ∧ ((¬ (x0 ≤ x4)) → (post x4 σ)))) ∧ ((¬ (x2 ≤ x0)) → (post x2 σ))
set_option maxRecDepth 100000 in
set_option maxHeartbeats 4000000 in
theorem vX11_clipped (E : Ev)  (x0 : Int64) (x2 : Int64) (x4 : Int64) (σ : Sto) (post : Int64 → Sto → Prop)  (h : wX11_clipped  x0 x2 x4 σ post) : V E 0 mX11_clipped (pL post) 0 [(0, .long x0), (2, .long x2), (4, .long x4)] [] σ := by
  unfold wX11_clipped at h
  refine V_lload_n (pc := 0) 0 dX11_clipped_0 rfl ?_
  refine V_lload_n (pc := 1) 1 dX11_clipped_1 rfl ?_
  refine V_lc_ge (pc := 2) (tgt := 10) dX11_clipped_2 dX11_clipped_3 (by decide) (fun hc => ?_) (fun hc => ?_)
  · replace h := h.1 hc
    refine V_lload_n (pc := 10) 0 dX11_clipped_10 rfl ?_
    refine V_lload (pc := 11) 2 dX11_clipped_11 rfl ?_
    refine V_lc_le (pc := 13) (tgt := 22) dX11_clipped_13 dX11_clipped_14 (by decide) (fun hc => ?_) (fun hc => ?_)
    · replace h := h.1 hc
      refine V_lload_n (pc := 22) 0 dX11_clipped_22 rfl ?_
      exact V_lret dX11_clipped_23 rfl h
    · replace h := h.2 hc
      refine V_lload (pc := 17) 2 dX11_clipped_17 rfl ?_
      refine V_goto (pc := 19) (tgt := 23) dX11_clipped_19 (by decide) ?_
      exact V_lret dX11_clipped_23 rfl h
  · replace h := h.2 hc
    refine V_lload_n (pc := 6) 1 dX11_clipped_6 rfl ?_
    refine V_goto (pc := 7) (tgt := 23) dX11_clipped_7 (by decide) ?_
    exact V_lret dX11_clipped_23 rfl h
theorem dX11_steps_0 : decode cX11_steps 0 = .ok (.aload_n 0, 1) := by decide +kernel
theorem dX11_steps_1 : decode cX11_steps 1 = .ok (.iload_n 1, 1) := by decide +kernel
theorem dX11_steps_2 : decode cX11_steps 2 = .ok (.invokevirtual 224, 3) := by decide +kernel
theorem dX11_steps_5 : decode cX11_steps 5 = .ok (.aload_n 0, 1) := by decide +kernel
theorem dX11_steps_6 : decode cX11_steps 6 = .ok (.invokevirtual 217, 3) := by decide +kernel
theorem dX11_steps_9 : decode cX11_steps 9 = .ok (.aload_n 0, 1) := by decide +kernel
theorem dX11_steps_10 : decode cX11_steps 10 = .ok (.getfield 207, 3) := by decide +kernel
theorem dX11_steps_13 : decode cX11_steps 13 = .ok (.aload_n 0, 1) := by decide +kernel
theorem dX11_steps_14 : decode cX11_steps 14 = .ok (.getfield 210, 3) := by decide +kernel
theorem dX11_steps_17 : decode cX11_steps 17 = .ok (.invokestatic 90, 3) := by decide +kernel
theorem dX11_steps_20 : decode cX11_steps 20 = .ok (.lstore_n 2, 1) := by decide +kernel
theorem dX11_steps_21 : decode cX11_steps 21 = .ok (.aload_n 0, 1) := by decide +kernel
theorem dX11_steps_22 : decode cX11_steps 22 = .ok (.iconst 0, 1) := by decide +kernel
theorem dX11_steps_23 : decode cX11_steps 23 = .ok (.putfield 204, 3) := by decide +kernel
theorem dX11_steps_26 : decode cX11_steps 26 = .ok (.iconst 0, 1) := by decide +kernel
theorem dX11_steps_27 : decode cX11_steps 27 = .ok (.istore 4, 2) := by decide +kernel
theorem dX11_steps_29 : decode cX11_steps 29 = .ok (.iload 4, 2) := by decide +kernel
theorem dX11_steps_31 : decode cX11_steps 31 = .ok (.aload_n 0, 1) := by decide +kernel
theorem dX11_steps_32 : decode cX11_steps 32 = .ok (.getfield 101, 3) := by decide +kernel
theorem dX11_steps_35 : decode cX11_steps 35 = .ok (.if_icmp .ge 35, 3) := by decide +kernel
theorem dX11_steps_38 : decode cX11_steps 38 = .ok (.aload_n 0, 1) := by decide +kernel
theorem dX11_steps_39 : decode cX11_steps 39 = .ok (.iload 4, 2) := by decide +kernel
theorem dX11_steps_41 : decode cX11_steps 41 = .ok (.iload_n 1, 1) := by decide +kernel
theorem dX11_steps_42 : decode cX11_steps 42 = .ok (.invokevirtual 160, 3) := by decide +kernel
theorem dX11_steps_45 : decode cX11_steps 45 = .ok (.ifCond .eq 19, 3) := by decide +kernel
theorem dX11_steps_48 : decode cX11_steps 48 = .ok (.aload_n 0, 1) := by decide +kernel
theorem dX11_steps_49 : decode cX11_steps 49 = .ok (.aload_n 0, 1) := by decide +kernel
theorem dX11_steps_50 : decode cX11_steps 50 = .ok (.iload 4, 2) := by decide +kernel
theorem dX11_steps_52 : decode cX11_steps 52 = .ok (.iload_n 1, 1) := by decide +kernel
theorem dX11_steps_53 : decode cX11_steps 53 = .ok (.invokevirtual 164, 3) := by decide +kernel
theorem dX11_steps_56 : decode cX11_steps 56 = .ok (.lload_n 2, 1) := by decide +kernel
theorem dX11_steps_57 : decode cX11_steps 57 = .ok (.lsub, 1) := by decide +kernel
theorem dX11_steps_58 : decode cX11_steps 58 = .ok (.invokestatic 94, 3) := by decide +kernel
theorem dX11_steps_61 : decode cX11_steps 61 = .ok (.invokevirtual 213, 3) := by decide +kernel
theorem dX11_steps_64 : decode cX11_steps 64 = .ok (.iinc 4 1, 3) := by decide +kernel
theorem dX11_steps_67 : decode cX11_steps 67 = .ok (.goto (-38), 3) := by decide +kernel
theorem dX11_steps_70 : decode cX11_steps 70 = .ok (.aload_n 0, 1) := by decide +kernel
theorem dX11_steps_71 : decode cX11_steps 71 = .ok (.invokevirtual 217, 3) := by decide +kernel
theorem dX11_steps_74 : decode cX11_steps 74 = .ok (.aload_n 0, 1) := by decide +kernel
theorem dX11_steps_75 : decode cX11_steps 75 = .ok (.getfield 207, 3) := by decide +kernel
theorem dX11_steps_78 : decode cX11_steps 78 = .ok (.ldc2_w 227, 3) := by decide +kernel
theorem dX11_steps_81 : decode cX11_steps 81 = .ok (.lmul, 1) := by decide +kernel
theorem dX11_steps_82 : decode cX11_steps 82 = .ok (.aload_n 0, 1) := by decide +kernel
theorem dX11_steps_83 : decode cX11_steps 83 = .ok (.getfield 210, 3) := by decide +kernel
theorem dX11_steps_86 : decode cX11_steps 86 = .ok (.ldc2_w 139, 3) := by decide +kernel
theorem dX11_steps_89 : decode cX11_steps 89 = .ok (.lmul, 1) := by decide +kernel
theorem dX11_steps_90 : decode cX11_steps 90 = .ok (.ldiv, 1) := by decide +kernel
theorem dX11_steps_91 : decode cX11_steps 91 = .ok (.lstore 4, 2) := by decide +kernel
theorem dX11_steps_93 : decode cX11_steps 93 = .ok (.aload_n 0, 1) := by decide +kernel
theorem dX11_steps_94 : decode cX11_steps 94 = .ok (.getfield 204, 3) := by decide +kernel
theorem dX11_steps_97 : decode cX11_steps 97 = .ok (.i2l, 1) := by decide +kernel
theorem dX11_steps_98 : decode cX11_steps 98 = .ok (.lstore 6, 2) := by decide +kernel
theorem dX11_steps_100 : decode cX11_steps 100 = .ok (.iconst 0, 1) := by decide +kernel
theorem dX11_steps_101 : decode cX11_steps 101 = .ok (.istore 8, 2) := by decide +kernel
theorem dX11_steps_103 : decode cX11_steps 103 = .ok (.iload 8, 2) := by decide +kernel
theorem dX11_steps_105 : decode cX11_steps 105 = .ok (.bipush 10, 2) := by decide +kernel
theorem dX11_steps_107 : decode cX11_steps 107 = .ok (.if_icmp .ge 189, 3) := by decide +kernel
theorem dX11_steps_110 : decode cX11_steps 110 = .ok (.lload_n 2, 1) := by decide +kernel
theorem dX11_steps_111 : decode cX11_steps 111 = .ok (.ldc2_w 229, 3) := by decide +kernel
theorem dX11_steps_114 : decode cX11_steps 114 = .ok (.lload 4, 2) := by decide +kernel
theorem dX11_steps_116 : decode cX11_steps 116 = .ok (.lmul, 1) := by decide +kernel
theorem dX11_steps_117 : decode cX11_steps 117 = .ok (.ldc2_w 88, 3) := by decide +kernel
theorem dX11_steps_120 : decode cX11_steps 120 = .ok (.ldiv, 1) := by decide +kernel
theorem dX11_steps_121 : decode cX11_steps 121 = .ok (.lsub, 1) := by decide +kernel
theorem dX11_steps_122 : decode cX11_steps 122 = .ok (.lstore 9, 2) := by decide +kernel
theorem dX11_steps_124 : decode cX11_steps 124 = .ok (.lload_n 2, 1) := by decide +kernel
theorem dX11_steps_125 : decode cX11_steps 125 = .ok (.ldc2_w 229, 3) := by decide +kernel
theorem dX11_steps_128 : decode cX11_steps 128 = .ok (.lload 4, 2) := by decide +kernel
theorem dX11_steps_130 : decode cX11_steps 130 = .ok (.lmul, 1) := by decide +kernel
theorem dX11_steps_131 : decode cX11_steps 131 = .ok (.ldc2_w 88, 3) := by decide +kernel
theorem dX11_steps_134 : decode cX11_steps 134 = .ok (.ldiv, 1) := by decide +kernel
theorem dX11_steps_135 : decode cX11_steps 135 = .ok (.ladd, 1) := by decide +kernel
theorem dX11_steps_136 : decode cX11_steps 136 = .ok (.lstore 11, 2) := by decide +kernel
theorem dX11_steps_138 : decode cX11_steps 138 = .ok (.lconst 0, 1) := by decide +kernel
theorem dX11_steps_139 : decode cX11_steps 139 = .ok (.lstore 13, 2) := by decide +kernel
theorem dX11_steps_141 : decode cX11_steps 141 = .ok (.iconst 0, 1) := by decide +kernel
theorem dX11_steps_142 : decode cX11_steps 142 = .ok (.istore 15, 2) := by decide +kernel
theorem dX11_steps_144 : decode cX11_steps 144 = .ok (.iload 15, 2) := by decide +kernel
theorem dX11_steps_146 : decode cX11_steps 146 = .ok (.aload_n 0, 1) := by decide +kernel
theorem dX11_steps_147 : decode cX11_steps 147 = .ok (.getfield 101, 3) := by decide +kernel
theorem dX11_steps_150 : decode cX11_steps 150 = .ok (.if_icmp .ge 42, 3) := by decide +kernel
theorem dX11_steps_153 : decode cX11_steps 153 = .ok (.lload 13, 2) := by decide +kernel
theorem dX11_steps_155 : decode cX11_steps 155 = .ok (.aload_n 0, 1) := by decide +kernel
theorem dX11_steps_156 : decode cX11_steps 156 = .ok (.iload 15, 2) := by decide +kernel
theorem dX11_steps_158 : decode cX11_steps 158 = .ok (.iload_n 1, 1) := by decide +kernel
theorem dX11_steps_159 : decode cX11_steps 159 = .ok (.invokevirtual 160, 3) := by decide +kernel
theorem dX11_steps_162 : decode cX11_steps 162 = .ok (.ifCond .eq 20, 3) := by decide +kernel
theorem dX11_steps_165 : decode cX11_steps 165 = .ok (.aload_n 0, 1) := by decide +kernel
theorem dX11_steps_166 : decode cX11_steps 166 = .ok (.iload 15, 2) := by decide +kernel
theorem dX11_steps_168 : decode cX11_steps 168 = .ok (.iload_n 1, 1) := by decide +kernel
theorem dX11_steps_169 : decode cX11_steps 169 = .ok (.invokevirtual 164, 3) := by decide +kernel
theorem dX11_steps_172 : decode cX11_steps 172 = .ok (.lload 9, 2) := by decide +kernel
theorem dX11_steps_174 : decode cX11_steps 174 = .ok (.lload 11, 2) := by decide +kernel
theorem dX11_steps_176 : decode cX11_steps 176 = .ok (.invokestatic 231, 3) := by decide +kernel
theorem dX11_steps_179 : decode cX11_steps 179 = .ok (.goto 4, 3) := by decide +kernel
theorem dX11_steps_182 : decode cX11_steps 182 = .ok (.lconst 0, 1) := by decide +kernel
theorem dX11_steps_183 : decode cX11_steps 183 = .ok (.ladd, 1) := by decide +kernel
theorem dX11_steps_184 : decode cX11_steps 184 = .ok (.lstore 13, 2) := by decide +kernel
theorem dX11_steps_186 : decode cX11_steps 186 = .ok (.iinc 15 1, 3) := by decide +kernel
theorem dX11_steps_189 : decode cX11_steps 189 = .ok (.goto (-45), 3) := by decide +kernel
theorem dX11_steps_192 : decode cX11_steps 192 = .ok (.lload 13, 2) := by decide +kernel
theorem dX11_steps_194 : decode cX11_steps 194 = .ok (.lload 6, 2) := by decide +kernel
theorem dX11_steps_196 : decode cX11_steps 196 = .ok (.invokestatic 90, 3) := by decide +kernel
theorem dX11_steps_199 : decode cX11_steps 199 = .ok (.lstore_n 2, 1) := by decide +kernel
theorem dX11_steps_200 : decode cX11_steps 200 = .ok (.lconst 0, 1) := by decide +kernel
theorem dX11_steps_201 : decode cX11_steps 201 = .ok (.lstore 15, 2) := by decide +kernel
theorem dX11_steps_203 : decode cX11_steps 203 = .ok (.iconst 0, 1) := by decide +kernel
theorem dX11_steps_204 : decode cX11_steps 204 = .ok (.istore 17, 2) := by decide +kernel
theorem dX11_steps_206 : decode cX11_steps 206 = .ok (.iload 17, 2) := by decide +kernel
theorem dX11_steps_208 : decode cX11_steps 208 = .ok (.aload_n 0, 1) := by decide +kernel
theorem dX11_steps_209 : decode cX11_steps 209 = .ok (.getfield 101, 3) := by decide +kernel
theorem dX11_steps_212 : decode cX11_steps 212 = .ok (.if_icmp .ge 47, 3) := by decide +kernel
theorem dX11_steps_215 : decode cX11_steps 215 = .ok (.lload 15, 2) := by decide +kernel
theorem dX11_steps_217 : decode cX11_steps 217 = .ok (.aload_n 0, 1) := by decide +kernel
theorem dX11_steps_218 : decode cX11_steps 218 = .ok (.iload 17, 2) := by decide +kernel
theorem dX11_steps_220 : decode cX11_steps 220 = .ok (.iload_n 1, 1) := by decide +kernel
theorem dX11_steps_221 : decode cX11_steps 221 = .ok (.invokevirtual 160, 3) := by decide +kernel
theorem dX11_steps_224 : decode cX11_steps 224 = .ok (.ifCond .eq 25, 3) := by decide +kernel
theorem dX11_steps_227 : decode cX11_steps 227 = .ok (.aload_n 0, 1) := by decide +kernel
theorem dX11_steps_228 : decode cX11_steps 228 = .ok (.iload 17, 2) := by decide +kernel
theorem dX11_steps_230 : decode cX11_steps 230 = .ok (.iload_n 1, 1) := by decide +kernel
theorem dX11_steps_231 : decode cX11_steps 231 = .ok (.invokevirtual 164, 3) := by decide +kernel
theorem dX11_steps_234 : decode cX11_steps 234 = .ok (.lload 9, 2) := by decide +kernel
theorem dX11_steps_236 : decode cX11_steps 236 = .ok (.lload 11, 2) := by decide +kernel
theorem dX11_steps_238 : decode cX11_steps 238 = .ok (.invokestatic 231, 3) := by decide +kernel
theorem dX11_steps_241 : decode cX11_steps 241 = .ok (.lload_n 2, 1) := by decide +kernel
theorem dX11_steps_242 : decode cX11_steps 242 = .ok (.lsub, 1) := by decide +kernel
theorem dX11_steps_243 : decode cX11_steps 243 = .ok (.invokestatic 172, 3) := by decide +kernel
theorem dX11_steps_246 : decode cX11_steps 246 = .ok (.goto 4, 3) := by decide +kernel
theorem dX11_steps_249 : decode cX11_steps 249 = .ok (.lconst 0, 1) := by decide +kernel
theorem dX11_steps_250 : decode cX11_steps 250 = .ok (.ladd, 1) := by decide +kernel
theorem dX11_steps_251 : decode cX11_steps 251 = .ok (.lstore 15, 2) := by decide +kernel
theorem dX11_steps_253 : decode cX11_steps 253 = .ok (.iinc 17 1, 3) := by decide +kernel
theorem dX11_steps_256 : decode cX11_steps 256 = .ok (.goto (-50), 3) := by decide +kernel
theorem dX11_steps_259 : decode cX11_steps 259 = .ok (.lload 6, 2) := by decide +kernel
theorem dX11_steps_261 : decode cX11_steps 261 = .ok (.lconst 1, 1) := by decide +kernel
theorem dX11_steps_262 : decode cX11_steps 262 = .ok (.lcmp, 1) := by decide +kernel
theorem dX11_steps_263 : decode cX11_steps 263 = .ok (.ifCond .ne 7, 3) := by decide +kernel
theorem dX11_steps_266 : decode cX11_steps 266 = .ok (.lconst 0, 1) := by decide +kernel
theorem dX11_steps_267 : decode cX11_steps 267 = .ok (.goto 21, 3) := by decide +kernel
theorem dX11_steps_270 : decode cX11_steps 270 = .ok (.lload 15, 2) := by decide +kernel
theorem dX11_steps_272 : decode cX11_steps 272 = .ok (.lload 6, 2) := by decide +kernel
theorem dX11_steps_274 : decode cX11_steps 274 = .ok (.lconst 1, 1) := by decide +kernel
theorem dX11_steps_275 : decode cX11_steps 275 = .ok (.lsub, 1) := by decide +kernel
theorem dX11_steps_276 : decode cX11_steps 276 = .ok (.ldiv, 1) := by decide +kernel
theorem dX11_steps_277 : decode cX11_steps 277 = .ok (.ldc2_w 235, 3) := by decide +kernel
theorem dX11_steps_280 : decode cX11_steps 280 = .ok (.lmul, 1) := by decide +kernel
theorem dX11_steps_281 : decode cX11_steps 281 = .ok (.ldc2_w 139, 3) := by decide +kernel
theorem dX11_steps_284 : decode cX11_steps 284 = .ok (.ldiv, 1) := by decide +kernel
theorem dX11_steps_285 : decode cX11_steps 285 = .ok (.invokestatic 237, 3) := by decide +kernel
theorem dX11_steps_288 : decode cX11_steps 288 = .ok (.lstore 4, 2) := by decide +kernel
theorem dX11_steps_290 : decode cX11_steps 290 = .ok (.iinc 8 1, 3) := by decide +kernel
theorem dX11_steps_293 : decode cX11_steps 293 = .ok (.goto (-190), 3) := by decide +kernel
theorem dX11_steps_296 : decode cX11_steps 296 = .ok (.aload_n 0, 1) := by decide +kernel
theorem dX11_steps_297 : decode cX11_steps 297 = .ok (.lload_n 2, 1) := by decide +kernel
theorem dX11_steps_298 : decode cX11_steps 298 = .ok (.putfield 207, 3) := by decide +kernel
theorem dX11_steps_301 : decode cX11_steps 301 = .ok (.aload_n 0, 1) := by decide +kernel
theorem dX11_steps_302 : decode cX11_steps 302 = .ok (.lconst 1, 1) := by decide +kernel
theorem dX11_steps_303 : decode cX11_steps 303 = .ok (.putfield 210, 3) := by decide +kernel
theorem dX11_steps_306 : decode cX11_steps 306 = .ok (.return_, 1) := by decide +kernel
def wX11_steps_29 (post : Sto → Prop)  (K70 : Int32 → Int64 → Sto → Prop) : Nat → Int32 → Int64 → Int32 → Sto → Prop
  | 0, _, _, _, _ => False
  | n + 1, x1, x2, x4, σ => (((σ.1 67 1) ≤ x4) → (K70 x1 x2 σ)) ∧ ((¬ ((σ.1 67 1) ≤ x4)) → (wX11_takes  x4 x1 σ (fun (r42 : Bool) (s42 : Sto) => ((r42 = false) → (wX11_steps_29 post  K70 n x1 x2 (x4 + (1 : Int32)) s42)) ∧ ((r42 = true) → (wX11_toldOf  x4 x1 s42 (fun (r53 : Int64) (s53 : Sto) => wX11_amount  (r53 - x2) s53 (fun (r58 : Int64) (s58 : Sto) => wX11_add  r58 s58 (fun (s61 : Sto) => wX11_steps_29 post  K70 n x1 x2 (x4 + (1 : Int32)) s61))))))))
set_option maxRecDepth 100000 in
set_option maxHeartbeats 4000000 in
theorem vX11_steps_29 (E : Ev) (post : Sto → Prop)   (K70 : Int32 → Int64 → Sto → Prop) (HK70 : ∀ (x1 : Int32) (x2 : Int64) (σ : Sto), K70 x1 x2 σ → V E 7 mX11_steps (pV post) 70 [(0, .ref 67), (1, .int x1), (2, .long x2)] [] σ) : ∀ (n : Nat) (x1 : Int32) (x2 : Int64) (x4 : Int32) (σ : Sto), wX11_steps_29 post  K70 n x1 x2 x4 σ → V E 7 mX11_steps (pV post) 29 [(0, .ref 67), (1, .int x1), (2, .long x2), (4, .int x4)] [] σ := by
  intro n
  induction n with
  | zero => intro x1 x2 x4 σ h; exact h.elim
  | succ n ih =>
    intro x1 x2 x4 σ h
    unfold wX11_steps_29 at h
    refine V_iload (pc := 29) 3 dX11_steps_29 rfl ?_
    refine V_aload_n (pc := 31) 0 dX11_steps_31 rfl ?_
    refine V_getI (pc := 32) dX11_steps_32 fl_X11_101 sh_67 rfl ?_
    refine V_icmp_ge (pc := 35) (tgt := 70) dX11_steps_35 (by decide) (fun hc => ?_) (fun hc => ?_)
    · replace h := h.1 hc
      exact V_loc [0, 1, 2] rfl (HK70 x1 x2 σ  h)
    · replace h := h.2 hc
      refine V_aload_n (pc := 38) 0 dX11_steps_38 rfl ?_
      refine V_iload (pc := 39) 3 dX11_steps_39 rfl ?_
      refine V_iload_n (pc := 41) 1 dX11_steps_41 rfl ?_
      refine V_callV (pc := 42) (M' := mX11_takes) dX11_steps_42 ml_X11_160 kv_X11_takes ko_X11_takes sh_67 (by decide) (by decide) rfl rfl (Nat.le_of_ble_eq_true rfl) (Nat.le_of_ble_eq_true rfl) (vX11_takes E  x4 x1 σ _  h) (kB (fun r42 s42 h => ?_))
      refine V_ifz (pc := 45) (tgt := 64) dX11_steps_45 (by decide) (fun hc => ?_) (fun hc => ?_)
      · replace h := h.1 hc
        refine V_iinc (pc := 64) 3 (v := 1) dX11_steps_64 rfl (by decide) (by decide) ?_
        refine V_goto (pc := 67) (tgt := 29) dX11_steps_67 (by decide) ?_
        exact V_loc [1, 2, 3, 0] rfl (ih x1 x2 (x4 + (1 : Int32)) s42  h)
      · replace h := h.2 hc
        refine V_aload_n (pc := 48) 0 dX11_steps_48 rfl ?_
        refine V_aload_n (pc := 49) 0 dX11_steps_49 rfl ?_
        refine V_iload (pc := 50) 3 dX11_steps_50 rfl ?_
        refine V_iload_n (pc := 52) 1 dX11_steps_52 rfl ?_
        refine V_callV (pc := 53) (M' := mX11_toldOf) dX11_steps_53 ml_X11_164 kv_X11_toldOf ko_X11_toldOf sh_67 (by decide) (by decide) rfl rfl (Nat.le_of_ble_eq_true rfl) (Nat.le_of_ble_eq_true rfl) (vX11_toldOf E  x4 x1 s42 _  h) (kL (fun r53 s53 h => ?_))
        refine V_lload_n (pc := 56) 2 dX11_steps_56 rfl ?_
        refine V_lsub (pc := 57) dX11_steps_57 ?_
        refine V_callS (pc := 58) (M' := mX11_amount) dX11_steps_58 ml_X11_94 ks_X11_amount ko_X11_amount (by decide) rfl (Nat.le_of_ble_eq_true rfl) (Nat.le_of_ble_eq_true rfl) (vX11_amount E  (r53 - x2) s53 _  h) (kL (fun r58 s58 h => ?_))
        refine V_callV (pc := 61) (M' := mX11_add) dX11_steps_61 ml_X11_213 kv_X11_add ko_X11_add sh_67 (by decide) (by decide) rfl rfl (Nat.le_of_ble_eq_true rfl) (Nat.le_of_ble_eq_true rfl) (vX11_add E  r58 s58 _  h) (kV (fun s61 h => ?_))
        refine V_iinc (pc := 64) 3 (v := 1) dX11_steps_64 rfl (by decide) (by decide) ?_
        refine V_goto (pc := 67) (tgt := 29) dX11_steps_67 (by decide) ?_
        exact V_loc [1, 2, 3, 0] rfl (ih x1 x2 (x4 + (1 : Int32)) s61  h)
def wX11_steps_183 (post : Sto → Prop)  (K144 : Int32 → Int64 → Int32 → Int64 → Int64 → Int64 → Int32 → Sto → Prop) (x1 : Int32) (x6 : Int64) (x8 : Int32) (x9 : Int64) (x11 : Int64) (x15 : Int32) (y0 : Int64) (y1 : Int64) (σ : Sto) : Prop := K144 x1 x6 x8 x9 x11 (y1 + y0) (x15 + (1 : Int32)) σ
set_option maxRecDepth 100000 in
set_option maxHeartbeats 4000000 in
theorem vX11_steps_183 (E : Ev) (post : Sto → Prop)   (K144 : Int32 → Int64 → Int32 → Int64 → Int64 → Int64 → Int32 → Sto → Prop) (HK144 : ∀ (x1 : Int32) (x6 : Int64) (x8 : Int32) (x9 : Int64) (x11 : Int64) (x13 : Int64) (x15 : Int32) (σ : Sto), K144 x1 x6 x8 x9 x11 x13 x15 σ → V E 7 mX11_steps (pV post) 144 [(0, .ref 67), (1, .int x1), (6, .long x6), (8, .int x8), (9, .long x9), (11, .long x11), (13, .long x13), (15, .int x15)] [] σ) (x1 : Int32) (x6 : Int64) (x8 : Int32) (x9 : Int64) (x11 : Int64) (x15 : Int32) (y0 : Int64) (y1 : Int64) (σ : Sto) (h : wX11_steps_183 post  K144 x1 x6 x8 x9 x11 x15 y0 y1 σ) : V E 7 mX11_steps (pV post) 183 [(0, .ref 67), (1, .int x1), (6, .long x6), (8, .int x8), (9, .long x9), (11, .long x11), (15, .int x15)] [.long y0, .long y1] σ := by
  unfold wX11_steps_183 at h
  refine V_ladd (pc := 183) dX11_steps_183 ?_
  refine V_lstore (pc := 184) dX11_steps_184 (by decide) ?_
  refine V_iinc (pc := 186) 7 (v := 1) dX11_steps_186 rfl (by decide) (by decide) ?_
  refine V_goto (pc := 189) (tgt := 144) dX11_steps_189 (by decide) ?_
  exact V_loc [2, 3, 4, 5, 6, 7, 1, 0] rfl (HK144 x1 x6 x8 x9 x11 (y1 + y0) (x15 + (1 : Int32)) σ  h)
def wX11_steps_144 (post : Sto → Prop)  (K192 : Int32 → Int64 → Int32 → Int64 → Int64 → Int64 → Sto → Prop) : Nat → Int32 → Int64 → Int32 → Int64 → Int64 → Int64 → Int32 → Sto → Prop
  | 0, _, _, _, _, _, _, _, _ => False
  | n + 1, x1, x6, x8, x9, x11, x13, x15, σ => (((σ.1 67 1) ≤ x15) → (K192 x1 x6 x8 x9 x11 x13 σ)) ∧ ((¬ ((σ.1 67 1) ≤ x15)) → (wX11_takes  x15 x1 σ (fun (r159 : Bool) (s159 : Sto) => ((r159 = false) → (wX11_steps_183 post  (wX11_steps_144 post  K192 n) x1 x6 x8 x9 x11 x15 ((0 : Int64)) x13 s159)) ∧ ((r159 = true) → (wX11_toldOf  x15 x1 s159 (fun (r169 : Int64) (s169 : Sto) => wX11_clipped  r169 x9 x11 s169 (fun (r176 : Int64) (s176 : Sto) => wX11_steps_183 post  (wX11_steps_144 post  K192 n) x1 x6 x8 x9 x11 x15 r176 x13 s176)))))))
set_option maxRecDepth 100000 in
set_option maxHeartbeats 4000000 in
theorem vX11_steps_144 (E : Ev) (post : Sto → Prop)   (K192 : Int32 → Int64 → Int32 → Int64 → Int64 → Int64 → Sto → Prop) (HK192 : ∀ (x1 : Int32) (x6 : Int64) (x8 : Int32) (x9 : Int64) (x11 : Int64) (x13 : Int64) (σ : Sto), K192 x1 x6 x8 x9 x11 x13 σ → V E 7 mX11_steps (pV post) 192 [(0, .ref 67), (1, .int x1), (6, .long x6), (8, .int x8), (9, .long x9), (11, .long x11), (13, .long x13)] [] σ) : ∀ (n : Nat) (x1 : Int32) (x6 : Int64) (x8 : Int32) (x9 : Int64) (x11 : Int64) (x13 : Int64) (x15 : Int32) (σ : Sto), wX11_steps_144 post  K192 n x1 x6 x8 x9 x11 x13 x15 σ → V E 7 mX11_steps (pV post) 144 [(0, .ref 67), (1, .int x1), (6, .long x6), (8, .int x8), (9, .long x9), (11, .long x11), (13, .long x13), (15, .int x15)] [] σ := by
  intro n
  induction n with
  | zero => intro x1 x6 x8 x9 x11 x13 x15 σ h; exact h.elim
  | succ n ih =>
    intro x1 x6 x8 x9 x11 x13 x15 σ h
    unfold wX11_steps_144 at h
    refine V_iload (pc := 144) 7 dX11_steps_144 rfl ?_
    refine V_aload_n (pc := 146) 0 dX11_steps_146 rfl ?_
    refine V_getI (pc := 147) dX11_steps_147 fl_X11_101 sh_67 rfl ?_
    refine V_icmp_ge (pc := 150) (tgt := 192) dX11_steps_150 (by decide) (fun hc => ?_) (fun hc => ?_)
    · replace h := h.1 hc
      exact V_loc [0, 1, 2, 3, 4, 5, 6] rfl (HK192 x1 x6 x8 x9 x11 x13 σ  h)
    · replace h := h.2 hc
      refine V_lload (pc := 153) 6 dX11_steps_153 rfl ?_
      refine V_aload_n (pc := 155) 0 dX11_steps_155 rfl ?_
      refine V_iload (pc := 156) 7 dX11_steps_156 rfl ?_
      refine V_iload_n (pc := 158) 1 dX11_steps_158 rfl ?_
      refine V_callV (pc := 159) (M' := mX11_takes) dX11_steps_159 ml_X11_160 kv_X11_takes ko_X11_takes sh_67 (by decide) (by decide) rfl rfl (Nat.le_of_ble_eq_true rfl) (Nat.le_of_ble_eq_true rfl) (vX11_takes E  x15 x1 σ _  h) (kB (fun r159 s159 h => ?_))
      refine V_ifz (pc := 162) (tgt := 182) dX11_steps_162 (by decide) (fun hc => ?_) (fun hc => ?_)
      · replace h := h.1 hc
        refine V_lconst (pc := 182) (v := 0) dX11_steps_182 (by decide) ?_
        refine V_loc [0, 1, 2, 3, 4, 5, 7] rfl (vX11_steps_183 E post   _ ih x1 x6 x8 x9 x11 x15 ((0 : Int64)) x13 s159  h)
      · replace h := h.2 hc
        refine V_aload_n (pc := 165) 0 dX11_steps_165 rfl ?_
        refine V_iload (pc := 166) 7 dX11_steps_166 rfl ?_
        refine V_iload_n (pc := 168) 1 dX11_steps_168 rfl ?_
        refine V_callV (pc := 169) (M' := mX11_toldOf) dX11_steps_169 ml_X11_164 kv_X11_toldOf ko_X11_toldOf sh_67 (by decide) (by decide) rfl rfl (Nat.le_of_ble_eq_true rfl) (Nat.le_of_ble_eq_true rfl) (vX11_toldOf E  x15 x1 s159 _  h) (kL (fun r169 s169 h => ?_))
        refine V_lload (pc := 172) 4 dX11_steps_172 rfl ?_
        refine V_lload (pc := 174) 5 dX11_steps_174 rfl ?_
        refine V_callS (pc := 176) (M' := mX11_clipped) dX11_steps_176 ml_X11_231 ks_X11_clipped ko_X11_clipped (by decide) rfl (Nat.le_of_ble_eq_true rfl) (Nat.le_of_ble_eq_true rfl) (vX11_clipped E  r169 x9 x11 s169 _  h) (kL (fun r176 s176 h => ?_))
        refine V_goto (pc := 179) (tgt := 183) dX11_steps_179 (by decide) ?_
        refine V_loc [0, 1, 2, 3, 4, 5, 7] rfl (vX11_steps_183 E post   _ ih x1 x6 x8 x9 x11 x15 r176 x13 s176  h)
def wX11_steps_250 (post : Sto → Prop)  (K206 : Int32 → Int64 → Int64 → Int32 → Int64 → Int64 → Int64 → Int32 → Sto → Prop) (x1 : Int32) (x2 : Int64) (x6 : Int64) (x8 : Int32) (x9 : Int64) (x11 : Int64) (x17 : Int32) (y0 : Int64) (y1 : Int64) (σ : Sto) : Prop := K206 x1 x2 x6 x8 x9 x11 (y1 + y0) (x17 + (1 : Int32)) σ
set_option maxRecDepth 100000 in
set_option maxHeartbeats 4000000 in
theorem vX11_steps_250 (E : Ev) (post : Sto → Prop)   (K206 : Int32 → Int64 → Int64 → Int32 → Int64 → Int64 → Int64 → Int32 → Sto → Prop) (HK206 : ∀ (x1 : Int32) (x2 : Int64) (x6 : Int64) (x8 : Int32) (x9 : Int64) (x11 : Int64) (x15 : Int64) (x17 : Int32) (σ : Sto), K206 x1 x2 x6 x8 x9 x11 x15 x17 σ → V E 7 mX11_steps (pV post) 206 [(0, .ref 67), (1, .int x1), (2, .long x2), (6, .long x6), (8, .int x8), (9, .long x9), (11, .long x11), (15, .long x15), (17, .int x17)] [] σ) (x1 : Int32) (x2 : Int64) (x6 : Int64) (x8 : Int32) (x9 : Int64) (x11 : Int64) (x17 : Int32) (y0 : Int64) (y1 : Int64) (σ : Sto) (h : wX11_steps_250 post  K206 x1 x2 x6 x8 x9 x11 x17 y0 y1 σ) : V E 7 mX11_steps (pV post) 250 [(0, .ref 67), (1, .int x1), (2, .long x2), (6, .long x6), (8, .int x8), (9, .long x9), (11, .long x11), (17, .int x17)] [.long y0, .long y1] σ := by
  unfold wX11_steps_250 at h
  refine V_ladd (pc := 250) dX11_steps_250 ?_
  refine V_lstore (pc := 251) dX11_steps_251 (by decide) ?_
  refine V_iinc (pc := 253) 8 (v := 1) dX11_steps_253 rfl (by decide) (by decide) ?_
  refine V_goto (pc := 256) (tgt := 206) dX11_steps_256 (by decide) ?_
  exact V_loc [2, 3, 4, 5, 6, 7, 8, 1, 0] rfl (HK206 x1 x2 x6 x8 x9 x11 (y1 + y0) (x17 + (1 : Int32)) σ  h)
def wX11_steps_206 (post : Sto → Prop)  (K259 : Int32 → Int64 → Int64 → Int32 → Int64 → Sto → Prop) : Nat → Int32 → Int64 → Int64 → Int32 → Int64 → Int64 → Int64 → Int32 → Sto → Prop
  | 0, _, _, _, _, _, _, _, _, _ => False
  | n + 1, x1, x2, x6, x8, x9, x11, x15, x17, σ => (((σ.1 67 1) ≤ x17) → (K259 x1 x2 x6 x8 x15 σ)) ∧ ((¬ ((σ.1 67 1) ≤ x17)) → (wX11_takes  x17 x1 σ (fun (r221 : Bool) (s221 : Sto) => ((r221 = false) → (wX11_steps_250 post  (wX11_steps_206 post  K259 n) x1 x2 x6 x8 x9 x11 x17 ((0 : Int64)) x15 s221)) ∧ ((r221 = true) → (wX11_toldOf  x17 x1 s221 (fun (r231 : Int64) (s231 : Sto) => wX11_clipped  r231 x9 x11 s231 (fun (r238 : Int64) (s238 : Sto) => wX11_square  (r238 - x2) s238 (fun (r243 : Int64) (s243 : Sto) => wX11_steps_250 post  (wX11_steps_206 post  K259 n) x1 x2 x6 x8 x9 x11 x17 r243 x15 s243))))))))
set_option maxRecDepth 100000 in
set_option maxHeartbeats 4000000 in
theorem vX11_steps_206 (E : Ev) (post : Sto → Prop)   (K259 : Int32 → Int64 → Int64 → Int32 → Int64 → Sto → Prop) (HK259 : ∀ (x1 : Int32) (x2 : Int64) (x6 : Int64) (x8 : Int32) (x15 : Int64) (σ : Sto), K259 x1 x2 x6 x8 x15 σ → V E 7 mX11_steps (pV post) 259 [(0, .ref 67), (1, .int x1), (2, .long x2), (6, .long x6), (8, .int x8), (15, .long x15)] [] σ) : ∀ (n : Nat) (x1 : Int32) (x2 : Int64) (x6 : Int64) (x8 : Int32) (x9 : Int64) (x11 : Int64) (x15 : Int64) (x17 : Int32) (σ : Sto), wX11_steps_206 post  K259 n x1 x2 x6 x8 x9 x11 x15 x17 σ → V E 7 mX11_steps (pV post) 206 [(0, .ref 67), (1, .int x1), (2, .long x2), (6, .long x6), (8, .int x8), (9, .long x9), (11, .long x11), (15, .long x15), (17, .int x17)] [] σ := by
  intro n
  induction n with
  | zero => intro x1 x2 x6 x8 x9 x11 x15 x17 σ h; exact h.elim
  | succ n ih =>
    intro x1 x2 x6 x8 x9 x11 x15 x17 σ h
    unfold wX11_steps_206 at h
    refine V_iload (pc := 206) 8 dX11_steps_206 rfl ?_
    refine V_aload_n (pc := 208) 0 dX11_steps_208 rfl ?_
    refine V_getI (pc := 209) dX11_steps_209 fl_X11_101 sh_67 rfl ?_
    refine V_icmp_ge (pc := 212) (tgt := 259) dX11_steps_212 (by decide) (fun hc => ?_) (fun hc => ?_)
    · replace h := h.1 hc
      exact V_loc [0, 1, 2, 3, 4, 7] rfl (HK259 x1 x2 x6 x8 x15 σ  h)
    · replace h := h.2 hc
      refine V_lload (pc := 215) 7 dX11_steps_215 rfl ?_
      refine V_aload_n (pc := 217) 0 dX11_steps_217 rfl ?_
      refine V_iload (pc := 218) 8 dX11_steps_218 rfl ?_
      refine V_iload_n (pc := 220) 1 dX11_steps_220 rfl ?_
      refine V_callV (pc := 221) (M' := mX11_takes) dX11_steps_221 ml_X11_160 kv_X11_takes ko_X11_takes sh_67 (by decide) (by decide) rfl rfl (Nat.le_of_ble_eq_true rfl) (Nat.le_of_ble_eq_true rfl) (vX11_takes E  x17 x1 σ _  h) (kB (fun r221 s221 h => ?_))
      refine V_ifz (pc := 224) (tgt := 249) dX11_steps_224 (by decide) (fun hc => ?_) (fun hc => ?_)
      · replace h := h.1 hc
        refine V_lconst (pc := 249) (v := 0) dX11_steps_249 (by decide) ?_
        refine V_loc [0, 1, 2, 3, 4, 5, 6, 8] rfl (vX11_steps_250 E post   _ ih x1 x2 x6 x8 x9 x11 x17 ((0 : Int64)) x15 s221  h)
      · replace h := h.2 hc
        refine V_aload_n (pc := 227) 0 dX11_steps_227 rfl ?_
        refine V_iload (pc := 228) 8 dX11_steps_228 rfl ?_
        refine V_iload_n (pc := 230) 1 dX11_steps_230 rfl ?_
        refine V_callV (pc := 231) (M' := mX11_toldOf) dX11_steps_231 ml_X11_164 kv_X11_toldOf ko_X11_toldOf sh_67 (by decide) (by decide) rfl rfl (Nat.le_of_ble_eq_true rfl) (Nat.le_of_ble_eq_true rfl) (vX11_toldOf E  x17 x1 s221 _  h) (kL (fun r231 s231 h => ?_))
        refine V_lload (pc := 234) 5 dX11_steps_234 rfl ?_
        refine V_lload (pc := 236) 6 dX11_steps_236 rfl ?_
        refine V_callS (pc := 238) (M' := mX11_clipped) dX11_steps_238 ml_X11_231 ks_X11_clipped ko_X11_clipped (by decide) rfl (Nat.le_of_ble_eq_true rfl) (Nat.le_of_ble_eq_true rfl) (vX11_clipped E  r231 x9 x11 s231 _  h) (kL (fun r238 s238 h => ?_))
        refine V_lload_n (pc := 241) 2 dX11_steps_241 rfl ?_
        refine V_lsub (pc := 242) dX11_steps_242 ?_
        refine V_callS (pc := 243) (M' := mX11_square) dX11_steps_243 ml_X11_172 ks_X11_square ko_X11_square (by decide) rfl (Nat.le_of_ble_eq_true rfl) (Nat.le_of_ble_eq_true rfl) (vX11_square E  (r238 - x2) s238 _  h) (kL (fun r243 s243 h => ?_))
        refine V_goto (pc := 246) (tgt := 250) dX11_steps_246 (by decide) ?_
        refine V_loc [0, 1, 2, 3, 4, 5, 6, 8] rfl (vX11_steps_250 E post   _ ih x1 x2 x6 x8 x9 x11 x17 r243 x15 s243  h)
def wX11_steps_288 (post : Sto → Prop)  (K103 : Int32 → Int64 → Int64 → Int64 → Int32 → Sto → Prop) (x1 : Int32) (x2 : Int64) (x6 : Int64) (x8 : Int32) (y0 : Int64) (σ : Sto) : Prop := K103 x1 x2 y0 x6 (x8 + (1 : Int32)) σ
set_option maxRecDepth 100000 in
set_option maxHeartbeats 4000000 in
theorem vX11_steps_288 (E : Ev) (post : Sto → Prop)   (K103 : Int32 → Int64 → Int64 → Int64 → Int32 → Sto → Prop) (HK103 : ∀ (x1 : Int32) (x2 : Int64) (x4 : Int64) (x6 : Int64) (x8 : Int32) (σ : Sto), K103 x1 x2 x4 x6 x8 σ → V E 7 mX11_steps (pV post) 103 [(0, .ref 67), (1, .int x1), (2, .long x2), (4, .long x4), (6, .long x6), (8, .int x8)] [] σ) (x1 : Int32) (x2 : Int64) (x6 : Int64) (x8 : Int32) (y0 : Int64) (σ : Sto) (h : wX11_steps_288 post  K103 x1 x2 x6 x8 y0 σ) : V E 7 mX11_steps (pV post) 288 [(0, .ref 67), (1, .int x1), (2, .long x2), (6, .long x6), (8, .int x8)] [.long y0] σ := by
  unfold wX11_steps_288 at h
  refine V_lstore (pc := 288) dX11_steps_288 (by decide) ?_
  refine V_iinc (pc := 290) 5 (v := 1) dX11_steps_290 rfl (by decide) (by decide) ?_
  refine V_goto (pc := 293) (tgt := 103) dX11_steps_293 (by decide) ?_
  exact V_loc [2, 3, 4, 1, 5, 0] rfl (HK103 x1 x2 y0 x6 (x8 + (1 : Int32)) σ  h)
def wX11_steps_103 (post : Sto → Prop)  (K296 : Int64 → Sto → Prop) : Nat → Int32 → Int64 → Int64 → Int64 → Int32 → Sto → Prop
  | 0, _, _, _, _, _, _ => False
  | n + 1, x1, x2, x4, x6, x8, σ => ((((10 : Int32)) ≤ x8) → (K296 x2 σ)) ∧ ((¬ (((10 : Int32)) ≤ x8)) → (∃ n144, wX11_steps_144 post  (fun (x1_2 : Int32) (x6_2 : Int64) (x8_2 : Int32) (x9_2 : Int64) (x11_2 : Int64) (x13_2 : Int64) (σ_2 : Sto) => wX11_down  x13_2 x6_2 σ_2 (fun (r196 : Int64) (s196 : Sto) => ∃ n206, wX11_steps_206 post  (fun (x1_3 : Int32) (x2_3 : Int64) (x6_3 : Int64) (x8_3 : Int32) (x15_3 : Int64) (σ_3 : Sto) => ((¬ x6_3 = ((1 : Int64))) → ((¬ (x6_3 - ((1 : Int64))) = 0) ∧ (wX11_root  (((x15_3 / (x6_3 - ((1 : Int64)))) * ((1286 : Int64))) / ((1000 : Int64))) σ_3 (fun (r285 : Int64) (s285 : Sto) => wX11_steps_288 post  (wX11_steps_103 post  K296 n) x1_3 x2_3 x6_3 x8_3 r285 s285)))) ∧ ((x6_3 = ((1 : Int64))) → (wX11_steps_288 post  (wX11_steps_103 post  K296 n) x1_3 x2_3 x6_3 x8_3 ((0 : Int64)) σ_3))) n206 x1_2 r196 x6_2 x8_2 x9_2 x11_2 ((0 : Int64)) ((0 : Int32)) s196)) n144 x1 x6 x8 (x2 - ((((3 : Int64)) * x4) / ((2 : Int64)))) (x2 + ((((3 : Int64)) * x4) / ((2 : Int64)))) ((0 : Int64)) ((0 : Int32)) σ))
set_option maxRecDepth 100000 in
set_option maxHeartbeats 4000000 in
theorem vX11_steps_103 (E : Ev) (post : Sto → Prop)   (K296 : Int64 → Sto → Prop) (HK296 : ∀ (x2 : Int64) (σ : Sto), K296 x2 σ → V E 7 mX11_steps (pV post) 296 [(0, .ref 67), (2, .long x2)] [] σ) : ∀ (n : Nat) (x1 : Int32) (x2 : Int64) (x4 : Int64) (x6 : Int64) (x8 : Int32) (σ : Sto), wX11_steps_103 post  K296 n x1 x2 x4 x6 x8 σ → V E 7 mX11_steps (pV post) 103 [(0, .ref 67), (1, .int x1), (2, .long x2), (4, .long x4), (6, .long x6), (8, .int x8)] [] σ := by
  intro n
  induction n with
  | zero => intro x1 x2 x4 x6 x8 σ h; exact h.elim
  | succ n ih =>
    intro x1 x2 x4 x6 x8 σ h
    unfold wX11_steps_103 at h
    refine V_iload (pc := 103) 5 dX11_steps_103 rfl ?_
    refine V_bipush (pc := 105) (v := 10) dX11_steps_105 (by decide) ?_
    refine V_icmp_ge (pc := 107) (tgt := 296) dX11_steps_107 (by decide) (fun hc => ?_) (fun hc => ?_)
    · replace h := h.1 hc
      exact V_loc [0, 2] rfl (HK296 x2 σ  h)
    · replace h := h.2 hc
      refine V_lload_n (pc := 110) 2 dX11_steps_110 rfl ?_
      refine V_ldc2 (pc := 111) dX11_steps_111 cl_X11_229 ?_
      refine V_lload (pc := 114) 3 dX11_steps_114 rfl ?_
      refine V_lmul (pc := 116) dX11_steps_116 ?_
      refine V_ldc2 (pc := 117) dX11_steps_117 cl_X11_88 ?_
      refine V_ldiv (pc := 120) dX11_steps_120 (by decide) ?_
      refine V_lsub (pc := 121) dX11_steps_121 ?_
      refine V_lstore (pc := 122) dX11_steps_122 (by decide) ?_
      refine V_lload_n (pc := 124) 3 dX11_steps_124 rfl ?_
      refine V_ldc2 (pc := 125) dX11_steps_125 cl_X11_229 ?_
      refine V_lload (pc := 128) 4 dX11_steps_128 rfl ?_
      refine V_lmul (pc := 130) dX11_steps_130 ?_
      refine V_ldc2 (pc := 131) dX11_steps_131 cl_X11_88 ?_
      refine V_ldiv (pc := 134) dX11_steps_134 (by decide) ?_
      refine V_ladd (pc := 135) dX11_steps_135 ?_
      refine V_lstore (pc := 136) dX11_steps_136 (by decide) ?_
      refine V_lconst (pc := 138) (v := 0) dX11_steps_138 (by decide) ?_
      refine V_lstore (pc := 139) dX11_steps_139 (by decide) ?_
      refine V_iconst (pc := 141) (v := 0) dX11_steps_141 (by decide) ?_
      refine V_istore (pc := 142) dX11_steps_142 (by decide) ?_
      obtain ⟨n144, h⟩ := h
      refine V_loc [4, 5, 8, 9, 3, 2, 1, 0] rfl (vX11_steps_144 E post   _ (fun x1_2 x6_2 x8_2 x9_2 x11_2 x13_2 σ_2 h => ?_) n144 x1 x6 x8 (x2 - ((((3 : Int64)) * x4) / ((2 : Int64)))) (x2 + ((((3 : Int64)) * x4) / ((2 : Int64)))) ((0 : Int64)) ((0 : Int32)) σ  h)
      · refine V_lload (pc := 192) 6 dX11_steps_192 rfl ?_
        refine V_lload (pc := 194) 2 dX11_steps_194 rfl ?_
        refine V_callS (pc := 196) (M' := mX11_down) dX11_steps_196 ml_X11_90 ks_X11_down ko_X11_down (by decide) rfl (Nat.le_of_ble_eq_true rfl) (Nat.le_of_ble_eq_true rfl) (vX11_down E  x13_2 x6_2 σ_2 _  h) (kL (fun r196 s196 h => ?_))
        refine V_lstore_n (pc := 199) dX11_steps_199 (by decide) ?_
        refine V_lconst (pc := 200) (v := 0) dX11_steps_200 (by decide) ?_
        refine V_lstore (pc := 201) dX11_steps_201 (by decide) ?_
        refine V_iconst (pc := 203) (v := 0) dX11_steps_203 (by decide) ?_
        refine V_istore (pc := 204) dX11_steps_204 (by decide) ?_
        obtain ⟨n206, h⟩ := h
        refine V_loc [3, 4, 2, 5, 6, 7, 8, 1, 0] rfl (vX11_steps_206 E post   _ (fun x1_3 x2_3 x6_3 x8_3 x15_3 σ_3 h => ?_) n206 x1_2 r196 x6_2 x8_2 x9_2 x11_2 ((0 : Int64)) ((0 : Int32)) s196  h)
        · refine V_lload (pc := 259) 3 dX11_steps_259 rfl ?_
          refine V_lconst (pc := 261) (v := 1) dX11_steps_261 (by decide) ?_
          refine V_lc_ne (pc := 262) (tgt := 270) dX11_steps_262 dX11_steps_263 (by decide) (fun hc => ?_) (fun hc => ?_)
          · replace h := h.1 hc
            refine V_lload (pc := 270) 5 dX11_steps_270 rfl ?_
            refine V_lload (pc := 272) 3 dX11_steps_272 rfl ?_
            refine V_lconst (pc := 274) (v := 1) dX11_steps_274 (by decide) ?_
            refine V_lsub (pc := 275) dX11_steps_275 ?_
            obtain ⟨z276, h⟩ := h
            refine V_ldiv (pc := 276) dX11_steps_276 z276 ?_
            refine V_ldc2 (pc := 277) dX11_steps_277 cl_X11_235 ?_
            refine V_lmul (pc := 280) dX11_steps_280 ?_
            refine V_ldc2 (pc := 281) dX11_steps_281 cl_X11_139 ?_
            refine V_ldiv (pc := 284) dX11_steps_284 (by decide) ?_
            refine V_callS (pc := 285) (M' := mX11_root) dX11_steps_285 ml_X11_237 ks_X11_root ko_X11_root (by decide) rfl (Nat.le_of_ble_eq_true rfl) (Nat.le_of_ble_eq_true rfl) (vX11_root E  (((x15_3 / (x6_3 - ((1 : Int64)))) * ((1286 : Int64))) / ((1000 : Int64))) σ_3 _  h) (kL (fun r285 s285 h => ?_))
            refine V_loc [0, 1, 2, 3, 4] rfl (vX11_steps_288 E post   _ ih x1_3 x2_3 x6_3 x8_3 r285 s285  h)
          · replace h := h.2 hc
            refine V_lconst (pc := 266) (v := 0) dX11_steps_266 (by decide) ?_
            refine V_goto (pc := 267) (tgt := 288) dX11_steps_267 (by decide) ?_
            refine V_loc [0, 1, 2, 3, 4] rfl (vX11_steps_288 E post   _ ih x1_3 x2_3 x6_3 x8_3 ((0 : Int64)) σ_3  h)
def wX11_steps  (x1 : Int32) (σ : Sto) (post : Sto → Prop) : Prop := wX11_rowOf  x1 σ (fun (s2 : Sto) => wX11_middle   s2 (fun (s6 : Sto) => wX11_down  (s6.2 67 25) (s6.2 67 26) s6 (fun (r17 : Int64) (s17 : Sto) => ∃ n29, wX11_steps_29 post  (fun (x1_1 : Int32) (x2_1 : Int64) (σ_1 : Sto) => wX11_middle   σ_1 (fun (s71 : Sto) => (¬ ((s71.2 67 26) * ((1000 : Int64))) = 0) ∧ (∃ n103, wX11_steps_103 post  (fun (x2_4 : Int64) (σ_4 : Sto) => post (wL (wL σ_4 67 25 x2_4) 67 26 ((1 : Int64)))) n103 x1_1 x2_1 (((s71.2 67 25) * ((1483 : Int64))) / ((s71.2 67 26) * ((1000 : Int64)))) ((s71.1 67 23).toInt64) ((0 : Int32)) s71))) n29 x1 r17 ((0 : Int32)) (wI s17 67 23 ((0 : Int32))))))
set_option maxRecDepth 100000 in
set_option maxHeartbeats 4000000 in
theorem vX11_steps (E : Ev)  (x1 : Int32) (σ : Sto) (post : Sto → Prop)  (h : wX11_steps  x1 σ post) : V E 7 mX11_steps (pV post) 0 [(0, .ref 67), (1, .int x1)] [] σ := by
  unfold wX11_steps at h
  refine V_aload_n (pc := 0) 0 dX11_steps_0 rfl ?_
  refine V_iload_n (pc := 1) 1 dX11_steps_1 rfl ?_
  refine V_callV (pc := 2) (M' := mX11_rowOf) dX11_steps_2 ml_X11_224 kv_X11_rowOf ko_X11_rowOf sh_67 (by decide) (by decide) rfl rfl (Nat.le_of_ble_eq_true rfl) (Nat.le_of_ble_eq_true rfl) (vX11_rowOf E  x1 σ _  h) (kV (fun s2 h => ?_))
  refine V_aload_n (pc := 5) 0 dX11_steps_5 rfl ?_
  refine V_callV (pc := 6) (M' := mX11_middle) dX11_steps_6 ml_X11_217 kv_X11_middle ko_X11_middle sh_67 (by decide) (by decide) rfl rfl (Nat.le_of_ble_eq_true rfl) (Nat.le_of_ble_eq_true rfl) (vX11_middle E   s2 _  h) (kV (fun s6 h => ?_))
  refine V_aload_n (pc := 9) 0 dX11_steps_9 rfl ?_
  refine V_getL (pc := 10) dX11_steps_10 fl_X11_207 sh_67 rfl ?_
  refine V_aload_n (pc := 13) 0 dX11_steps_13 rfl ?_
  refine V_getL (pc := 14) dX11_steps_14 fl_X11_210 sh_67 rfl ?_
  refine V_callS (pc := 17) (M' := mX11_down) dX11_steps_17 ml_X11_90 ks_X11_down ko_X11_down (by decide) rfl (Nat.le_of_ble_eq_true rfl) (Nat.le_of_ble_eq_true rfl) (vX11_down E  (s6.2 67 25) (s6.2 67 26) s6 _  h) (kL (fun r17 s17 h => ?_))
  refine V_lstore_n (pc := 20) dX11_steps_20 (by decide) ?_
  refine V_aload_n (pc := 21) 1 dX11_steps_21 rfl ?_
  refine V_iconst (pc := 22) (v := 0) dX11_steps_22 (by decide) ?_
  refine V_putI (pc := 23) dX11_steps_23 fl_X11_204 po_X11_23 sh_67 rfl rfl rfl ?_
  refine V_iconst (pc := 26) (v := 0) dX11_steps_26 (by decide) ?_
  refine V_istore (pc := 27) dX11_steps_27 (by decide) ?_
  obtain ⟨n29, h⟩ := h
  refine V_loc [2, 3, 1, 0] rfl (vX11_steps_29 E post   _ (fun x1_1 x2_1 σ_1 h => ?_) n29 x1 r17 ((0 : Int32)) (wI s17 67 23 ((0 : Int32)))  h)
  · refine V_aload_n (pc := 70) 0 dX11_steps_70 rfl ?_
    refine V_callV (pc := 71) (M' := mX11_middle) dX11_steps_71 ml_X11_217 kv_X11_middle ko_X11_middle sh_67 (by decide) (by decide) rfl rfl (Nat.le_of_ble_eq_true rfl) (Nat.le_of_ble_eq_true rfl) (vX11_middle E   σ_1 _  h) (kV (fun s71 h => ?_))
    refine V_aload_n (pc := 74) 0 dX11_steps_74 rfl ?_
    refine V_getL (pc := 75) dX11_steps_75 fl_X11_207 sh_67 rfl ?_
    refine V_ldc2 (pc := 78) dX11_steps_78 cl_X11_227 ?_
    refine V_lmul (pc := 81) dX11_steps_81 ?_
    refine V_aload_n (pc := 82) 0 dX11_steps_82 rfl ?_
    refine V_getL (pc := 83) dX11_steps_83 fl_X11_210 sh_67 rfl ?_
    refine V_ldc2 (pc := 86) dX11_steps_86 cl_X11_139 ?_
    refine V_lmul (pc := 89) dX11_steps_89 ?_
    obtain ⟨z90, h⟩ := h
    refine V_ldiv (pc := 90) dX11_steps_90 z90 ?_
    refine V_lstore (pc := 91) dX11_steps_91 (by decide) ?_
    refine V_aload_n (pc := 93) 1 dX11_steps_93 rfl ?_
    refine V_getI (pc := 94) dX11_steps_94 fl_X11_204 sh_67 rfl ?_
    refine V_i2l (pc := 97) dX11_steps_97 ?_
    refine V_lstore (pc := 98) dX11_steps_98 (by decide) ?_
    refine V_iconst (pc := 100) (v := 0) dX11_steps_100 (by decide) ?_
    refine V_istore (pc := 101) dX11_steps_101 (by decide) ?_
    obtain ⟨n103, h⟩ := h
    refine V_loc [3, 4, 5, 2, 1, 0] rfl (vX11_steps_103 E post   _ (fun x2_4 σ_4 h => ?_) n103 x1_1 x2_1 (((s71.2 67 25) * ((1483 : Int64))) / ((s71.2 67 26) * ((1000 : Int64)))) ((s71.1 67 23).toInt64) ((0 : Int32)) s71  h)
    · refine V_aload_n (pc := 296) 0 dX11_steps_296 rfl ?_
      refine V_lload_n (pc := 297) 1 dX11_steps_297 rfl ?_
      refine V_putL (pc := 298) dX11_steps_298 fl_X11_207 po_X11_25 sh_67 rfl rfl rfl ?_
      refine V_aload_n (pc := 301) 0 dX11_steps_301 rfl ?_
      refine V_lconst (pc := 302) (v := 1) dX11_steps_302 (by decide) ?_
      refine V_putL (pc := 303) dX11_steps_303 fl_X11_210 po_X11_26 sh_67 rfl rfl rfl ?_
      exact V_vret dX11_steps_306 rfl h
