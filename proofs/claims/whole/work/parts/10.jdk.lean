theorem dJ6_bitCount_0f7a4_0 : decode cJ6_bitCount_0f7a4 0 = .ok (.iload_n 0, 1) := by decide +kernel
theorem dJ6_bitCount_0f7a4_1 : decode cJ6_bitCount_0f7a4 1 = .ok (.iload_n 0, 1) := by decide +kernel
theorem dJ6_bitCount_0f7a4_2 : decode cJ6_bitCount_0f7a4 2 = .ok (.iconst 1, 1) := by decide +kernel
theorem dJ6_bitCount_0f7a4_3 : decode cJ6_bitCount_0f7a4 3 = .ok (.iushr, 1) := by decide +kernel
theorem dJ6_bitCount_0f7a4_4 : decode cJ6_bitCount_0f7a4 4 = .ok (.ldc_w 265, 3) := by decide +kernel
theorem dJ6_bitCount_0f7a4_7 : decode cJ6_bitCount_0f7a4 7 = .ok (.iand, 1) := by decide +kernel
theorem dJ6_bitCount_0f7a4_8 : decode cJ6_bitCount_0f7a4 8 = .ok (.isub, 1) := by decide +kernel
theorem dJ6_bitCount_0f7a4_9 : decode cJ6_bitCount_0f7a4 9 = .ok (.istore_n 0, 1) := by decide +kernel
theorem dJ6_bitCount_0f7a4_10 : decode cJ6_bitCount_0f7a4 10 = .ok (.iload_n 0, 1) := by decide +kernel
theorem dJ6_bitCount_0f7a4_11 : decode cJ6_bitCount_0f7a4 11 = .ok (.ldc_w 266, 3) := by decide +kernel
theorem dJ6_bitCount_0f7a4_14 : decode cJ6_bitCount_0f7a4 14 = .ok (.iand, 1) := by decide +kernel
theorem dJ6_bitCount_0f7a4_15 : decode cJ6_bitCount_0f7a4 15 = .ok (.iload_n 0, 1) := by decide +kernel
theorem dJ6_bitCount_0f7a4_16 : decode cJ6_bitCount_0f7a4 16 = .ok (.iconst 2, 1) := by decide +kernel
theorem dJ6_bitCount_0f7a4_17 : decode cJ6_bitCount_0f7a4 17 = .ok (.iushr, 1) := by decide +kernel
theorem dJ6_bitCount_0f7a4_18 : decode cJ6_bitCount_0f7a4 18 = .ok (.ldc_w 266, 3) := by decide +kernel
theorem dJ6_bitCount_0f7a4_21 : decode cJ6_bitCount_0f7a4 21 = .ok (.iand, 1) := by decide +kernel
theorem dJ6_bitCount_0f7a4_22 : decode cJ6_bitCount_0f7a4 22 = .ok (.iadd, 1) := by decide +kernel
theorem dJ6_bitCount_0f7a4_23 : decode cJ6_bitCount_0f7a4 23 = .ok (.istore_n 0, 1) := by decide +kernel
theorem dJ6_bitCount_0f7a4_24 : decode cJ6_bitCount_0f7a4 24 = .ok (.iload_n 0, 1) := by decide +kernel
theorem dJ6_bitCount_0f7a4_25 : decode cJ6_bitCount_0f7a4 25 = .ok (.iload_n 0, 1) := by decide +kernel
theorem dJ6_bitCount_0f7a4_26 : decode cJ6_bitCount_0f7a4 26 = .ok (.iconst 4, 1) := by decide +kernel
theorem dJ6_bitCount_0f7a4_27 : decode cJ6_bitCount_0f7a4 27 = .ok (.iushr, 1) := by decide +kernel
theorem dJ6_bitCount_0f7a4_28 : decode cJ6_bitCount_0f7a4 28 = .ok (.iadd, 1) := by decide +kernel
theorem dJ6_bitCount_0f7a4_29 : decode cJ6_bitCount_0f7a4 29 = .ok (.ldc_w 267, 3) := by decide +kernel
theorem dJ6_bitCount_0f7a4_32 : decode cJ6_bitCount_0f7a4 32 = .ok (.iand, 1) := by decide +kernel
theorem dJ6_bitCount_0f7a4_33 : decode cJ6_bitCount_0f7a4 33 = .ok (.istore_n 0, 1) := by decide +kernel
theorem dJ6_bitCount_0f7a4_34 : decode cJ6_bitCount_0f7a4 34 = .ok (.iload_n 0, 1) := by decide +kernel
theorem dJ6_bitCount_0f7a4_35 : decode cJ6_bitCount_0f7a4 35 = .ok (.iload_n 0, 1) := by decide +kernel
theorem dJ6_bitCount_0f7a4_36 : decode cJ6_bitCount_0f7a4 36 = .ok (.bipush 8, 2) := by decide +kernel
theorem dJ6_bitCount_0f7a4_38 : decode cJ6_bitCount_0f7a4 38 = .ok (.iushr, 1) := by decide +kernel
theorem dJ6_bitCount_0f7a4_39 : decode cJ6_bitCount_0f7a4 39 = .ok (.iadd, 1) := by decide +kernel
theorem dJ6_bitCount_0f7a4_40 : decode cJ6_bitCount_0f7a4 40 = .ok (.istore_n 0, 1) := by decide +kernel
theorem dJ6_bitCount_0f7a4_41 : decode cJ6_bitCount_0f7a4 41 = .ok (.iload_n 0, 1) := by decide +kernel
theorem dJ6_bitCount_0f7a4_42 : decode cJ6_bitCount_0f7a4 42 = .ok (.iload_n 0, 1) := by decide +kernel
theorem dJ6_bitCount_0f7a4_43 : decode cJ6_bitCount_0f7a4 43 = .ok (.bipush 16, 2) := by decide +kernel
theorem dJ6_bitCount_0f7a4_45 : decode cJ6_bitCount_0f7a4 45 = .ok (.iushr, 1) := by decide +kernel
theorem dJ6_bitCount_0f7a4_46 : decode cJ6_bitCount_0f7a4 46 = .ok (.iadd, 1) := by decide +kernel
theorem dJ6_bitCount_0f7a4_47 : decode cJ6_bitCount_0f7a4 47 = .ok (.istore_n 0, 1) := by decide +kernel
theorem dJ6_bitCount_0f7a4_48 : decode cJ6_bitCount_0f7a4 48 = .ok (.iload_n 0, 1) := by decide +kernel
theorem dJ6_bitCount_0f7a4_49 : decode cJ6_bitCount_0f7a4 49 = .ok (.bipush 63, 2) := by decide +kernel
theorem dJ6_bitCount_0f7a4_51 : decode cJ6_bitCount_0f7a4 51 = .ok (.iand, 1) := by decide +kernel
theorem dJ6_bitCount_0f7a4_52 : decode cJ6_bitCount_0f7a4 52 = .ok (.ireturn, 1) := by decide +kernel
def wJ6_bitCount_0f7a4  (x0 : Int32) (σ : Sto) (post : Int32 → Sto → Prop) : Prop := post ((((((((x0 - (((x0.toUInt32 >>> (((1 : Int32)).toUInt32 &&& Int32.toUInt32 31)).toInt32) &&& ((1431655765 : Int32)))) &&& ((858993459 : Int32))) + ((((x0 - (((x0.toUInt32 >>> (((1 : Int32)).toUInt32 &&& Int32.toUInt32 31)).toInt32) &&& ((1431655765 : Int32)))).toUInt32 >>> (((2 : Int32)).toUInt32 &&& Int32.toUInt32 31)).toInt32) &&& ((858993459 : Int32)))) + (((((x0 - (((x0.toUInt32 >>> (((1 : Int32)).toUInt32 &&& Int32.toUInt32 31)).toInt32) &&& ((1431655765 : Int32)))) &&& ((858993459 : Int32))) + ((((x0 - (((x0.toUInt32 >>> (((1 : Int32)).toUInt32 &&& Int32.toUInt32 31)).toInt32) &&& ((1431655765 : Int32)))).toUInt32 >>> (((2 : Int32)).toUInt32 &&& Int32.toUInt32 31)).toInt32) &&& ((858993459 : Int32)))).toUInt32 >>> (((4 : Int32)).toUInt32 &&& Int32.toUInt32 31)).toInt32)) &&& ((252645135 : Int32))) + (((((((x0 - (((x0.toUInt32 >>> (((1 : Int32)).toUInt32 &&& Int32.toUInt32 31)).toInt32) &&& ((1431655765 : Int32)))) &&& ((858993459 : Int32))) + ((((x0 - (((x0.toUInt32 >>> (((1 : Int32)).toUInt32 &&& Int32.toUInt32 31)).toInt32) &&& ((1431655765 : Int32)))).toUInt32 >>> (((2 : Int32)).toUInt32 &&& Int32.toUInt32 31)).toInt32) &&& ((858993459 : Int32)))) + (((((x0 - (((x0.toUInt32 >>> (((1 : Int32)).toUInt32 &&& Int32.toUInt32 31)).toInt32) &&& ((1431655765 : Int32)))) &&& ((858993459 : Int32))) + ((((x0 - (((x0.toUInt32 >>> (((1 : Int32)).toUInt32 &&& Int32.toUInt32 31)).toInt32) &&& ((1431655765 : Int32)))).toUInt32 >>> (((2 : Int32)).toUInt32 &&& Int32.toUInt32 31)).toInt32) &&& ((858993459 : Int32)))).toUInt32 >>> (((4 : Int32)).toUInt32 &&& Int32.toUInt32 31)).toInt32)) &&& ((252645135 : Int32))).toUInt32 >>> (((8 : Int32)).toUInt32 &&& Int32.toUInt32 31)).toInt32)) + ((((((((x0 - (((x0.toUInt32 >>> (((1 : Int32)).toUInt32 &&& Int32.toUInt32 31)).toInt32) &&& ((1431655765 : Int32)))) &&& ((858993459 : Int32))) + ((((x0 - (((x0.toUInt32 >>> (((1 : Int32)).toUInt32 &&& Int32.toUInt32 31)).toInt32) &&& ((1431655765 : Int32)))).toUInt32 >>> (((2 : Int32)).toUInt32 &&& Int32.toUInt32 31)).toInt32) &&& ((858993459 : Int32)))) + (((((x0 - (((x0.toUInt32 >>> (((1 : Int32)).toUInt32 &&& Int32.toUInt32 31)).toInt32) &&& ((1431655765 : Int32)))) &&& ((858993459 : Int32))) + ((((x0 - (((x0.toUInt32 >>> (((1 : Int32)).toUInt32 &&& Int32.toUInt32 31)).toInt32) &&& ((1431655765 : Int32)))).toUInt32 >>> (((2 : Int32)).toUInt32 &&& Int32.toUInt32 31)).toInt32) &&& ((858993459 : Int32)))).toUInt32 >>> (((4 : Int32)).toUInt32 &&& Int32.toUInt32 31)).toInt32)) &&& ((252645135 : Int32))) + (((((((x0 - (((x0.toUInt32 >>> (((1 : Int32)).toUInt32 &&& Int32.toUInt32 31)).toInt32) &&& ((1431655765 : Int32)))) &&& ((858993459 : Int32))) + ((((x0 - (((x0.toUInt32 >>> (((1 : Int32)).toUInt32 &&& Int32.toUInt32 31)).toInt32) &&& ((1431655765 : Int32)))).toUInt32 >>> (((2 : Int32)).toUInt32 &&& Int32.toUInt32 31)).toInt32) &&& ((858993459 : Int32)))) + (((((x0 - (((x0.toUInt32 >>> (((1 : Int32)).toUInt32 &&& Int32.toUInt32 31)).toInt32) &&& ((1431655765 : Int32)))) &&& ((858993459 : Int32))) + ((((x0 - (((x0.toUInt32 >>> (((1 : Int32)).toUInt32 &&& Int32.toUInt32 31)).toInt32) &&& ((1431655765 : Int32)))).toUInt32 >>> (((2 : Int32)).toUInt32 &&& Int32.toUInt32 31)).toInt32) &&& ((858993459 : Int32)))).toUInt32 >>> (((4 : Int32)).toUInt32 &&& Int32.toUInt32 31)).toInt32)) &&& ((252645135 : Int32))).toUInt32 >>> (((8 : Int32)).toUInt32 &&& Int32.toUInt32 31)).toInt32)).toUInt32 >>> (((16 : Int32)).toUInt32 &&& Int32.toUInt32 31)).toInt32)) &&& ((63 : Int32))) σ
set_option maxRecDepth 100000 in
set_option maxHeartbeats 4000000 in
theorem vJ6_bitCount_0f7a4 (E : Ev)  (x0 : Int32) (σ : Sto) (post : Int32 → Sto → Prop)  (h : wJ6_bitCount_0f7a4  x0 σ post) : V E 0 mJ6_bitCount_0f7a4 (pI post) 0 [(0, .int x0)] [] σ := by
  unfold wJ6_bitCount_0f7a4 at h
  refine V_iload_n (pc := 0) 0 dJ6_bitCount_0f7a4_0 rfl ?_
  refine V_iload_n (pc := 1) 0 dJ6_bitCount_0f7a4_1 rfl ?_
  refine V_iconst (pc := 2) (v := 1) dJ6_bitCount_0f7a4_2 (by decide) ?_
  refine V_iushr (pc := 3) dJ6_bitCount_0f7a4_3 ?_
  refine V_ldcw (pc := 4) dJ6_bitCount_0f7a4_4 ci_J6_265 ?_
  refine V_iand (pc := 7) dJ6_bitCount_0f7a4_7 ?_
  refine V_isub (pc := 8) dJ6_bitCount_0f7a4_8 ?_
  refine V_istore_n (pc := 9) dJ6_bitCount_0f7a4_9 (by decide) ?_
  refine V_iload_n (pc := 10) 0 dJ6_bitCount_0f7a4_10 rfl ?_
  refine V_ldcw (pc := 11) dJ6_bitCount_0f7a4_11 ci_J6_266 ?_
  refine V_iand (pc := 14) dJ6_bitCount_0f7a4_14 ?_
  refine V_iload_n (pc := 15) 0 dJ6_bitCount_0f7a4_15 rfl ?_
  refine V_iconst (pc := 16) (v := 2) dJ6_bitCount_0f7a4_16 (by decide) ?_
  refine V_iushr (pc := 17) dJ6_bitCount_0f7a4_17 ?_
  refine V_ldcw (pc := 18) dJ6_bitCount_0f7a4_18 ci_J6_266 ?_
  refine V_iand (pc := 21) dJ6_bitCount_0f7a4_21 ?_
  refine V_iadd (pc := 22) dJ6_bitCount_0f7a4_22 ?_
  refine V_istore_n (pc := 23) dJ6_bitCount_0f7a4_23 (by decide) ?_
  refine V_iload_n (pc := 24) 0 dJ6_bitCount_0f7a4_24 rfl ?_
  refine V_iload_n (pc := 25) 0 dJ6_bitCount_0f7a4_25 rfl ?_
  refine V_iconst (pc := 26) (v := 4) dJ6_bitCount_0f7a4_26 (by decide) ?_
  refine V_iushr (pc := 27) dJ6_bitCount_0f7a4_27 ?_
  refine V_iadd (pc := 28) dJ6_bitCount_0f7a4_28 ?_
  refine V_ldcw (pc := 29) dJ6_bitCount_0f7a4_29 ci_J6_267 ?_
  refine V_iand (pc := 32) dJ6_bitCount_0f7a4_32 ?_
  refine V_istore_n (pc := 33) dJ6_bitCount_0f7a4_33 (by decide) ?_
  refine V_iload_n (pc := 34) 0 dJ6_bitCount_0f7a4_34 rfl ?_
  refine V_iload_n (pc := 35) 0 dJ6_bitCount_0f7a4_35 rfl ?_
  refine V_bipush (pc := 36) (v := 8) dJ6_bitCount_0f7a4_36 (by decide) ?_
  refine V_iushr (pc := 38) dJ6_bitCount_0f7a4_38 ?_
  refine V_iadd (pc := 39) dJ6_bitCount_0f7a4_39 ?_
  refine V_istore_n (pc := 40) dJ6_bitCount_0f7a4_40 (by decide) ?_
  refine V_iload_n (pc := 41) 0 dJ6_bitCount_0f7a4_41 rfl ?_
  refine V_iload_n (pc := 42) 0 dJ6_bitCount_0f7a4_42 rfl ?_
  refine V_bipush (pc := 43) (v := 16) dJ6_bitCount_0f7a4_43 (by decide) ?_
  refine V_iushr (pc := 45) dJ6_bitCount_0f7a4_45 ?_
  refine V_iadd (pc := 46) dJ6_bitCount_0f7a4_46 ?_
  refine V_istore_n (pc := 47) dJ6_bitCount_0f7a4_47 (by decide) ?_
  refine V_iload_n (pc := 48) 0 dJ6_bitCount_0f7a4_48 rfl ?_
  refine V_bipush (pc := 49) (v := 63) dJ6_bitCount_0f7a4_49 (by decide) ?_
  refine V_iand (pc := 51) dJ6_bitCount_0f7a4_51 ?_
  exact V_iret dJ6_bitCount_0f7a4_52 rfl h
theorem dJ9_abs_0f7a4_0 : decode cJ9_abs_0f7a4 0 = .ok (.iload_n 0, 1) := by decide +kernel
theorem dJ9_abs_0f7a4_1 : decode cJ9_abs_0f7a4 1 = .ok (.ifCond .ge 8, 3) := by decide +kernel
theorem dJ9_abs_0f7a4_4 : decode cJ9_abs_0f7a4 4 = .ok (.iload_n 0, 1) := by decide +kernel
theorem dJ9_abs_0f7a4_5 : decode cJ9_abs_0f7a4 5 = .ok (.ineg, 1) := by decide +kernel
theorem dJ9_abs_0f7a4_6 : decode cJ9_abs_0f7a4 6 = .ok (.goto 4, 3) := by decide +kernel
theorem dJ9_abs_0f7a4_9 : decode cJ9_abs_0f7a4 9 = .ok (.iload_n 0, 1) := by decide +kernel
theorem dJ9_abs_0f7a4_10 : decode cJ9_abs_0f7a4 10 = .ok (.ireturn, 1) := by decide +kernel
def wJ9_abs_0f7a4  (x0 : Int32) (σ : Sto) (post : Int32 → Sto → Prop) : Prop := ((0 ≤ x0) → (post x0 σ)) ∧ ((¬ (0 ≤ x0)) → (post (-x0) σ))
set_option maxRecDepth 100000 in
set_option maxHeartbeats 4000000 in
theorem vJ9_abs_0f7a4 (E : Ev)  (x0 : Int32) (σ : Sto) (post : Int32 → Sto → Prop)  (h : wJ9_abs_0f7a4  x0 σ post) : V E 0 mJ9_abs_0f7a4 (pI post) 0 [(0, .int x0)] [] σ := by
  unfold wJ9_abs_0f7a4 at h
  refine V_iload_n (pc := 0) 0 dJ9_abs_0f7a4_0 rfl ?_
  refine V_if_ge (pc := 1) (tgt := 9) dJ9_abs_0f7a4_1 (by decide) (fun hc => ?_) (fun hc => ?_)
  · replace h := h.1 hc
    refine V_iload_n (pc := 9) 0 dJ9_abs_0f7a4_9 rfl ?_
    exact V_iret dJ9_abs_0f7a4_10 rfl h
  · replace h := h.2 hc
    refine V_iload_n (pc := 4) 0 dJ9_abs_0f7a4_4 rfl ?_
    refine V_ineg (pc := 5) dJ9_abs_0f7a4_5 ?_
    refine V_goto (pc := 6) (tgt := 10) dJ9_abs_0f7a4_6 (by decide) ?_
    exact V_iret dJ9_abs_0f7a4_10 rfl h
theorem dJ7_fill_53178_0 : decode cJ7_fill_53178 0 = .ok (.iconst 0, 1) := by decide +kernel
theorem dJ7_fill_53178_1 : decode cJ7_fill_53178 1 = .ok (.istore_n 2, 1) := by decide +kernel
theorem dJ7_fill_53178_2 : decode cJ7_fill_53178 2 = .ok (.aload_n 0, 1) := by decide +kernel
theorem dJ7_fill_53178_3 : decode cJ7_fill_53178 3 = .ok (.arraylength, 1) := by decide +kernel
theorem dJ7_fill_53178_4 : decode cJ7_fill_53178 4 = .ok (.istore_n 3, 1) := by decide +kernel
theorem dJ7_fill_53178_5 : decode cJ7_fill_53178 5 = .ok (.iload_n 2, 1) := by decide +kernel
theorem dJ7_fill_53178_6 : decode cJ7_fill_53178 6 = .ok (.iload_n 3, 1) := by decide +kernel
theorem dJ7_fill_53178_7 : decode cJ7_fill_53178 7 = .ok (.if_icmp .ge 13, 3) := by decide +kernel
theorem dJ7_fill_53178_10 : decode cJ7_fill_53178 10 = .ok (.aload_n 0, 1) := by decide +kernel
theorem dJ7_fill_53178_11 : decode cJ7_fill_53178 11 = .ok (.iload_n 2, 1) := by decide +kernel
theorem dJ7_fill_53178_12 : decode cJ7_fill_53178 12 = .ok (.iload_n 1, 1) := by decide +kernel
theorem dJ7_fill_53178_13 : decode cJ7_fill_53178 13 = .ok (.iastore, 1) := by decide +kernel
theorem dJ7_fill_53178_14 : decode cJ7_fill_53178 14 = .ok (.iinc 2 1, 3) := by decide +kernel
theorem dJ7_fill_53178_17 : decode cJ7_fill_53178 17 = .ok (.goto (-12), 3) := by decide +kernel
theorem dJ7_fill_53178_20 : decode cJ7_fill_53178 20 = .ok (.return_, 1) := by decide +kernel
def wJ7_fill_53178_5 (post : Sto → Prop) (c0 : Nat) (n0 : Nat) (K20 : Sto → Prop) : Nat → Int32 → Int32 → Int32 → Sto → Prop
  | 0, _, _, _, _ => False
  | n + 1, x1, x2, x3, σ => ((x3 ≤ x2) → (K20  σ)) ∧ ((¬ (x3 ≤ x2)) → (vp_in x2 n0 ∧ (wJ7_fill_53178_5 post c0 n0 K20 n x1 (x2 + (1 : Int32)) x3 (wI σ c0 x2.toNatClampNeg x1))))
set_option maxRecDepth 100000 in
set_option maxHeartbeats 4000000 in
theorem vJ7_fill_53178_5 (E : Ev) (post : Sto → Prop) (c0 : Nat) (n0 : Nat) (hs_c0 : gs c0 = .inl (0, n0, 0)) (K20 : Sto → Prop) (HK20 : ∀  (σ : Sto), K20  σ → V E 0 mJ7_fill_53178 (pV post) 20 [] [] σ) : ∀ (n : Nat) (x1 : Int32) (x2 : Int32) (x3 : Int32) (σ : Sto), wJ7_fill_53178_5 post c0 n0 K20 n x1 x2 x3 σ → V E 0 mJ7_fill_53178 (pV post) 5 [(0, .ref c0), (1, .int x1), (2, .int x2), (3, .int x3)] [] σ := by
  intro n
  induction n with
  | zero => intro x1 x2 x3 σ h; exact h.elim
  | succ n ih =>
    intro x1 x2 x3 σ h
    unfold wJ7_fill_53178_5 at h
    refine V_iload_n (pc := 5) 2 dJ7_fill_53178_5 rfl ?_
    refine V_iload_n (pc := 6) 3 dJ7_fill_53178_6 rfl ?_
    refine V_icmp_ge (pc := 7) (tgt := 20) dJ7_fill_53178_7 (by decide) (fun hc => ?_) (fun hc => ?_)
    · replace h := h.1 hc
      exact V_loc [] rfl (HK20  σ  h)
    · replace h := h.2 hc
      refine V_aload_n (pc := 10) 0 dJ7_fill_53178_10 rfl ?_
      refine V_iload_n (pc := 11) 2 dJ7_fill_53178_11 rfl ?_
      refine V_iload_n (pc := 12) 1 dJ7_fill_53178_12 rfl ?_
      obtain ⟨i13, h⟩ := h
      refine V_iast (pc := 13) dJ7_fill_53178_13 hs_c0 i13 ?_
      refine V_iinc (pc := 14) 2 (v := 1) dJ7_fill_53178_14 rfl (by decide) (by decide) ?_
      refine V_goto (pc := 17) (tgt := 5) dJ7_fill_53178_17 (by decide) ?_
      exact V_loc [1, 2, 0, 3] rfl (ih x1 (x2 + (1 : Int32)) x3 (wI σ c0 x2.toNatClampNeg x1)  h)
def wJ7_fill_53178 (c0 : Nat) (n0 : Nat) (x1 : Int32) (σ : Sto) (post : Sto → Prop) : Prop := ∃ n5, wJ7_fill_53178_5 post c0 n0 (fun  (σ_1 : Sto) => post σ_1) n5 x1 ((0 : Int32)) (Int32.ofNat n0) σ
set_option maxRecDepth 100000 in
set_option maxHeartbeats 4000000 in
theorem vJ7_fill_53178 (E : Ev) (c0 : Nat) (n0 : Nat) (x1 : Int32) (σ : Sto) (post : Sto → Prop) (hs_c0 : gs c0 = .inl (0, n0, 0)) (h : wJ7_fill_53178 c0 n0 x1 σ post) : V E 0 mJ7_fill_53178 (pV post) 0 [(0, .ref c0), (1, .int x1)] [] σ := by
  unfold wJ7_fill_53178 at h
  refine V_iconst (pc := 0) (v := 0) dJ7_fill_53178_0 (by decide) ?_
  refine V_istore_n (pc := 1) dJ7_fill_53178_1 (by decide) ?_
  refine V_aload_n (pc := 2) 1 dJ7_fill_53178_2 rfl ?_
  refine V_alen (pc := 3) (by decide) dJ7_fill_53178_3 hs_c0 rfl ?_
  refine V_istore_n (pc := 4) dJ7_fill_53178_4 (by decide) ?_
  obtain ⟨n5, h⟩ := h
  refine V_loc [2, 3, 1, 0] rfl (vJ7_fill_53178_5 E post c0 n0 hs_c0 _ (fun σ_1 h => ?_) n5 x1 ((0 : Int32)) (Int32.ofNat n0) σ  h)
  · exact V_vret dJ7_fill_53178_20 rfl h
theorem dJ9_abs_067f4_0 : decode cJ9_abs_067f4 0 = .ok (.lload_n 0, 1) := by decide +kernel
theorem dJ9_abs_067f4_1 : decode cJ9_abs_067f4 1 = .ok (.lconst 0, 1) := by decide +kernel
theorem dJ9_abs_067f4_2 : decode cJ9_abs_067f4 2 = .ok (.lcmp, 1) := by decide +kernel
theorem dJ9_abs_067f4_3 : decode cJ9_abs_067f4 3 = .ok (.ifCond .ge 8, 3) := by decide +kernel
theorem dJ9_abs_067f4_6 : decode cJ9_abs_067f4 6 = .ok (.lload_n 0, 1) := by decide +kernel
theorem dJ9_abs_067f4_7 : decode cJ9_abs_067f4 7 = .ok (.lneg, 1) := by decide +kernel
theorem dJ9_abs_067f4_8 : decode cJ9_abs_067f4 8 = .ok (.goto 4, 3) := by decide +kernel
theorem dJ9_abs_067f4_11 : decode cJ9_abs_067f4 11 = .ok (.lload_n 0, 1) := by decide +kernel
theorem dJ9_abs_067f4_12 : decode cJ9_abs_067f4 12 = .ok (.lreturn, 1) := by decide +kernel
def wJ9_abs_067f4  (x0 : Int64) (σ : Sto) (post : Int64 → Sto → Prop) : Prop := ((((0 : Int64)) ≤ x0) → (post x0 σ)) ∧ ((¬ (((0 : Int64)) ≤ x0)) → (post (-x0) σ))
set_option maxRecDepth 100000 in
set_option maxHeartbeats 4000000 in
theorem vJ9_abs_067f4 (E : Ev)  (x0 : Int64) (σ : Sto) (post : Int64 → Sto → Prop)  (h : wJ9_abs_067f4  x0 σ post) : V E 0 mJ9_abs_067f4 (pL post) 0 [(0, .long x0)] [] σ := by
  unfold wJ9_abs_067f4 at h
  refine V_lload_n (pc := 0) 0 dJ9_abs_067f4_0 rfl ?_
  refine V_lconst (pc := 1) (v := 0) dJ9_abs_067f4_1 (by decide) ?_
  refine V_lc_ge (pc := 2) (tgt := 11) dJ9_abs_067f4_2 dJ9_abs_067f4_3 (by decide) (fun hc => ?_) (fun hc => ?_)
  · replace h := h.1 hc
    refine V_lload_n (pc := 11) 0 dJ9_abs_067f4_11 rfl ?_
    exact V_lret dJ9_abs_067f4_12 rfl h
  · replace h := h.2 hc
    refine V_lload_n (pc := 6) 0 dJ9_abs_067f4_6 rfl ?_
    refine V_lneg (pc := 7) dJ9_abs_067f4_7 ?_
    refine V_goto (pc := 8) (tgt := 12) dJ9_abs_067f4_8 (by decide) ?_
    exact V_lret dJ9_abs_067f4_12 rfl h
theorem dJ9_max_7cf53_0 : decode cJ9_max_7cf53 0 = .ok (.iload_n 0, 1) := by decide +kernel
theorem dJ9_max_7cf53_1 : decode cJ9_max_7cf53 1 = .ok (.iload_n 1, 1) := by decide +kernel
theorem dJ9_max_7cf53_2 : decode cJ9_max_7cf53 2 = .ok (.if_icmp .lt 7, 3) := by decide +kernel
theorem dJ9_max_7cf53_5 : decode cJ9_max_7cf53 5 = .ok (.iload_n 0, 1) := by decide +kernel
theorem dJ9_max_7cf53_6 : decode cJ9_max_7cf53 6 = .ok (.goto 4, 3) := by decide +kernel
theorem dJ9_max_7cf53_9 : decode cJ9_max_7cf53 9 = .ok (.iload_n 1, 1) := by decide +kernel
theorem dJ9_max_7cf53_10 : decode cJ9_max_7cf53 10 = .ok (.ireturn, 1) := by decide +kernel
def wJ9_max_7cf53  (x0 : Int32) (x1 : Int32) (σ : Sto) (post : Int32 → Sto → Prop) : Prop := ((x0 < x1) → (post x1 σ)) ∧ ((¬ (x0 < x1)) → (post x0 σ))
set_option maxRecDepth 100000 in
set_option maxHeartbeats 4000000 in
theorem vJ9_max_7cf53 (E : Ev)  (x0 : Int32) (x1 : Int32) (σ : Sto) (post : Int32 → Sto → Prop)  (h : wJ9_max_7cf53  x0 x1 σ post) : V E 0 mJ9_max_7cf53 (pI post) 0 [(0, .int x0), (1, .int x1)] [] σ := by
  unfold wJ9_max_7cf53 at h
  refine V_iload_n (pc := 0) 0 dJ9_max_7cf53_0 rfl ?_
  refine V_iload_n (pc := 1) 1 dJ9_max_7cf53_1 rfl ?_
  refine V_icmp_lt (pc := 2) (tgt := 9) dJ9_max_7cf53_2 (by decide) (fun hc => ?_) (fun hc => ?_)
  · replace h := h.1 hc
    refine V_iload_n (pc := 9) 1 dJ9_max_7cf53_9 rfl ?_
    exact V_iret dJ9_max_7cf53_10 rfl h
  · replace h := h.2 hc
    refine V_iload_n (pc := 5) 0 dJ9_max_7cf53_5 rfl ?_
    refine V_goto (pc := 6) (tgt := 10) dJ9_max_7cf53_6 (by decide) ?_
    exact V_iret dJ9_max_7cf53_10 rfl h
theorem dX10_putInOrder_0 : decode cX10_putInOrder 0 = .ok (.iload_n 1, 1) := by decide +kernel
theorem dX10_putInOrder_1 : decode cX10_putInOrder 1 = .ok (.ifCond .lt 9, 3) := by decide +kernel
theorem dX10_putInOrder_4 : decode cX10_putInOrder 4 = .ok (.iload_n 1, 1) := by decide +kernel
theorem dX10_putInOrder_5 : decode cX10_putInOrder 5 = .ok (.aload_n 0, 1) := by decide +kernel
theorem dX10_putInOrder_6 : decode cX10_putInOrder 6 = .ok (.arraylength, 1) := by decide +kernel
theorem dX10_putInOrder_7 : decode cX10_putInOrder 7 = .ok (.if_icmp .lt 4, 3) := by decide +kernel
theorem dX10_putInOrder_10 : decode cX10_putInOrder 10 = .ok (.return_, 1) := by decide +kernel
theorem dX10_putInOrder_11 : decode cX10_putInOrder 11 = .ok (.iload_n 1, 1) := by decide +kernel
theorem dX10_putInOrder_12 : decode cX10_putInOrder 12 = .ok (.istore 4, 2) := by decide +kernel
theorem dX10_putInOrder_14 : decode cX10_putInOrder 14 = .ok (.iload 4, 2) := by decide +kernel
theorem dX10_putInOrder_16 : decode cX10_putInOrder 16 = .ok (.ifCond .le 30, 3) := by decide +kernel
theorem dX10_putInOrder_19 : decode cX10_putInOrder 19 = .ok (.aload_n 0, 1) := by decide +kernel
theorem dX10_putInOrder_20 : decode cX10_putInOrder 20 = .ok (.iload 4, 2) := by decide +kernel
theorem dX10_putInOrder_22 : decode cX10_putInOrder 22 = .ok (.iconst 1, 1) := by decide +kernel
theorem dX10_putInOrder_23 : decode cX10_putInOrder 23 = .ok (.isub, 1) := by decide +kernel
theorem dX10_putInOrder_24 : decode cX10_putInOrder 24 = .ok (.laload, 1) := by decide +kernel
theorem dX10_putInOrder_25 : decode cX10_putInOrder 25 = .ok (.lload_n 2, 1) := by decide +kernel
theorem dX10_putInOrder_26 : decode cX10_putInOrder 26 = .ok (.lcmp, 1) := by decide +kernel
theorem dX10_putInOrder_27 : decode cX10_putInOrder 27 = .ok (.ifCond .le 19, 3) := by decide +kernel
theorem dX10_putInOrder_30 : decode cX10_putInOrder 30 = .ok (.aload_n 0, 1) := by decide +kernel
theorem dX10_putInOrder_31 : decode cX10_putInOrder 31 = .ok (.iload 4, 2) := by decide +kernel
theorem dX10_putInOrder_33 : decode cX10_putInOrder 33 = .ok (.aload_n 0, 1) := by decide +kernel
theorem dX10_putInOrder_34 : decode cX10_putInOrder 34 = .ok (.iload 4, 2) := by decide +kernel
theorem dX10_putInOrder_36 : decode cX10_putInOrder 36 = .ok (.iconst 1, 1) := by decide +kernel
theorem dX10_putInOrder_37 : decode cX10_putInOrder 37 = .ok (.isub, 1) := by decide +kernel
theorem dX10_putInOrder_38 : decode cX10_putInOrder 38 = .ok (.laload, 1) := by decide +kernel
theorem dX10_putInOrder_39 : decode cX10_putInOrder 39 = .ok (.lastore, 1) := by decide +kernel
theorem dX10_putInOrder_40 : decode cX10_putInOrder 40 = .ok (.iinc 4 (-1), 3) := by decide +kernel
theorem dX10_putInOrder_43 : decode cX10_putInOrder 43 = .ok (.goto (-29), 3) := by decide +kernel
theorem dX10_putInOrder_46 : decode cX10_putInOrder 46 = .ok (.aload_n 0, 1) := by decide +kernel
theorem dX10_putInOrder_47 : decode cX10_putInOrder 47 = .ok (.iload 4, 2) := by decide +kernel
theorem dX10_putInOrder_49 : decode cX10_putInOrder 49 = .ok (.lload_n 2, 1) := by decide +kernel
theorem dX10_putInOrder_50 : decode cX10_putInOrder 50 = .ok (.lastore, 1) := by decide +kernel
theorem dX10_putInOrder_51 : decode cX10_putInOrder 51 = .ok (.return_, 1) := by decide +kernel
def wX10_putInOrder_14 (post : Sto → Prop) (c0 : Nat) (n0 : Nat) (K46 : Int64 → Int32 → Sto → Prop) : Nat → Int64 → Int32 → Sto → Prop
  | 0, _, _, _ => False
  | n + 1, x2, x4, σ => ((x4 ≤ 0) → (K46 x2 x4 σ)) ∧ ((¬ (x4 ≤ 0)) → (vp_in (x4 - ((1 : Int32))) n0 ∧ ((((σ.2 c0 (x4 - ((1 : Int32))).toNatClampNeg) ≤ x2) → (K46 x2 x4 σ)) ∧ ((¬ ((σ.2 c0 (x4 - ((1 : Int32))).toNatClampNeg) ≤ x2)) → (vp_in (x4 - ((1 : Int32))) n0 ∧ (vp_in x4 n0 ∧ (wX10_putInOrder_14 post c0 n0 K46 n x2 (x4 + (-1 : Int32)) (wL σ c0 x4.toNatClampNeg (σ.2 c0 (x4 - ((1 : Int32))).toNatClampNeg)))))))))
set_option maxRecDepth 100000 in
set_option maxHeartbeats 4000000 in
theorem vX10_putInOrder_14 (E : Ev) (post : Sto → Prop) (c0 : Nat) (n0 : Nat) (hs_c0 : gs c0 = .inl (1, n0, 0)) (K46 : Int64 → Int32 → Sto → Prop) (HK46 : ∀ (x2 : Int64) (x4 : Int32) (σ : Sto), K46 x2 x4 σ → V E 0 mX10_putInOrder (pV post) 46 [(0, .ref c0), (2, .long x2), (4, .int x4)] [] σ) : ∀ (n : Nat) (x2 : Int64) (x4 : Int32) (σ : Sto), wX10_putInOrder_14 post c0 n0 K46 n x2 x4 σ → V E 0 mX10_putInOrder (pV post) 14 [(0, .ref c0), (2, .long x2), (4, .int x4)] [] σ := by
  intro n
  induction n with
  | zero => intro x2 x4 σ h; exact h.elim
  | succ n ih =>
    intro x2 x4 σ h
    unfold wX10_putInOrder_14 at h
    refine V_iload (pc := 14) 2 dX10_putInOrder_14 rfl ?_
    refine V_if_le (pc := 16) (tgt := 46) dX10_putInOrder_16 (by decide) (fun hc => ?_) (fun hc => ?_)
    · replace h := h.1 hc
      exact V_loc [0, 1, 2] rfl (HK46 x2 x4 σ  h)
    · replace h := h.2 hc
      refine V_aload_n (pc := 19) 0 dX10_putInOrder_19 rfl ?_
      refine V_iload (pc := 20) 2 dX10_putInOrder_20 rfl ?_
      refine V_iconst (pc := 22) (v := 1) dX10_putInOrder_22 (by decide) ?_
      refine V_isub (pc := 23) dX10_putInOrder_23 ?_
      obtain ⟨i24, h⟩ := h
      refine V_lald (pc := 24) dX10_putInOrder_24 hs_c0 i24 ?_
      refine V_lload_n (pc := 25) 1 dX10_putInOrder_25 rfl ?_
      refine V_lc_le (pc := 26) (tgt := 46) dX10_putInOrder_26 dX10_putInOrder_27 (by decide) (fun hc => ?_) (fun hc => ?_)
      · replace h := h.1 hc
        exact V_loc [0, 1, 2] rfl (HK46 x2 x4 σ  h)
      · replace h := h.2 hc
        refine V_aload_n (pc := 30) 0 dX10_putInOrder_30 rfl ?_
        refine V_iload (pc := 31) 2 dX10_putInOrder_31 rfl ?_
        refine V_aload_n (pc := 33) 0 dX10_putInOrder_33 rfl ?_
        refine V_iload (pc := 34) 2 dX10_putInOrder_34 rfl ?_
        refine V_iconst (pc := 36) (v := 1) dX10_putInOrder_36 (by decide) ?_
        refine V_isub (pc := 37) dX10_putInOrder_37 ?_
        obtain ⟨i38, h⟩ := h
        refine V_lald (pc := 38) dX10_putInOrder_38 hs_c0 i38 ?_
        obtain ⟨i39, h⟩ := h
        refine V_last (pc := 39) dX10_putInOrder_39 hs_c0 i39 ?_
        refine V_iinc (pc := 40) 2 (v := -1) dX10_putInOrder_40 rfl (by decide) (by decide) ?_
        refine V_goto (pc := 43) (tgt := 14) dX10_putInOrder_43 (by decide) ?_
        exact V_loc [1, 2, 0] rfl (ih x2 (x4 + (-1 : Int32)) (wL σ c0 x4.toNatClampNeg (σ.2 c0 (x4 - ((1 : Int32))).toNatClampNeg))  h)
def wX10_putInOrder_46 (post : Sto → Prop) (c0 : Nat) (n0 : Nat)  (x2 : Int64) (x4 : Int32) (σ : Sto) : Prop := vp_in x4 n0 ∧ (post (wL σ c0 x4.toNatClampNeg x2))
set_option maxRecDepth 100000 in
set_option maxHeartbeats 4000000 in
theorem vX10_putInOrder_46 (E : Ev) (post : Sto → Prop) (c0 : Nat) (n0 : Nat) (hs_c0 : gs c0 = .inl (1, n0, 0))   (x2 : Int64) (x4 : Int32) (σ : Sto) (h : wX10_putInOrder_46 post c0 n0  x2 x4 σ) : V E 0 mX10_putInOrder (pV post) 46 [(0, .ref c0), (2, .long x2), (4, .int x4)] [] σ := by
  unfold wX10_putInOrder_46 at h
  refine V_aload_n (pc := 46) 0 dX10_putInOrder_46 rfl ?_
  refine V_iload (pc := 47) 2 dX10_putInOrder_47 rfl ?_
  refine V_lload_n (pc := 49) 1 dX10_putInOrder_49 rfl ?_
  obtain ⟨i50, h⟩ := h
  refine V_last (pc := 50) dX10_putInOrder_50 hs_c0 i50 ?_
  exact V_vret dX10_putInOrder_51 rfl h
def wX10_putInOrder (c0 : Nat) (n0 : Nat) (x1 : Int32) (x2 : Int64) (σ : Sto) (post : Sto → Prop) : Prop := ((x1 < 0) → (post σ)) ∧ ((¬ (x1 < 0)) → (((x1 < (Int32.ofNat n0)) → (∃ n14, wX10_putInOrder_14 post c0 n0 (fun (x2_1 : Int64) (x4_1 : Int32) (σ_1 : Sto) => wX10_putInOrder_46 post c0 n0  x2_1 x4_1 σ_1) n14 x2 x1 σ)) ∧ ((¬ (x1 < (Int32.ofNat n0))) → (post σ))))
set_option maxRecDepth 100000 in
set_option maxHeartbeats 4000000 in
theorem vX10_putInOrder (E : Ev) (c0 : Nat) (n0 : Nat) (x1 : Int32) (x2 : Int64) (σ : Sto) (post : Sto → Prop) (hs_c0 : gs c0 = .inl (1, n0, 0)) (h : wX10_putInOrder c0 n0 x1 x2 σ post) : V E 0 mX10_putInOrder (pV post) 0 [(0, .ref c0), (1, .int x1), (2, .long x2)] [] σ := by
  unfold wX10_putInOrder at h
  refine V_iload_n (pc := 0) 1 dX10_putInOrder_0 rfl ?_
  refine V_if_lt (pc := 1) (tgt := 10) dX10_putInOrder_1 (by decide) (fun hc => ?_) (fun hc => ?_)
  · replace h := h.1 hc
    exact V_vret dX10_putInOrder_10 rfl h
  · replace h := h.2 hc
    refine V_iload_n (pc := 4) 1 dX10_putInOrder_4 rfl ?_
    refine V_aload_n (pc := 5) 0 dX10_putInOrder_5 rfl ?_
    refine V_alen (pc := 6) (by decide) dX10_putInOrder_6 hs_c0 rfl ?_
    refine V_icmp_lt (pc := 7) (tgt := 11) dX10_putInOrder_7 (by decide) (fun hc => ?_) (fun hc => ?_)
    · replace h := h.1 hc
      refine V_iload_n (pc := 11) 1 dX10_putInOrder_11 rfl ?_
      refine V_istore (pc := 12) dX10_putInOrder_12 (by decide) ?_
      obtain ⟨n14, h⟩ := h
      refine V_loc [1, 3, 0] rfl (vX10_putInOrder_14 E post c0 n0 hs_c0 _ (fun x2_1 x4_1 σ_1 h => ?_) n14 x2 x1 σ  h)
      · refine V_loc [0, 1, 2] rfl (vX10_putInOrder_46 E post c0 n0 hs_c0   x2_1 x4_1 σ_1  h)
    · replace h := h.2 hc
      exact V_vret dX10_putInOrder_10 rfl h
theorem dJ9_floorDiv_f86c9_0 : decode cJ9_floorDiv_f86c9 0 = .ok (.lload_n 0, 1) := by decide +kernel
theorem dJ9_floorDiv_f86c9_1 : decode cJ9_floorDiv_f86c9 1 = .ok (.lload_n 2, 1) := by decide +kernel
theorem dJ9_floorDiv_f86c9_2 : decode cJ9_floorDiv_f86c9 2 = .ok (.ldiv, 1) := by decide +kernel
theorem dJ9_floorDiv_f86c9_3 : decode cJ9_floorDiv_f86c9 3 = .ok (.lstore 4, 2) := by decide +kernel
theorem dJ9_floorDiv_f86c9_5 : decode cJ9_floorDiv_f86c9 5 = .ok (.lload_n 0, 1) := by decide +kernel
theorem dJ9_floorDiv_f86c9_6 : decode cJ9_floorDiv_f86c9 6 = .ok (.lload_n 2, 1) := by decide +kernel
theorem dJ9_floorDiv_f86c9_7 : decode cJ9_floorDiv_f86c9 7 = .ok (.lxor, 1) := by decide +kernel
theorem dJ9_floorDiv_f86c9_8 : decode cJ9_floorDiv_f86c9 8 = .ok (.lconst 0, 1) := by decide +kernel
theorem dJ9_floorDiv_f86c9_9 : decode cJ9_floorDiv_f86c9 9 = .ok (.lcmp, 1) := by decide +kernel
theorem dJ9_floorDiv_f86c9_10 : decode cJ9_floorDiv_f86c9 10 = .ok (.ifCond .ge 17, 3) := by decide +kernel
theorem dJ9_floorDiv_f86c9_13 : decode cJ9_floorDiv_f86c9 13 = .ok (.lload 4, 2) := by decide +kernel
theorem dJ9_floorDiv_f86c9_15 : decode cJ9_floorDiv_f86c9 15 = .ok (.lload_n 2, 1) := by decide +kernel
theorem dJ9_floorDiv_f86c9_16 : decode cJ9_floorDiv_f86c9 16 = .ok (.lmul, 1) := by decide +kernel
theorem dJ9_floorDiv_f86c9_17 : decode cJ9_floorDiv_f86c9 17 = .ok (.lload_n 0, 1) := by decide +kernel
theorem dJ9_floorDiv_f86c9_18 : decode cJ9_floorDiv_f86c9 18 = .ok (.lcmp, 1) := by decide +kernel
theorem dJ9_floorDiv_f86c9_19 : decode cJ9_floorDiv_f86c9 19 = .ok (.ifCond .eq 8, 3) := by decide +kernel
theorem dJ9_floorDiv_f86c9_22 : decode cJ9_floorDiv_f86c9 22 = .ok (.lload 4, 2) := by decide +kernel
theorem dJ9_floorDiv_f86c9_24 : decode cJ9_floorDiv_f86c9 24 = .ok (.lconst 1, 1) := by decide +kernel
theorem dJ9_floorDiv_f86c9_25 : decode cJ9_floorDiv_f86c9 25 = .ok (.lsub, 1) := by decide +kernel
theorem dJ9_floorDiv_f86c9_26 : decode cJ9_floorDiv_f86c9 26 = .ok (.lreturn, 1) := by decide +kernel
theorem dJ9_floorDiv_f86c9_27 : decode cJ9_floorDiv_f86c9 27 = .ok (.lload 4, 2) := by decide +kernel
theorem dJ9_floorDiv_f86c9_29 : decode cJ9_floorDiv_f86c9 29 = .ok (.lreturn, 1) := by decide +kernel
def wJ9_floorDiv_f86c9  (x0 : Int64) (x2 : Int64) (σ : Sto) (post : Int64 → Sto → Prop) : Prop := (¬ x2 = 0) ∧ (((((0 : Int64)) ≤ (x0 ^^^ x2)) → (post (x0 / x2) σ)) ∧ ((¬ (((0 : Int64)) ≤ (x0 ^^^ x2))) → (((((x0 / x2) * x2) = x0) → (post (x0 / x2) σ)) ∧ ((¬ (((x0 / x2) * x2) = x0)) → (post ((x0 / x2) - ((1 : Int64))) σ)))))
set_option maxRecDepth 100000 in
set_option maxHeartbeats 4000000 in
theorem vJ9_floorDiv_f86c9 (E : Ev)  (x0 : Int64) (x2 : Int64) (σ : Sto) (post : Int64 → Sto → Prop)  (h : wJ9_floorDiv_f86c9  x0 x2 σ post) : V E 0 mJ9_floorDiv_f86c9 (pL post) 0 [(0, .long x0), (2, .long x2)] [] σ := by
  unfold wJ9_floorDiv_f86c9 at h
  refine V_lload_n (pc := 0) 0 dJ9_floorDiv_f86c9_0 rfl ?_
  refine V_lload_n (pc := 1) 1 dJ9_floorDiv_f86c9_1 rfl ?_
  obtain ⟨z2, h⟩ := h
  refine V_ldiv (pc := 2) dJ9_floorDiv_f86c9_2 z2 ?_
  refine V_lstore (pc := 3) dJ9_floorDiv_f86c9_3 (by decide) ?_
  refine V_lload_n (pc := 5) 1 dJ9_floorDiv_f86c9_5 rfl ?_
  refine V_lload_n (pc := 6) 2 dJ9_floorDiv_f86c9_6 rfl ?_
  refine V_lxor (pc := 7) dJ9_floorDiv_f86c9_7 ?_
  refine V_lconst (pc := 8) (v := 0) dJ9_floorDiv_f86c9_8 (by decide) ?_
  refine V_lc_ge (pc := 9) (tgt := 27) dJ9_floorDiv_f86c9_9 dJ9_floorDiv_f86c9_10 (by decide) (fun hc => ?_) (fun hc => ?_)
  · replace h := h.1 hc
    refine V_lload (pc := 27) 0 dJ9_floorDiv_f86c9_27 rfl ?_
    exact V_lret dJ9_floorDiv_f86c9_29 rfl h
  · replace h := h.2 hc
    refine V_lload (pc := 13) 0 dJ9_floorDiv_f86c9_13 rfl ?_
    refine V_lload_n (pc := 15) 2 dJ9_floorDiv_f86c9_15 rfl ?_
    refine V_lmul (pc := 16) dJ9_floorDiv_f86c9_16 ?_
    refine V_lload_n (pc := 17) 1 dJ9_floorDiv_f86c9_17 rfl ?_
    refine V_lc_eq (pc := 18) (tgt := 27) dJ9_floorDiv_f86c9_18 dJ9_floorDiv_f86c9_19 (by decide) (fun hc => ?_) (fun hc => ?_)
    · replace h := h.1 hc
      refine V_lload (pc := 27) 0 dJ9_floorDiv_f86c9_27 rfl ?_
      exact V_lret dJ9_floorDiv_f86c9_29 rfl h
    · replace h := h.2 hc
      refine V_lload (pc := 22) 0 dJ9_floorDiv_f86c9_22 rfl ?_
      refine V_lconst (pc := 24) (v := 1) dJ9_floorDiv_f86c9_24 (by decide) ?_
      refine V_lsub (pc := 25) dJ9_floorDiv_f86c9_25 ?_
      exact V_lret dJ9_floorDiv_f86c9_26 rfl h
theorem dJ9_min_f86c9_0 : decode cJ9_min_f86c9 0 = .ok (.lload_n 0, 1) := by decide +kernel
theorem dJ9_min_f86c9_1 : decode cJ9_min_f86c9 1 = .ok (.lload_n 2, 1) := by decide +kernel
theorem dJ9_min_f86c9_2 : decode cJ9_min_f86c9 2 = .ok (.lcmp, 1) := by decide +kernel
theorem dJ9_min_f86c9_3 : decode cJ9_min_f86c9 3 = .ok (.ifCond .gt 7, 3) := by decide +kernel
theorem dJ9_min_f86c9_6 : decode cJ9_min_f86c9 6 = .ok (.lload_n 0, 1) := by decide +kernel
theorem dJ9_min_f86c9_7 : decode cJ9_min_f86c9 7 = .ok (.goto 4, 3) := by decide +kernel
theorem dJ9_min_f86c9_10 : decode cJ9_min_f86c9 10 = .ok (.lload_n 2, 1) := by decide +kernel
theorem dJ9_min_f86c9_11 : decode cJ9_min_f86c9 11 = .ok (.lreturn, 1) := by decide +kernel
def wJ9_min_f86c9  (x0 : Int64) (x2 : Int64) (σ : Sto) (post : Int64 → Sto → Prop) : Prop := ((x2 < x0) → (post x2 σ)) ∧ ((¬ (x2 < x0)) → (post x0 σ))
set_option maxRecDepth 100000 in
set_option maxHeartbeats 4000000 in
theorem vJ9_min_f86c9 (E : Ev)  (x0 : Int64) (x2 : Int64) (σ : Sto) (post : Int64 → Sto → Prop)  (h : wJ9_min_f86c9  x0 x2 σ post) : V E 0 mJ9_min_f86c9 (pL post) 0 [(0, .long x0), (2, .long x2)] [] σ := by
  unfold wJ9_min_f86c9 at h
  refine V_lload_n (pc := 0) 0 dJ9_min_f86c9_0 rfl ?_
  refine V_lload_n (pc := 1) 1 dJ9_min_f86c9_1 rfl ?_
  refine V_lc_gt (pc := 2) (tgt := 10) dJ9_min_f86c9_2 dJ9_min_f86c9_3 (by decide) (fun hc => ?_) (fun hc => ?_)
  · replace h := h.1 hc
    refine V_lload_n (pc := 10) 1 dJ9_min_f86c9_10 rfl ?_
    exact V_lret dJ9_min_f86c9_11 rfl h
  · replace h := h.2 hc
    refine V_lload_n (pc := 6) 0 dJ9_min_f86c9_6 rfl ?_
    refine V_goto (pc := 7) (tgt := 11) dJ9_min_f86c9_7 (by decide) ?_
    exact V_lret dJ9_min_f86c9_11 rfl h
theorem dJ9_max_f86c9_0 : decode cJ9_max_f86c9 0 = .ok (.lload_n 0, 1) := by decide +kernel
theorem dJ9_max_f86c9_1 : decode cJ9_max_f86c9 1 = .ok (.lload_n 2, 1) := by decide +kernel
theorem dJ9_max_f86c9_2 : decode cJ9_max_f86c9 2 = .ok (.lcmp, 1) := by decide +kernel
theorem dJ9_max_f86c9_3 : decode cJ9_max_f86c9 3 = .ok (.ifCond .lt 7, 3) := by decide +kernel
theorem dJ9_max_f86c9_6 : decode cJ9_max_f86c9 6 = .ok (.lload_n 0, 1) := by decide +kernel
theorem dJ9_max_f86c9_7 : decode cJ9_max_f86c9 7 = .ok (.goto 4, 3) := by decide +kernel
theorem dJ9_max_f86c9_10 : decode cJ9_max_f86c9 10 = .ok (.lload_n 2, 1) := by decide +kernel
theorem dJ9_max_f86c9_11 : decode cJ9_max_f86c9 11 = .ok (.lreturn, 1) := by decide +kernel
def wJ9_max_f86c9  (x0 : Int64) (x2 : Int64) (σ : Sto) (post : Int64 → Sto → Prop) : Prop := ((x0 < x2) → (post x2 σ)) ∧ ((¬ (x0 < x2)) → (post x0 σ))
set_option maxRecDepth 100000 in
set_option maxHeartbeats 4000000 in
theorem vJ9_max_f86c9 (E : Ev)  (x0 : Int64) (x2 : Int64) (σ : Sto) (post : Int64 → Sto → Prop)  (h : wJ9_max_f86c9  x0 x2 σ post) : V E 0 mJ9_max_f86c9 (pL post) 0 [(0, .long x0), (2, .long x2)] [] σ := by
  unfold wJ9_max_f86c9 at h
  refine V_lload_n (pc := 0) 0 dJ9_max_f86c9_0 rfl ?_
  refine V_lload_n (pc := 1) 1 dJ9_max_f86c9_1 rfl ?_
  refine V_lc_lt (pc := 2) (tgt := 10) dJ9_max_f86c9_2 dJ9_max_f86c9_3 (by decide) (fun hc => ?_) (fun hc => ?_)
  · replace h := h.1 hc
    refine V_lload_n (pc := 10) 1 dJ9_max_f86c9_10 rfl ?_
    exact V_lret dJ9_max_f86c9_11 rfl h
  · replace h := h.2 hc
    refine V_lload_n (pc := 6) 0 dJ9_max_f86c9_6 rfl ?_
    refine V_goto (pc := 7) (tgt := 11) dJ9_max_f86c9_7 (by decide) ?_
    exact V_lret dJ9_max_f86c9_11 rfl h
theorem dJ6_signum_0f7a4_0 : decode cJ6_signum_0f7a4 0 = .ok (.iload_n 0, 1) := by decide +kernel
theorem dJ6_signum_0f7a4_1 : decode cJ6_signum_0f7a4 1 = .ok (.bipush 31, 2) := by decide +kernel
theorem dJ6_signum_0f7a4_3 : decode cJ6_signum_0f7a4 3 = .ok (.ishr, 1) := by decide +kernel
theorem dJ6_signum_0f7a4_4 : decode cJ6_signum_0f7a4 4 = .ok (.iload_n 0, 1) := by decide +kernel
theorem dJ6_signum_0f7a4_5 : decode cJ6_signum_0f7a4 5 = .ok (.ineg, 1) := by decide +kernel
theorem dJ6_signum_0f7a4_6 : decode cJ6_signum_0f7a4 6 = .ok (.bipush 31, 2) := by decide +kernel
theorem dJ6_signum_0f7a4_8 : decode cJ6_signum_0f7a4 8 = .ok (.iushr, 1) := by decide +kernel
theorem dJ6_signum_0f7a4_9 : decode cJ6_signum_0f7a4 9 = .ok (.ior, 1) := by decide +kernel
theorem dJ6_signum_0f7a4_10 : decode cJ6_signum_0f7a4 10 = .ok (.ireturn, 1) := by decide +kernel
def wJ6_signum_0f7a4  (x0 : Int32) (σ : Sto) (post : Int32 → Sto → Prop) : Prop := post ((x0 >>> (((31 : Int32)) &&& 31)) ||| (((-x0).toUInt32 >>> (((31 : Int32)).toUInt32 &&& Int32.toUInt32 31)).toInt32)) σ
set_option maxRecDepth 100000 in
set_option maxHeartbeats 4000000 in
theorem vJ6_signum_0f7a4 (E : Ev)  (x0 : Int32) (σ : Sto) (post : Int32 → Sto → Prop)  (h : wJ6_signum_0f7a4  x0 σ post) : V E 0 mJ6_signum_0f7a4 (pI post) 0 [(0, .int x0)] [] σ := by
  unfold wJ6_signum_0f7a4 at h
  refine V_iload_n (pc := 0) 0 dJ6_signum_0f7a4_0 rfl ?_
  refine V_bipush (pc := 1) (v := 31) dJ6_signum_0f7a4_1 (by decide) ?_
  refine V_ishr (pc := 3) dJ6_signum_0f7a4_3 ?_
  refine V_iload_n (pc := 4) 0 dJ6_signum_0f7a4_4 rfl ?_
  refine V_ineg (pc := 5) dJ6_signum_0f7a4_5 ?_
  refine V_bipush (pc := 6) (v := 31) dJ6_signum_0f7a4_6 (by decide) ?_
  refine V_iushr (pc := 8) dJ6_signum_0f7a4_8 ?_
  refine V_ior (pc := 9) dJ6_signum_0f7a4_9 ?_
  exact V_iret dJ6_signum_0f7a4_10 rfl h
theorem dJ7_fill_d0a16_0 : decode cJ7_fill_d0a16 0 = .ok (.iconst 0, 1) := by decide +kernel
theorem dJ7_fill_d0a16_1 : decode cJ7_fill_d0a16 1 = .ok (.istore_n 3, 1) := by decide +kernel
theorem dJ7_fill_d0a16_2 : decode cJ7_fill_d0a16 2 = .ok (.aload_n 0, 1) := by decide +kernel
theorem dJ7_fill_d0a16_3 : decode cJ7_fill_d0a16 3 = .ok (.arraylength, 1) := by decide +kernel
theorem dJ7_fill_d0a16_4 : decode cJ7_fill_d0a16 4 = .ok (.istore 4, 2) := by decide +kernel
theorem dJ7_fill_d0a16_6 : decode cJ7_fill_d0a16 6 = .ok (.iload_n 3, 1) := by decide +kernel
theorem dJ7_fill_d0a16_7 : decode cJ7_fill_d0a16 7 = .ok (.iload 4, 2) := by decide +kernel
theorem dJ7_fill_d0a16_9 : decode cJ7_fill_d0a16 9 = .ok (.if_icmp .ge 13, 3) := by decide +kernel
theorem dJ7_fill_d0a16_12 : decode cJ7_fill_d0a16 12 = .ok (.aload_n 0, 1) := by decide +kernel
theorem dJ7_fill_d0a16_13 : decode cJ7_fill_d0a16 13 = .ok (.iload_n 3, 1) := by decide +kernel
theorem dJ7_fill_d0a16_14 : decode cJ7_fill_d0a16 14 = .ok (.lload_n 1, 1) := by decide +kernel
theorem dJ7_fill_d0a16_15 : decode cJ7_fill_d0a16 15 = .ok (.lastore, 1) := by decide +kernel
theorem dJ7_fill_d0a16_16 : decode cJ7_fill_d0a16 16 = .ok (.iinc 3 1, 3) := by decide +kernel
theorem dJ7_fill_d0a16_19 : decode cJ7_fill_d0a16 19 = .ok (.goto (-13), 3) := by decide +kernel
theorem dJ7_fill_d0a16_22 : decode cJ7_fill_d0a16 22 = .ok (.return_, 1) := by decide +kernel
def wJ7_fill_d0a16_6 (post : Sto → Prop) (c0 : Nat) (n0 : Nat) (K22 : Sto → Prop) : Nat → Int64 → Int32 → Int32 → Sto → Prop
  | 0, _, _, _, _ => False
  | n + 1, x1, x3, x4, σ => ((x4 ≤ x3) → (K22  σ)) ∧ ((¬ (x4 ≤ x3)) → (vp_in x3 n0 ∧ (wJ7_fill_d0a16_6 post c0 n0 K22 n x1 (x3 + (1 : Int32)) x4 (wL σ c0 x3.toNatClampNeg x1))))
set_option maxRecDepth 100000 in
set_option maxHeartbeats 4000000 in
theorem vJ7_fill_d0a16_6 (E : Ev) (post : Sto → Prop) (c0 : Nat) (n0 : Nat) (hs_c0 : gs c0 = .inl (1, n0, 0)) (K22 : Sto → Prop) (HK22 : ∀  (σ : Sto), K22  σ → V E 0 mJ7_fill_d0a16 (pV post) 22 [] [] σ) : ∀ (n : Nat) (x1 : Int64) (x3 : Int32) (x4 : Int32) (σ : Sto), wJ7_fill_d0a16_6 post c0 n0 K22 n x1 x3 x4 σ → V E 0 mJ7_fill_d0a16 (pV post) 6 [(0, .ref c0), (1, .long x1), (3, .int x3), (4, .int x4)] [] σ := by
  intro n
  induction n with
  | zero => intro x1 x3 x4 σ h; exact h.elim
  | succ n ih =>
    intro x1 x3 x4 σ h
    unfold wJ7_fill_d0a16_6 at h
    refine V_iload_n (pc := 6) 2 dJ7_fill_d0a16_6 rfl ?_
    refine V_iload (pc := 7) 3 dJ7_fill_d0a16_7 rfl ?_
    refine V_icmp_ge (pc := 9) (tgt := 22) dJ7_fill_d0a16_9 (by decide) (fun hc => ?_) (fun hc => ?_)
    · replace h := h.1 hc
      exact V_loc [] rfl (HK22  σ  h)
    · replace h := h.2 hc
      refine V_aload_n (pc := 12) 0 dJ7_fill_d0a16_12 rfl ?_
      refine V_iload_n (pc := 13) 2 dJ7_fill_d0a16_13 rfl ?_
      refine V_lload_n (pc := 14) 1 dJ7_fill_d0a16_14 rfl ?_
      obtain ⟨i15, h⟩ := h
      refine V_last (pc := 15) dJ7_fill_d0a16_15 hs_c0 i15 ?_
      refine V_iinc (pc := 16) 2 (v := 1) dJ7_fill_d0a16_16 rfl (by decide) (by decide) ?_
      refine V_goto (pc := 19) (tgt := 6) dJ7_fill_d0a16_19 (by decide) ?_
      exact V_loc [1, 2, 0, 3] rfl (ih x1 (x3 + (1 : Int32)) x4 (wL σ c0 x3.toNatClampNeg x1)  h)
def wJ7_fill_d0a16 (c0 : Nat) (n0 : Nat) (x1 : Int64) (σ : Sto) (post : Sto → Prop) : Prop := ∃ n6, wJ7_fill_d0a16_6 post c0 n0 (fun  (σ_1 : Sto) => post σ_1) n6 x1 ((0 : Int32)) (Int32.ofNat n0) σ
set_option maxRecDepth 100000 in
set_option maxHeartbeats 4000000 in
theorem vJ7_fill_d0a16 (E : Ev) (c0 : Nat) (n0 : Nat) (x1 : Int64) (σ : Sto) (post : Sto → Prop) (hs_c0 : gs c0 = .inl (1, n0, 0)) (h : wJ7_fill_d0a16 c0 n0 x1 σ post) : V E 0 mJ7_fill_d0a16 (pV post) 0 [(0, .ref c0), (1, .long x1)] [] σ := by
  unfold wJ7_fill_d0a16 at h
  refine V_iconst (pc := 0) (v := 0) dJ7_fill_d0a16_0 (by decide) ?_
  refine V_istore_n (pc := 1) dJ7_fill_d0a16_1 (by decide) ?_
  refine V_aload_n (pc := 2) 1 dJ7_fill_d0a16_2 rfl ?_
  refine V_alen (pc := 3) (by decide) dJ7_fill_d0a16_3 hs_c0 rfl ?_
  refine V_istore (pc := 4) dJ7_fill_d0a16_4 (by decide) ?_
  obtain ⟨n6, h⟩ := h
  refine V_loc [2, 3, 1, 0] rfl (vJ7_fill_d0a16_6 E post c0 n0 hs_c0 _ (fun σ_1 h => ?_) n6 x1 ((0 : Int32)) (Int32.ofNat n0) σ  h)
  · exact V_vret dJ7_fill_d0a16_22 rfl h
theorem dX10_nearest_0 : decode cX10_nearest 0 = .ok (.lload_n 2, 1) := by decide +kernel
theorem dX10_nearest_1 : decode cX10_nearest 1 = .ok (.lconst 0, 1) := by decide +kernel
theorem dX10_nearest_2 : decode cX10_nearest 2 = .ok (.lcmp, 1) := by decide +kernel
theorem dX10_nearest_3 : decode cX10_nearest 3 = .ok (.ifCond .le 21, 3) := by decide +kernel
theorem dX10_nearest_6 : decode cX10_nearest 6 = .ok (.ldc2_w 355, 3) := by decide +kernel
theorem dX10_nearest_9 : decode cX10_nearest 9 = .ok (.lload_n 0, 1) := by decide +kernel
theorem dX10_nearest_10 : decode cX10_nearest 10 = .ok (.lmul, 1) := by decide +kernel
theorem dX10_nearest_11 : decode cX10_nearest 11 = .ok (.lload_n 2, 1) := by decide +kernel
theorem dX10_nearest_12 : decode cX10_nearest 12 = .ok (.ladd, 1) := by decide +kernel
theorem dX10_nearest_13 : decode cX10_nearest 13 = .ok (.ldc2_w 355, 3) := by decide +kernel
theorem dX10_nearest_16 : decode cX10_nearest 16 = .ok (.lload_n 2, 1) := by decide +kernel
theorem dX10_nearest_17 : decode cX10_nearest 17 = .ok (.lmul, 1) := by decide +kernel
theorem dX10_nearest_18 : decode cX10_nearest 18 = .ok (.invokestatic 357, 3) := by decide +kernel
theorem dX10_nearest_21 : decode cX10_nearest 21 = .ok (.goto 4, 3) := by decide +kernel
theorem dX10_nearest_24 : decode cX10_nearest 24 = .ok (.lconst 0, 1) := by decide +kernel
theorem dX10_nearest_25 : decode cX10_nearest 25 = .ok (.lreturn, 1) := by decide +kernel
def wX10_nearest  (x0 : Int64) (x2 : Int64) (σ : Sto) (post : Int64 → Sto → Prop) : Prop := ((x2 ≤ ((0 : Int64))) → (post ((0 : Int64)) σ)) ∧ ((¬ (x2 ≤ ((0 : Int64)))) → (wJ9_floorDiv_f86c9  ((((2 : Int64)) * x0) + x2) (((2 : Int64)) * x2) σ (fun (r18 : Int64) (s18 : Sto) => post r18 s18)))
set_option maxRecDepth 100000 in
set_option maxHeartbeats 4000000 in
theorem vX10_nearest (E : Ev)  (x0 : Int64) (x2 : Int64) (σ : Sto) (post : Int64 → Sto → Prop)  (h : wX10_nearest  x0 x2 σ post) : V E 1 mX10_nearest (pL post) 0 [(0, .long x0), (2, .long x2)] [] σ := by
  unfold wX10_nearest at h
  refine V_lload_n (pc := 0) 1 dX10_nearest_0 rfl ?_
  refine V_lconst (pc := 1) (v := 0) dX10_nearest_1 (by decide) ?_
  refine V_lc_le (pc := 2) (tgt := 24) dX10_nearest_2 dX10_nearest_3 (by decide) (fun hc => ?_) (fun hc => ?_)
  · replace h := h.1 hc
    refine V_lconst (pc := 24) (v := 0) dX10_nearest_24 (by decide) ?_
    exact V_lret dX10_nearest_25 rfl h
  · replace h := h.2 hc
    refine V_ldc2 (pc := 6) dX10_nearest_6 cl_X10_355 ?_
    refine V_lload_n (pc := 9) 0 dX10_nearest_9 rfl ?_
    refine V_lmul (pc := 10) dX10_nearest_10 ?_
    refine V_lload_n (pc := 11) 1 dX10_nearest_11 rfl ?_
    refine V_ladd (pc := 12) dX10_nearest_12 ?_
    refine V_ldc2 (pc := 13) dX10_nearest_13 cl_X10_355 ?_
    refine V_lload_n (pc := 16) 1 dX10_nearest_16 rfl ?_
    refine V_lmul (pc := 17) dX10_nearest_17 ?_
    refine V_callS (pc := 18) (M' := mJ9_floorDiv_f86c9) dX10_nearest_18 ml_X10_357 ks_J9_floorDiv_f86c9 ko_J9_floorDiv_f86c9 (by decide) rfl (Nat.le_of_ble_eq_true rfl) (Nat.le_of_ble_eq_true rfl) (vJ9_floorDiv_f86c9 E  ((((2 : Int64)) * x0) + x2) (((2 : Int64)) * x2) σ _  h) (kL (fun r18 s18 h => ?_))
    refine V_goto (pc := 21) (tgt := 25) dX10_nearest_21 (by decide) ?_
    exact V_lret dX10_nearest_25 rfl h
theorem dX10_noPiece_0 : decode cX10_noPiece 0 = .ok (.iload_n 0, 1) := by decide +kernel
theorem dX10_noPiece_1 : decode cX10_noPiece 1 = .ok (.ifCond .lt 8, 3) := by decide +kernel
theorem dX10_noPiece_4 : decode cX10_noPiece 4 = .ok (.iload_n 0, 1) := by decide +kernel
theorem dX10_noPiece_5 : decode cX10_noPiece 5 = .ok (.iconst 4, 1) := by decide +kernel
theorem dX10_noPiece_6 : decode cX10_noPiece 6 = .ok (.if_icmp .lt 7, 3) := by decide +kernel
theorem dX10_noPiece_9 : decode cX10_noPiece 9 = .ok (.iconst 1, 1) := by decide +kernel
theorem dX10_noPiece_10 : decode cX10_noPiece 10 = .ok (.goto 4, 3) := by decide +kernel
theorem dX10_noPiece_13 : decode cX10_noPiece 13 = .ok (.iconst 0, 1) := by decide +kernel
theorem dX10_noPiece_14 : decode cX10_noPiece 14 = .ok (.ireturn, 1) := by decide +kernel
def wX10_noPiece  (x0 : Int32) (σ : Sto) (post : Bool → Sto → Prop) : Prop := ((x0 < 0) → (post true σ)) ∧ ((¬ (x0 < 0)) → (((x0 < ((4 : Int32))) → (post false σ)) ∧ ((¬ (x0 < ((4 : Int32)))) → (post true σ))))
set_option maxRecDepth 100000 in
set_option maxHeartbeats 4000000 in
theorem vX10_noPiece (E : Ev)  (x0 : Int32) (σ : Sto) (post : Bool → Sto → Prop)  (h : wX10_noPiece  x0 σ post) : V E 0 mX10_noPiece (pB post) 0 [(0, .int x0)] [] σ := by
  unfold wX10_noPiece at h
  refine V_iload_n (pc := 0) 0 dX10_noPiece_0 rfl ?_
  refine V_if_lt (pc := 1) (tgt := 9) dX10_noPiece_1 (by decide) (fun hc => ?_) (fun hc => ?_)
  · replace h := h.1 hc
    refine V_iconst (pc := 9) (v := 1) dX10_noPiece_9 (by decide) ?_
    refine V_goto (pc := 10) (tgt := 14) dX10_noPiece_10 (by decide) ?_
    exact V_zret true rfl dX10_noPiece_14 rfl h
  · replace h := h.2 hc
    refine V_iload_n (pc := 4) 0 dX10_noPiece_4 rfl ?_
    refine V_iconst (pc := 5) (v := 4) dX10_noPiece_5 (by decide) ?_
    refine V_icmp_lt (pc := 6) (tgt := 13) dX10_noPiece_6 (by decide) (fun hc => ?_) (fun hc => ?_)
    · replace h := h.1 hc
      refine V_iconst (pc := 13) (v := 0) dX10_noPiece_13 (by decide) ?_
      exact V_zret false rfl dX10_noPiece_14 rfl h
    · replace h := h.2 hc
      refine V_iconst (pc := 9) (v := 1) dX10_noPiece_9 (by decide) ?_
      refine V_goto (pc := 10) (tgt := 14) dX10_noPiece_10 (by decide) ?_
      exact V_zret true rfl dX10_noPiece_14 rfl h
theorem dX10_noSheet_0 : decode cX10_noSheet 0 = .ok (.iload_n 0, 1) := by decide +kernel
theorem dX10_noSheet_1 : decode cX10_noSheet 1 = .ok (.ifCond .lt 8, 3) := by decide +kernel
theorem dX10_noSheet_4 : decode cX10_noSheet 4 = .ok (.iload_n 0, 1) := by decide +kernel
theorem dX10_noSheet_5 : decode cX10_noSheet 5 = .ok (.iconst 4, 1) := by decide +kernel
theorem dX10_noSheet_6 : decode cX10_noSheet 6 = .ok (.if_icmp .lt 7, 3) := by decide +kernel
theorem dX10_noSheet_9 : decode cX10_noSheet 9 = .ok (.iconst 1, 1) := by decide +kernel
theorem dX10_noSheet_10 : decode cX10_noSheet 10 = .ok (.goto 4, 3) := by decide +kernel
theorem dX10_noSheet_13 : decode cX10_noSheet 13 = .ok (.iconst 0, 1) := by decide +kernel
theorem dX10_noSheet_14 : decode cX10_noSheet 14 = .ok (.ireturn, 1) := by decide +kernel
def wX10_noSheet  (x0 : Int32) (σ : Sto) (post : Bool → Sto → Prop) : Prop := ((x0 < 0) → (post true σ)) ∧ ((¬ (x0 < 0)) → (((x0 < ((4 : Int32))) → (post false σ)) ∧ ((¬ (x0 < ((4 : Int32)))) → (post true σ))))
set_option maxRecDepth 100000 in
set_option maxHeartbeats 4000000 in
theorem vX10_noSheet (E : Ev)  (x0 : Int32) (σ : Sto) (post : Bool → Sto → Prop)  (h : wX10_noSheet  x0 σ post) : V E 0 mX10_noSheet (pB post) 0 [(0, .int x0)] [] σ := by
  unfold wX10_noSheet at h
  refine V_iload_n (pc := 0) 0 dX10_noSheet_0 rfl ?_
  refine V_if_lt (pc := 1) (tgt := 9) dX10_noSheet_1 (by decide) (fun hc => ?_) (fun hc => ?_)
  · replace h := h.1 hc
    refine V_iconst (pc := 9) (v := 1) dX10_noSheet_9 (by decide) ?_
    refine V_goto (pc := 10) (tgt := 14) dX10_noSheet_10 (by decide) ?_
    exact V_zret true rfl dX10_noSheet_14 rfl h
  · replace h := h.2 hc
    refine V_iload_n (pc := 4) 0 dX10_noSheet_4 rfl ?_
    refine V_iconst (pc := 5) (v := 4) dX10_noSheet_5 (by decide) ?_
    refine V_icmp_lt (pc := 6) (tgt := 13) dX10_noSheet_6 (by decide) (fun hc => ?_) (fun hc => ?_)
    · replace h := h.1 hc
      refine V_iconst (pc := 13) (v := 0) dX10_noSheet_13 (by decide) ?_
      exact V_zret false rfl dX10_noSheet_14 rfl h
    · replace h := h.2 hc
      refine V_iconst (pc := 9) (v := 1) dX10_noSheet_9 (by decide) ?_
      refine V_goto (pc := 10) (tgt := 14) dX10_noSheet_10 (by decide) ?_
      exact V_zret true rfl dX10_noSheet_14 rfl h
theorem dX10_refusal_0 : decode cX10_refusal 0 = .ok (.ldc2_w 249, 3) := by decide +kernel
theorem dX10_refusal_3 : decode cX10_refusal 3 = .ok (.iload_n 0, 1) := by decide +kernel
theorem dX10_refusal_4 : decode cX10_refusal 4 = .ok (.i2l, 1) := by decide +kernel
theorem dX10_refusal_5 : decode cX10_refusal 5 = .ok (.lsub, 1) := by decide +kernel
theorem dX10_refusal_6 : decode cX10_refusal 6 = .ok (.lreturn, 1) := by decide +kernel
def wX10_refusal  (x0 : Int32) (σ : Sto) (post : Int64 → Sto → Prop) : Prop := post (((-9223372036854775808 : Int64)) - x0.toInt64) σ
set_option maxRecDepth 100000 in
set_option maxHeartbeats 4000000 in
theorem vX10_refusal (E : Ev)  (x0 : Int32) (σ : Sto) (post : Int64 → Sto → Prop)  (h : wX10_refusal  x0 σ post) : V E 0 mX10_refusal (pL post) 0 [(0, .int x0)] [] σ := by
  unfold wX10_refusal at h
  refine V_ldc2 (pc := 0) dX10_refusal_0 cl_X10_249 ?_
  refine V_iload_n (pc := 3) 0 dX10_refusal_3 rfl ?_
  refine V_i2l (pc := 4) dX10_refusal_4 ?_
  refine V_lsub (pc := 5) dX10_refusal_5 ?_
  exact V_lret dX10_refusal_6 rfl h
theorem dX10_noType_0 : decode cX10_noType 0 = .ok (.iload_n 0, 1) := by decide +kernel
theorem dX10_noType_1 : decode cX10_noType 1 = .ok (.ifCond .lt 8, 3) := by decide +kernel
theorem dX10_noType_4 : decode cX10_noType 4 = .ok (.iload_n 0, 1) := by decide +kernel
theorem dX10_noType_5 : decode cX10_noType 5 = .ok (.iconst 3, 1) := by decide +kernel
theorem dX10_noType_6 : decode cX10_noType 6 = .ok (.if_icmp .lt 7, 3) := by decide +kernel
theorem dX10_noType_9 : decode cX10_noType 9 = .ok (.iconst 1, 1) := by decide +kernel
theorem dX10_noType_10 : decode cX10_noType 10 = .ok (.goto 4, 3) := by decide +kernel
theorem dX10_noType_13 : decode cX10_noType 13 = .ok (.iconst 0, 1) := by decide +kernel
theorem dX10_noType_14 : decode cX10_noType 14 = .ok (.ireturn, 1) := by decide +kernel
def wX10_noType  (x0 : Int32) (σ : Sto) (post : Bool → Sto → Prop) : Prop := ((x0 < 0) → (post true σ)) ∧ ((¬ (x0 < 0)) → (((x0 < ((3 : Int32))) → (post false σ)) ∧ ((¬ (x0 < ((3 : Int32)))) → (post true σ))))
set_option maxRecDepth 100000 in
set_option maxHeartbeats 4000000 in
theorem vX10_noType (E : Ev)  (x0 : Int32) (σ : Sto) (post : Bool → Sto → Prop)  (h : wX10_noType  x0 σ post) : V E 0 mX10_noType (pB post) 0 [(0, .int x0)] [] σ := by
  unfold wX10_noType at h
  refine V_iload_n (pc := 0) 0 dX10_noType_0 rfl ?_
  refine V_if_lt (pc := 1) (tgt := 9) dX10_noType_1 (by decide) (fun hc => ?_) (fun hc => ?_)
  · replace h := h.1 hc
    refine V_iconst (pc := 9) (v := 1) dX10_noType_9 (by decide) ?_
    refine V_goto (pc := 10) (tgt := 14) dX10_noType_10 (by decide) ?_
    exact V_zret true rfl dX10_noType_14 rfl h
  · replace h := h.2 hc
    refine V_iload_n (pc := 4) 0 dX10_noType_4 rfl ?_
    refine V_iconst (pc := 5) (v := 3) dX10_noType_5 (by decide) ?_
    refine V_icmp_lt (pc := 6) (tgt := 13) dX10_noType_6 (by decide) (fun hc => ?_) (fun hc => ?_)
    · replace h := h.1 hc
      refine V_iconst (pc := 13) (v := 0) dX10_noType_13 (by decide) ?_
      exact V_zret false rfl dX10_noType_14 rfl h
    · replace h := h.2 hc
      refine V_iconst (pc := 9) (v := 1) dX10_noType_9 (by decide) ?_
      refine V_goto (pc := 10) (tgt := 14) dX10_noType_10 (by decide) ?_
      exact V_zret true rfl dX10_noType_14 rfl h
theorem dJ9_min_7cf53_0 : decode cJ9_min_7cf53 0 = .ok (.iload_n 0, 1) := by decide +kernel
theorem dJ9_min_7cf53_1 : decode cJ9_min_7cf53 1 = .ok (.iload_n 1, 1) := by decide +kernel
theorem dJ9_min_7cf53_2 : decode cJ9_min_7cf53 2 = .ok (.if_icmp .gt 7, 3) := by decide +kernel
theorem dJ9_min_7cf53_5 : decode cJ9_min_7cf53 5 = .ok (.iload_n 0, 1) := by decide +kernel
theorem dJ9_min_7cf53_6 : decode cJ9_min_7cf53 6 = .ok (.goto 4, 3) := by decide +kernel
theorem dJ9_min_7cf53_9 : decode cJ9_min_7cf53 9 = .ok (.iload_n 1, 1) := by decide +kernel
theorem dJ9_min_7cf53_10 : decode cJ9_min_7cf53 10 = .ok (.ireturn, 1) := by decide +kernel
def wJ9_min_7cf53  (x0 : Int32) (x1 : Int32) (σ : Sto) (post : Int32 → Sto → Prop) : Prop := ((x1 < x0) → (post x1 σ)) ∧ ((¬ (x1 < x0)) → (post x0 σ))
set_option maxRecDepth 100000 in
set_option maxHeartbeats 4000000 in
theorem vJ9_min_7cf53 (E : Ev)  (x0 : Int32) (x1 : Int32) (σ : Sto) (post : Int32 → Sto → Prop)  (h : wJ9_min_7cf53  x0 x1 σ post) : V E 0 mJ9_min_7cf53 (pI post) 0 [(0, .int x0), (1, .int x1)] [] σ := by
  unfold wJ9_min_7cf53 at h
  refine V_iload_n (pc := 0) 0 dJ9_min_7cf53_0 rfl ?_
  refine V_iload_n (pc := 1) 1 dJ9_min_7cf53_1 rfl ?_
  refine V_icmp_gt (pc := 2) (tgt := 9) dJ9_min_7cf53_2 (by decide) (fun hc => ?_) (fun hc => ?_)
  · replace h := h.1 hc
    refine V_iload_n (pc := 9) 1 dJ9_min_7cf53_9 rfl ?_
    exact V_iret dJ9_min_7cf53_10 rfl h
  · replace h := h.2 hc
    refine V_iload_n (pc := 5) 0 dJ9_min_7cf53_5 rfl ?_
    refine V_goto (pc := 6) (tgt := 10) dJ9_min_7cf53_6 (by decide) ?_
    exact V_iret dJ9_min_7cf53_10 rfl h
