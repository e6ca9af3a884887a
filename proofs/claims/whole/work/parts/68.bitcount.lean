def bcv (x0 : Int32) : Int32 :=
  let x1 := x0 - (((x0.toUInt32 >>> (((1 : Int32)).toUInt32 &&& Int32.toUInt32 31)).toInt32) &&& ((1431655765 : Int32)))
  let x2 := (x1 &&& ((858993459 : Int32))) + (((x1.toUInt32 >>> (((2 : Int32)).toUInt32 &&& Int32.toUInt32 31)).toInt32) &&& ((858993459 : Int32)))
  let x3 := (x2 + ((x2.toUInt32 >>> (((4 : Int32)).toUInt32 &&& Int32.toUInt32 31)).toInt32)) &&& ((252645135 : Int32))
  let x4 := x3 + ((x3.toUInt32 >>> (((8 : Int32)).toUInt32 &&& Int32.toUInt32 31)).toInt32)
  let x5 := x4 + ((x4.toUInt32 >>> (((16 : Int32)).toUInt32 &&& Int32.toUInt32 31)).toInt32)
  x5 &&& ((63 : Int32))
theorem bc_all : (List.range 16384).all (fun m => decide (bcv (nI m) = nI (onesN 14 m))) = true := by decide +kernel
theorem bc_v {m : Nat} (h : m < 16384) : bcv (nI m) = nI (pc m) := by
  have := List.all_eq_true.mp bc_all m (List.mem_range.mpr h)
  rw [of_decide_eq_true this, ones_cnt]
  rfl
theorem bc_ok {m : Nat} {σ : Sto} {post : Int32 → Sto → Prop} (h : m < 16384) (hq : post (nI (pc m)) σ) : wJ6_bitCount_0f7a4 (nI m) σ post := by
  have : post (bcv (nI m)) σ := by rw [bc_v h]; exact hq
  exact this
theorem pc_le (m : Nat) : pc m ≤ 14 := cnt_le
