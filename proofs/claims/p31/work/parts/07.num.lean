/-! Int in its range, and Int32, Int64 -/
abbrev zIn (x : Int) : Prop := -2147483648 ≤ x ∧ x ≤ 2147483647
abbrev zIm (x : Int) : Prop := -9223372036854775808 ≤ x ∧ x ≤ 9223372036854775807
abbrev zo (x : Int) : Int32 := Int32.ofInt x
abbrev zp (x : Int) : Int64 := Int64.ofInt x
theorem zwr_in (x : Int) : zIn (zwr x) := by unfold zwr; omega
theorem zwl_in (x : Int) : zIm (zwl x) := by unfold zwl; omega
theorem zwr_eq {x : Int} (h : zIn x) : zwr x = x := by unfold zwr; omega
theorem zwl_eq {x : Int} (h : zIm x) : zwl x = x := by unfold zwl; omega
theorem zto {x : Int} (h : zIn x) : (zo x).toInt = x := Int32.toInt_ofInt_of_le (by omega) (by omega)
theorem ztp {x : Int} (h : zIm x) : (zp x).toInt = x := Int64.toInt_ofInt_of_le (by omega) (by omega)
theorem ztI (x : Int32) : zIn x.toInt := ⟨by have := x.le_toInt; omega, by have := x.toInt_lt; omega⟩
theorem ztM (x : Int64) : zIm x.toInt := ⟨by have := x.le_toInt; omega, by have := x.toInt_lt; omega⟩
theorem zoI (x : Int32) : zo x.toInt = x := Int32.ofInt_toInt x
theorem zo_wr (x : Int) : zo (zwr x) = zo x := by
  apply Int32.toInt_inj.mp
  rw [zto (zwr_in x), Int32.toInt_ofInt]
  show zwr x = x.bmod 4294967296
  unfold zwr Int.bmod
  simp only [show ((4294967296 : Nat) : Int) = 4294967296 from rfl]
  split <;> omega
theorem zp_wl (x : Int) : zp (zwl x) = zp x := by
  apply Int64.toInt_inj.mp
  rw [ztp (zwl_in x), Int64.toInt_ofInt]
  show zwl x = x.bmod 18446744073709551616
  unfold zwl Int.bmod
  simp only [show ((18446744073709551616 : Nat) : Int) = 18446744073709551616 from rfl]
  split <;> omega
theorem zo_inj {x y : Int} (hx : zIn x) (hy : zIn y) : zo x = zo y ↔ x = y := ⟨fun h => by rw [← zto hx, ← zto hy, h], fun h => by rw [h]⟩
theorem zo_le {x y : Int} (hx : zIn x) (hy : zIn y) : zo x ≤ zo y ↔ x ≤ y := by rw [Int32.le_iff_toInt_le, zto hx, zto hy]
theorem zo_lt {x y : Int} (hx : zIn x) (hy : zIn y) : zo x < zo y ↔ x < y := by rw [Int32.lt_iff_toInt_lt, zto hx, zto hy]
theorem zp_inj {x y : Int} (hx : zIm x) (hy : zIm y) : zp x = zp y ↔ x = y := ⟨fun h => by rw [← ztp hx, ← ztp hy, h], fun h => by rw [h]⟩
theorem zp_lt {x y : Int} (hx : zIm x) (hy : zIm y) : zp x < zp y ↔ x < y := by rw [Int64.lt_iff_toInt_lt, ztp hx, ztp hy]
theorem zo_0 : zo 0 = 0 := rfl
theorem zp_0 : zp 0 = 0 := rfl
theorem zIn0 : zIn 0 := by omega
theorem zIm0 : zIm 0 := by omega
theorem zo_add (x y : Int) : zo (zwr (x + y)) = zo x + zo y := by rw [zo_wr]; exact Int32.ofInt_add x y
theorem zo_sub (x y : Int) : zo (zwr (x - y)) = zo x - zo y := by rw [zo_wr]; exact Int32.ofInt_sub x y
theorem zo_mul (x y : Int) : zo (zwr (x * y)) = zo x * zo y := by rw [zo_wr]; exact Int32.ofInt_mul x y
theorem zo_neg (x : Int) : zo (zwr (-x)) = -zo x := by rw [zo_wr]; exact Int32.ofInt_neg x
theorem zp_add (x y : Int) : zp (zwl (x + y)) = zp x + zp y := by rw [zp_wl]; exact Int64.ofInt_add x y
theorem zp_sub (x y : Int) : zp (zwl (x - y)) = zp x - zp y := by rw [zp_wl]; exact Int64.ofInt_sub x y
theorem zp_mul (x y : Int) : zp (zwl (x * y)) = zp x * zp y := by rw [zp_wl]; exact Int64.ofInt_mul x y
theorem zo_div {x y : Int} (hx : zIn x) (hy : zIn y) : zo (zwr (x.tdiv y)) = zo x / zo y := by
  apply Int32.toInt_inj.mp
  rw [zo_wr, Int32.toInt_div, zto hx, zto hy, Int32.toInt_ofInt]
theorem zp_div {x y : Int} (hx : zIm x) (hy : zIm y) : zp (zwl (x.tdiv y)) = zp x / zp y := by
  apply Int64.toInt_inj.mp
  rw [zp_wl, Int64.toInt_div, ztp hx, ztp hy, Int64.toInt_ofInt]
theorem zo_rem {x y : Int} (hx : zIn x) (hy : zIn y) : zo (zwr (x.tmod y)) = zo x - zo x / zo y * zo y := by
  rw [← zo_div hx hy, ← zo_mul, ← zo_sub, zo_wr, zo_wr]
  apply Int32.toInt_inj.mp
  rw [Int32.toInt_ofInt, Int32.toInt_ofInt]
  have e : ∀ a b : Int, (x - zwr (zwr a * b)).bmod 4294967296 = (x - a * b).bmod 4294967296 := by
    intro a b
    have h1 : ∃ k : Int, zwr a = a + 4294967296 * k := ⟨-((a + 2147483648) / 4294967296), by unfold zwr; omega⟩
    obtain ⟨k, hk⟩ := h1
    have h2 : ∃ j : Int, zwr (zwr a * b) = zwr a * b + 4294967296 * j := ⟨-((zwr a * b + 2147483648) / 4294967296), by unfold zwr; omega⟩
    obtain ⟨j, hj⟩ := h2
    rw [hj, hk, Int.add_mul, show x - (a * b + 4294967296 * k * b + 4294967296 * j) = x - a * b + 4294967296 * (-(k * b) - j) by rw [Int.mul_sub, Int.mul_neg, Int.mul_assoc]; omega]
    exact Int.add_mul_bmod_self_left ..
  show (x.tmod y).bmod 4294967296 = (x - zwr (zwr (x.tdiv y) * y)).bmod 4294967296
  rw [e, Int.tmod_def, Int.mul_comm y]
theorem zp_rem {x y : Int} (hx : zIm x) (hy : zIm y) : zp (zwl (x.tmod y)) = zp x - zp x / zp y * zp y := by
  rw [← zp_div hx hy, ← zp_mul, ← zp_sub, zp_wl, zp_wl]
  apply Int64.toInt_inj.mp
  rw [Int64.toInt_ofInt, Int64.toInt_ofInt]
  have e : ∀ a b : Int, (x - zwl (zwl a * b)).bmod 18446744073709551616 = (x - a * b).bmod 18446744073709551616 := by
    intro a b
    have h1 : ∃ k : Int, zwl a = a + 18446744073709551616 * k := ⟨-((a + 9223372036854775808) / 18446744073709551616), by unfold zwl; omega⟩
    obtain ⟨k, hk⟩ := h1
    have h2 : ∃ j : Int, zwl (zwl a * b) = zwl a * b + 18446744073709551616 * j := ⟨-((zwl a * b + 9223372036854775808) / 18446744073709551616), by unfold zwl; omega⟩
    obtain ⟨j, hj⟩ := h2
    rw [hj, hk, Int.add_mul, show x - (a * b + 18446744073709551616 * k * b + 18446744073709551616 * j) = x - a * b + 18446744073709551616 * (-(k * b) - j) by rw [Int.mul_sub, Int.mul_neg, Int.mul_assoc]; omega]
    exact Int.add_mul_bmod_self_left ..
  show (x.tmod y).bmod 18446744073709551616 = (x - zwl (zwl (x.tdiv y) * y)).bmod 18446744073709551616
  rw [e, Int.tmod_def, Int.mul_comm y]
theorem zn_i2l {x : Int} (h : zIn x) : (zo x).toInt64 = zp x := by
  apply Int64.toInt_inj.mp
  rw [Int32.toInt_toInt64, zto h, ztp (by omega)]
theorem zn_l2i {x : Int} (h : zIm x) : (zp x).toInt32 = zo (zwr x) := by
  apply Int32.toInt_inj.mp
  rw [zo_wr, Int64.toInt_toInt32, ztp h, Int32.toInt_ofInt]
theorem zIn_m {x : Int} (h : zIn x) : zIm x := by omega
/-- an index -/
theorem zix {i : Int} {n : Nat} (h : 0 ≤ i ∧ i < (n : Int)) (hi : zIn i) : vp_in (zo i) n ∧ (zo i).toNatClampNeg = i.toNat := by
  have e : (zo i).toNatClampNeg = i.toNat := by
    show (zo i).toInt.toNat = _
    rw [zto hi]
  refine ⟨?_, e⟩
  unfold vp_in
  rw [e]
  rintro (h1 | h1)
  · have := (zo_lt hi zIn0).mp h1
    omega
  · omega
theorem zn_cl {i : Int} (hi : zIn i) : (zo i).toNatClampNeg = i.toNat := by
  show (zo i).toInt.toNat = _
  rw [zto hi]
theorem zcmp_lg {x y : Int} (hx : zIm x) (hy : zIm y) : lg_cmp (zp x) (zp y) = zo (zcmp x y) := by
  unfold lg_cmp zcmp
  have h1 : (zp x > zp y) ↔ y < x := zp_lt hy hx
  have h2 : (zp x = zp y) ↔ x = y := zp_inj hx hy
  by_cases a : y < x
  · rw [if_pos (h1.mpr a), if_neg (by omega), if_neg (by omega)]; rfl
  · rw [if_neg (fun q => a (h1.mp q))]
    by_cases b : x = y
    · rw [if_pos (h2.mpr b), if_neg (by omega), if_pos b]; rfl
    · rw [if_neg (fun q => b (h2.mp q)), if_pos (by omega)]; rfl

