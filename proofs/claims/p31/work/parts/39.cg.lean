/-! texts that are alike byte by byte; rows of whole's part 53 -/
theorem mwl_cg {b b1 : Nat → Int} {i e : Nat} (h : ∀ j, j < e → b j = b1 j) : mwl b i e = mwl b1 i e := by
  unfold mwl
  refine List.map_congr_left (fun j hj => ?_)
  have := List.mem_range.mp hj
  exact h _ (by omega)
theorem mnu_cg {b b1 : Nat → Int} : ∀ (n i : Nat) (v : Int), (∀ j, j < i + n → b j = b1 j) → mnu b n i v = mnu b1 n i v
  | 0, _, _, _ => rfl
  | n + 1, i, v, h => by
    unfold mnu
    rw [h i (by omega)]
    exact mnu_cg n (i + 1) _ (fun j hj => h j (by omega))
theorem mto_cg {b b1 : Nat → Int} {n : Nat} (h : ∀ j, j < n → b j = b1 j) (i : Nat) : mto b n i = mto b1 n i := by
  unfold mto
  by_cases q : n ≤ i
  · rw [if_pos q, if_pos q]
  · rw [if_neg q, if_neg q]
    have e0 := h i (by omega)
    have e1 : msc mlt b (n - i) i = msc mlt b1 (n - i) i := msc_congr _ _ (fun j _ h2 => h j (by omega))
    have e2 : msc mdg b (n - i) i = msc mdg b1 (n - i) i := msc_congr _ _ (fun j _ h2 => h j (by omega))
    have l1 := (msc_le mlt b1 (n - i) i).2
    have l2 := msc_le mdg b1 (n - i) i
    rw [e0, e1, e2, mwl_cg (fun j hj => h j (by omega)), mnu_cg _ _ _ (fun j hj => h j (by omega))]
theorem mlx_cg {b b1 : Nat → Int} {n : Nat} (h : ∀ j, j < n → b j = b1 j) (i : Nat) : mlx b n i = mlx b1 n i := by
  unfold mlx
  rw [show msc mbl b (n - i) i = msc mbl b1 (n - i) i from msc_congr _ _ (fun j _ h2 => h j (by omega))]
  exact mto_cg h _
theorem mhh_cg {b b1 : Nat → Int} {n : Nat} (h : ∀ j, j < n → b j = b1 j) : ∀ k, mhh b n k = mhh b1 n k
  | 0 => rfl
  | k + 1 => by
    unfold mhh
    rw [mhh_cg h k, mlx_cg h]
theorem mkd_cg {b b1 : Nat → Int} {n : Nat} (h : ∀ j, j < n → b j = b1 j) : mkd b n = mkd b1 n := by
  funext k
  unfold mkd
  rw [mhh_cg h k, mlx_cg h]
theorem mvl_cg {b b1 : Nat → Int} {n : Nat} (h : ∀ j, j < n → b j = b1 j) : mvl b n = mvl b1 n := by
  funext k
  unfold mvl
  rw [mhh_cg h k, mlx_cg h]
theorem mpl_cg {b b1 : Nat → Int} {n : Nat} (h : ∀ j, j < n → b j = b1 j) (k : Nat) : mpl b n k = mpl b1 n k := by
  unfold mpl
  rw [mhh_cg h k, mlx_cg h]
theorem mWd_lk {K K1 : zI} (h : mlk K K1) (hK : mWd K) : mWd K1 := by
  obtain ⟨⟨h1, h2, h3⟩, h4, h5, h6⟩ := hK
  refine ⟨⟨h1.lk h, by rw [← h.1 4 (by decide) (by decide)]; exact h2, by rw [← h.1 6 (by decide) (by decide)]; exact h3⟩, by rw [← h.1 3 (by decide) (by decide)]; exact h4, fun j hj => ?_, by rw [← h.1 5 (by decide) (by decide)]; exact h6⟩
  rw [← h.1 3 (by decide) (by decide)] at hj
  rw [← h.2.1 j hj]
  exact h5 j hj
