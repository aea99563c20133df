/-! the layouts' words and the shapes' facts; written by wip/whole/gen6.py -/
theorem zWS0 : ∀ w ∈ u_ws (zR 0) (zT 0) (zNF 0), w ∈ zGL := by
  intro w h
  obtain ⟨k, hk, rfl⟩ := List.mem_map.mp h
  have hk : k < 7 := List.mem_range.mp hk
  match k, hk with
  | 0, _ => exact zg1 87 (by decide +kernel) (by decide +kernel)
  | 1, _ => exact zg1 89 (by decide +kernel) (by decide +kernel)
  | 2, _ => exact zg1 91 (by decide +kernel) (by decide +kernel)
  | 3, _ => exact zg1 93 (by decide +kernel) (by decide +kernel)
  | 4, _ => exact zg1 95 (by decide +kernel) (by decide +kernel)
  | 5, _ => exact zg1 97 (by decide +kernel) (by decide +kernel)
  | 6, _ => exact zg1 99 (by decide +kernel) (by decide +kernel)
  | k + 7, h => exact absurd h (by omega)
theorem zWS1 : ∀ w ∈ u_ws (zR 1) (zT 1) (zNF 1), w ∈ zGL := by
  intro w h
  exact absurd h (by simp [u_ws, zNF, zgt])
theorem zWS2 : ∀ w ∈ u_ws (zR 2) (zT 2) (zNF 2), w ∈ zGL := by
  intro w h
  exact absurd h (by simp [u_ws, zNF, zgt])
theorem zWS3 : ∀ w ∈ u_ws (zR 3) (zT 3) (zNF 3), w ∈ zGL := by
  intro w h
  exact absurd h (by simp [u_ws, zNF, zgt])
theorem zWS4 : ∀ w ∈ u_ws (zR 4) (zT 4) (zNF 4), w ∈ zGL := by
  intro w h
  exact absurd h (by simp [u_ws, zNF, zgt])
theorem zWS5 : ∀ w ∈ u_ws (zR 5) (zT 5) (zNF 5), w ∈ zGL := by
  intro w h
  obtain ⟨k, hk, rfl⟩ := List.mem_map.mp h
  have hk : k < 5 := List.mem_range.mp hk
  match k, hk with
  | 0, _ => exact zg1 61 (by decide +kernel) (by decide +kernel)
  | 1, _ => exact zg1 63 (by decide +kernel) (by decide +kernel)
  | 2, _ => exact zg1 65 (by decide +kernel) (by decide +kernel)
  | 3, _ => exact zg1 67 (by decide +kernel) (by decide +kernel)
  | 4, _ => exact zg1 69 (by decide +kernel) (by decide +kernel)
  | k + 5, h => exact absurd h (by omega)
theorem zWS6 : ∀ w ∈ u_ws (zR 6) (zT 6) (zNF 6), w ∈ zGL := by
  intro w h
  exact absurd h (by simp [u_ws, zNF, zgt])
theorem zWS7 : ∀ w ∈ u_ws (zR 7) (zT 7) (zNF 7), w ∈ zGL := by
  intro w h
  obtain ⟨k, hk, rfl⟩ := List.mem_map.mp h
  have hk : k < 10 := List.mem_range.mp hk
  match k, hk with
  | 0, _ => exact zg1 197 (by decide +kernel) (by decide +kernel)
  | 1, _ => exact zg1 199 (by decide +kernel) (by decide +kernel)
  | 2, _ => exact zg1 201 (by decide +kernel) (by decide +kernel)
  | 3, _ => exact zg1 203 (by decide +kernel) (by decide +kernel)
  | 4, _ => exact zg1 205 (by decide +kernel) (by decide +kernel)
  | 5, _ => exact zg1 207 (by decide +kernel) (by decide +kernel)
  | 6, _ => exact zg1 209 (by decide +kernel) (by decide +kernel)
  | 7, _ => exact zg1 211 (by decide +kernel) (by decide +kernel)
  | 8, _ => exact zg1 213 (by decide +kernel) (by decide +kernel)
  | 9, _ => exact zg1 215 (by decide +kernel) (by decide +kernel)
  | k + 10, h => exact absurd h (by omega)
theorem zWS8 : ∀ w ∈ u_ws (zR 8) (zT 8) (zNF 8), w ∈ zGL := by
  intro w h
  obtain ⟨k, hk, rfl⟩ := List.mem_map.mp h
  have hk : k < 3 := List.mem_range.mp hk
  match k, hk with
  | 0, _ => exact zg1 157 (by decide +kernel) (by decide +kernel)
  | 1, _ => exact zg1 159 (by decide +kernel) (by decide +kernel)
  | 2, _ => exact zg1 161 (by decide +kernel) (by decide +kernel)
  | k + 3, h => exact absurd h (by omega)
theorem zWS9 : ∀ w ∈ u_ws (zR 9) (zT 9) (zNF 9), w ∈ zGL := by
  intro w h
  exact absurd h (by simp [u_ws, zNF, zgt])
theorem zWS10 : ∀ w ∈ u_ws (zR 10) (zT 10) (zNF 10), w ∈ zGL := by
  intro w h
  obtain ⟨k, hk, rfl⟩ := List.mem_map.mp h
  have hk : k < 3 := List.mem_range.mp hk
  match k, hk with
  | 0, _ => exact zg1 174 (by decide +kernel) (by decide +kernel)
  | 1, _ => exact zg1 176 (by decide +kernel) (by decide +kernel)
  | 2, _ => exact zg1 178 (by decide +kernel) (by decide +kernel)
  | k + 3, h => exact absurd h (by omega)
theorem zWS11 : ∀ w ∈ u_ws (zR 11) (zT 11) (zNF 11), w ∈ zGL := by
  intro w h
  obtain ⟨k, hk, rfl⟩ := List.mem_map.mp h
  have hk : k < 13 := List.mem_range.mp hk
  match k, hk with
  | 0, _ => exact zg2 146 (by decide +kernel) (by decide +kernel)
  | 1, _ => exact zg2 148 (by decide +kernel) (by decide +kernel)
  | 2, _ => exact zg2 150 (by decide +kernel) (by decide +kernel)
  | 3, _ => exact zg2 152 (by decide +kernel) (by decide +kernel)
  | 4, _ => exact zg2 154 (by decide +kernel) (by decide +kernel)
  | 5, _ => exact zg2 156 (by decide +kernel) (by decide +kernel)
  | 6, _ => exact zg2 158 (by decide +kernel) (by decide +kernel)
  | 7, _ => exact zg2 160 (by decide +kernel) (by decide +kernel)
  | 8, _ => exact zg2 162 (by decide +kernel) (by decide +kernel)
  | 9, _ => exact zg2 164 (by decide +kernel) (by decide +kernel)
  | 10, _ => exact zg2 166 (by decide +kernel) (by decide +kernel)
  | 11, _ => exact zg2 168 (by decide +kernel) (by decide +kernel)
  | 12, _ => exact zg2 170 (by decide +kernel) (by decide +kernel)
  | k + 13, h => exact absurd h (by omega)
theorem zWS12 : ∀ w ∈ u_ws (zR 12) (zT 12) (zNF 12), w ∈ zGL := by
  intro w h
  obtain ⟨k, hk, rfl⟩ := List.mem_map.mp h
  have hk : k < 7 := List.mem_range.mp hk
  match k, hk with
  | 0, _ => exact zg1 87 (by decide +kernel) (by decide +kernel)
  | 1, _ => exact zg1 89 (by decide +kernel) (by decide +kernel)
  | 2, _ => exact zg1 91 (by decide +kernel) (by decide +kernel)
  | 3, _ => exact zg1 93 (by decide +kernel) (by decide +kernel)
  | 4, _ => exact zg1 95 (by decide +kernel) (by decide +kernel)
  | 5, _ => exact zg1 97 (by decide +kernel) (by decide +kernel)
  | 6, _ => exact zg1 99 (by decide +kernel) (by decide +kernel)
  | k + 7, h => exact absurd h (by omega)
theorem zWS_ok : ∀ c, c < 13 → ∀ w ∈ u_ws (zR c) (zT c) (zNF c), w ∈ zGL
  | 0, _ => zWS0
  | 1, _ => zWS1
  | 2, _ => zWS2
  | 3, _ => zWS3
  | 4, _ => zWS4
  | 5, _ => zWS5
  | 6, _ => zWS6
  | 7, _ => zWS7
  | 8, _ => zWS8
  | 9, _ => zWS9
  | 10, _ => zWS10
  | 11, _ => zWS11
  | 12, _ => zWS12
  | c + 13, h => absurd h (by omega)
theorem zty_ok : ∀ c, c < 13 → ∀ k, k < zNF c → parseFieldDescriptor (zT c k).2.2.1 = some (zTy c k)
  | 0, _ => tyX0_ok
  | 1, _ => tyX1_ok
  | 2, _ => tyX2_ok
  | 3, _ => tyX3_ok
  | 4, _ => tyX4_ok
  | 5, _ => tyX5_ok
  | 6, _ => tyX6_ok
  | 7, _ => tyX7_ok
  | 8, _ => tyX8_ok
  | 9, _ => tyX9_ok
  | 10, _ => tyX10_ok
  | 11, _ => tyX11_ok
  | 12, _ => tyX0_ok
  | c + 13, h => absurd h (by omega)
theorem znm_ok : ∀ c, c < 13 → ∀ a, a < zNF c → ∀ b, b < zNF c → a ≠ b → (zT c a).2.1 ≠ (zT c b).2.1
  | 0, _ => nmX0
  | 1, _ => nmX1
  | 2, _ => nmX2
  | 3, _ => nmX3
  | 4, _ => nmX4
  | 5, _ => nmX5
  | 6, _ => nmX6
  | 7, _ => nmX7
  | 8, _ => nmX8
  | 9, _ => nmX9
  | 10, _ => nmX10
  | 11, _ => nmX11
  | 12, _ => nmX0
  | c + 13, h => absurd h (by omega)
theorem zcl_ok : ∀ c, c < 13 → zvCl[c]? = some (zR c, zT c, zNF c)
  | 0, _ => rfl
  | 1, _ => rfl
  | 2, _ => rfl
  | 3, _ => rfl
  | 4, _ => rfl
  | 5, _ => rfl
  | 6, _ => rfl
  | 7, _ => rfl
  | 8, _ => rfl
  | 9, _ => rfl
  | 10, _ => rfl
  | 11, _ => rfl
  | 12, _ => rfl
  | c + 13, h => absurd h (by omega)
def zKc (k : Nat) (t : FieldType) : Bool := match k, t with
  | 0, .int => true
  | 1, .long => true
  | 3, .boolean => true
  | 2, .object _ => true
  | 2, .array _ => true
  | _, _ => false
theorem zKc_all : (List.range 13).all (fun c => (List.range (zNF c)).all (fun k => zKc (zKd c k) (zTy c k))) = true := by decide +kernel
theorem zKc_ok {c k : Nat} (hc : c < 13) (hk : k < zNF c) : zKc (zKd c k) (zTy c k) = true :=
  List.all_eq_true.mp (List.all_eq_true.mp zKc_all c (List.mem_range.mpr hc)) k (List.mem_range.mpr hk)
theorem zSh_big {x : Nat} (h : 67 ≤ x) : zSh x = (999, 0) := by
  unfold zSh
  by_cases h6 : 5 ≤ x / 16
  · rw [zgt_big [] zSs (x / 16) (by show zSs.length ≤ _; have : zSs.length = 5 := by decide +kernel
                                    omega)]
    rfl
  · have h5 : x / 16 = 4 := by omega
    rw [h5]
    show zgt (999, 0) [(100, 161), (100, 161), (100, 161)] (x % 16) = _
    exact zgt_big _ _ _ (by simp only [List.length_cons, List.length_nil]; omega)
theorem zSh_all : (List.range 67).all (fun x => (Nat.blt 99 (zSh x).1 && Nat.blt (zSh x).1 106) || (Nat.blt (zSh x).1 13 && Nat.beq (zSh x).2 (zNF (zSh x).1))) = true := by decide +kernel
theorem zSh_ok {x : Nat} (h : x < 67) : (100 ≤ (zSh x).1 ∧ (zSh x).1 ≤ 105) ∨ ((zSh x).1 < 13 ∧ (zSh x).2 = zNF (zSh x).1) := by
  have := List.all_eq_true.mp zSh_all x (List.mem_range.mpr h)
  simp only [Bool.or_eq_true, Bool.and_eq_true, Nat.blt_eq, Nat.beq_eq] at this
  omega
theorem zSh_lt {x : Nat} (h : (zSh x).1 ≠ 999) : x < 67 := by
  by_cases q : x < 67
  · exact q
  · rw [zSh_big (by omega)] at h
    exact absurd rfl h
theorem zSh_len2 : (List.range 67).all (fun x => Nat.blt (zSh x).2 2000) = true := by decide +kernel
theorem zSh_small (x : Nat) : (zSh x).2 < 2000 := by
  by_cases q : x < 67
  · have := List.all_eq_true.mp zSh_len2 x (List.mem_range.mpr q)
    simpa using this
  · rw [zSh_big (by omega)]
    decide
