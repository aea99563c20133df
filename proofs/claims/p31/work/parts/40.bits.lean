section
/-! sets below 1024: and, or, lacks; how many sets there are with a given part in common with one; what the reading loops count -/
theorem mR1023 : mR 1023 := by omega
theorem n_assoc (x y z : Int) : zand (zand x y) z = zand x (zand y z) := by
  unfold zand
  rw [Int32.ofInt_toInt, Int32.ofInt_toInt, Int32.and_assoc]
theorem n_aR {x : Int} (hx : mR x) : zand x 1023 = x := m_all (P := fun x => zand x 1023 = x) (by decide +kernel) hx
theorem n_aL {x : Int} (hx : mR x) : zand 1023 x = x := by rw [m_andC]; exact n_aR hx
theorem n_aa {x : Int} (hx : mR x) : zand x x = x := m_all (P := fun x => zand x x = x) (by decide +kernel) hx
theorem n_f10 {x : Int} (hx : mR x) : mfst 10 x 0 = x := m_all (P := fun x => mfst 10 x 0 = x) (by decide +kernel) hx
theorem n_and {x y : Int} (hx : mR x) (hy : mR y) : zand x y = ((x.toNat &&& y.toNat : Nat) : Int) := by
  rw [m_and hx, m_bv hy.1 (by omega)]
theorem n_bit {a b : Int} (h : ∀ i, (Int32.ofInt a).toBitVec.getLsbD i = (Int32.ofInt b).toBitVec.getLsbD i) : Int32.ofInt a = Int32.ofInt b :=
  Int32.toBitVec_inj.1 (BitVec.eq_of_getLsbD_eq (fun i _ => h i))
theorem n_ba (a b : Int) (i : Nat) : (Int32.ofInt (zand a b)).toBitVec.getLsbD i = ((Int32.ofInt a).toBitVec.getLsbD i && (Int32.ofInt b).toBitVec.getLsbD i) := by
  unfold zand
  rw [Int32.ofInt_toInt, Int32.toBitVec_and, BitVec.getLsbD_and]
theorem n_bo (a b : Int) (i : Nat) : (Int32.ofInt (zor a b)).toBitVec.getLsbD i = ((Int32.ofInt a).toBitVec.getLsbD i || (Int32.ofInt b).toBitVec.getLsbD i) := by
  unfold zor
  rw [Int32.ofInt_toInt, Int32.toBitVec_or, BitVec.getLsbD_or]
theorem n_bx (a b : Int) (i : Nat) : (Int32.ofInt (zxor a b)).toBitVec.getLsbD i = ((Int32.ofInt a).toBitVec.getLsbD i ^^ (Int32.ofInt b).toBitVec.getLsbD i) := by
  unfold zxor
  rw [Int32.ofInt_toInt, Int32.toBitVec_xor, BitVec.getLsbD_xor]
theorem n_m1 (i : Nat) (h : i < 32) : (Int32.ofInt (-1)).toBitVec.getLsbD i = true := by
  have e : (Int32.ofInt (-1)).toBitVec = BitVec.allOnes 32 := by decide
  rw [e, BitVec.getLsbD_allOnes]
  exact decide_eq_true h
theorem n_big (a : Int) (i : Nat) (h : ¬ i < 32) : (Int32.ofInt a).toBitVec.getLsbD i = false := BitVec.getLsbD_of_ge _ _ (by omega)
theorem n_inA (a b : Int) : zIn (zand a b) := ztI _
theorem n_inO (a b : Int) : zIn (zor a b) := ztI _
theorem n_inX (a b : Int) : zIn (zxor a b) := ztI _
theorem n_eq {a b : Int} (ha : zIn a) (hb : zIn b) (h : ∀ i, i < 32 → (Int32.ofInt a).toBitVec.getLsbD i = (Int32.ofInt b).toBitVec.getLsbD i) : a = b :=
  (zo_inj ha hb).mp (n_bit (fun i => by
    by_cases q : i < 32
    · exact h i q
    · rw [n_big a i q, n_big b i q]))
theorem n_dist (a b s : Int) : zand (zor a s) (zor b s) = zor (zand a b) s := by
  refine n_eq (n_inA _ _) (n_inO _ _) (fun i _ => ?_)
  rw [n_ba, n_bo, n_bo, n_bo, n_ba]
  cases (Int32.ofInt a).toBitVec.getLsbD i <;> cases (Int32.ofInt b).toBitVec.getLsbD i <;> cases (Int32.ofInt s).toBitVec.getLsbD i <;> rfl
theorem n_dist2 (a b s : Int) : zand (zor a b) s = zor (zand a s) (zand b s) := by
  refine n_eq (n_inA _ _) (n_inO _ _) (fun i _ => ?_)
  rw [n_ba, n_bo, n_bo, n_ba, n_ba]
  cases (Int32.ofInt a).toBitVec.getLsbD i <;> cases (Int32.ofInt b).toBitVec.getLsbD i <;> cases (Int32.ofInt s).toBitVec.getLsbD i <;> rfl
theorem mR_in {x : Int} (h : mR x) : zIn x := by omega
/-- what any lacks of x, where all have C -/
def nD (x C : Int) : Int := zand x (zxor C (-1))
theorem nD_R {x : Int} (C : Int) (hx : mR x) : mR (nD x C) := m_andR hx
/-- it comes over whole with s learnt too, if all that is lacking is of s -/
theorem n_sub {x : Int} (C s : Int) (hx : mR x) : zand x (zor C s) = x ↔ zand (nD x C) s = nD x C := by
  have hD := nD_R C hx
  constructor
  · intro h
    refine n_eq (n_inA _ _) (mR_in hD) (fun i hi => ?_)
    have h1 := congrArg (fun z => (Int32.ofInt z).toBitVec.getLsbD i) h
    simp only [n_ba, n_bo] at h1
    unfold nD
    rw [n_ba, n_ba, n_bx, n_m1 i hi]
    revert h1
    cases (Int32.ofInt x).toBitVec.getLsbD i <;> cases (Int32.ofInt C).toBitVec.getLsbD i <;> cases (Int32.ofInt s).toBitVec.getLsbD i <;> decide
  · intro h
    refine n_eq (n_inA _ _) (mR_in hx) (fun i hi => ?_)
    have h1 := congrArg (fun z => (Int32.ofInt z).toBitVec.getLsbD i) h
    unfold nD at h1
    simp only [n_ba, n_bx, n_m1 i hi] at h1
    rw [n_ba, n_bo]
    revert h1
    cases (Int32.ofInt x).toBitVec.getLsbD i <;> cases (Int32.ofInt C).toBitVec.getLsbD i <;> cases (Int32.ofInt s).toBitVec.getLsbD i <;> decide
theorem n_xor {x C : Int} (hx : mR x) : zxor (zand x C) x = nD x (zand x C) ∧ zand (zand x C) (zxor x (-1)) = 0 := by
  constructor
  · refine n_eq (n_inX _ _) (n_inA _ _) (fun i hi => ?_)
    unfold nD
    rw [n_bx, n_ba, n_ba, n_bx, n_ba, n_m1 i hi]
    cases (Int32.ofInt x).toBitVec.getLsbD i <;> cases (Int32.ofInt C).toBitVec.getLsbD i <;> rfl
  · refine n_eq (n_inA _ _) zIn0 (fun i hi => ?_)
    rw [n_ba, n_ba, n_bx, n_m1 i hi, show (Int32.ofInt 0).toBitVec.getLsbD i = false by rw [show (Int32.ofInt 0).toBitVec = 0#32 from rfl]; simp]
    cases (Int32.ofInt x).toBitVec.getLsbD i <;> cases (Int32.ofInt C).toBitVec.getLsbD i <;> rfl
theorem n_mN : ∀ (n a b : Nat), mN n (a &&& b) ≤ mN n b
  | 0, _, _ => Nat.le_refl _
  | n + 1, a, b => by
    have h1 := n_mN n (a / 2) (b / 2)
    have h2 : (a &&& b) % 2 ≤ b % 2 := by
      have := Nat.and_mod_two_eq_one (a := a) (b := b)
      generalize a &&& b = w at this ⊢
      omega
    have e1 : mN (n + 1) (a &&& b) = (a &&& b) % 2 + mN n ((a &&& b) / 2) := rfl
    have e2 : mN (n + 1) b = b % 2 + mN n (b / 2) := rfl
    rw [e1, e2, Nat.and_div_two]
    omega
theorem n_mbc {D s : Int} (hD : mR D) (hs : mR s) (h : zand D s = D) : D ≤ s ∧ mbc D ≤ mbc s := by
  constructor
  · have := m_andL (y := D) hs
    rw [m_andC, h] at this
    exact this
  · have e := n_and hD hs
    rw [h] at e
    have e2 : D.toNat = D.toNat &&& s.toNat := by omega
    have := n_mN 10 D.toNat s.toNat
    rw [← e2] at this
    unfold mbc
    omega
-- counting
theorem mcn_cg {P R : Nat → Bool} : ∀ n, (∀ i, i < n → P i = R i) → mcn P n = mcn R n
  | 0, _ => rfl
  | n + 1, h => by
    unfold mcn
    rw [h n (by omega), mcn_cg n (fun i hi => h i (by omega))]
theorem mcn_2 (P : Nat → Bool) : ∀ n, mcn P (2 * n) = mcn (fun i => P (2 * i)) n + mcn (fun i => P (2 * i + 1)) n
  | 0 => rfl
  | n + 1 => by
    have ih := mcn_2 P n
    rw [show 2 * (n + 1) = 2 * n + 1 + 1 by omega]
    show (if P (2 * n + 1) = true then (if P (2 * n) = true then mcn P (2 * n) + 1 else mcn P (2 * n)) + 1 else (if P (2 * n) = true then mcn P (2 * n) + 1 else mcn P (2 * n))) = (if P (2 * n) = true then mcn (fun i => P (2 * i)) n + 1 else mcn (fun i => P (2 * i)) n) + (if P (2 * n + 1) = true then mcn (fun i => P (2 * i + 1)) n + 1 else mcn (fun i => P (2 * i + 1)) n)
    rw [ih]
    split <;> split <;> omega
theorem mcn_f {P : Nat → Bool} : ∀ n, (∀ i, i < n → P i = false) → mcn P n = 0
  | 0, _ => rfl
  | n + 1, h => by
    unfold mcn
    rw [h n (by omega), if_neg (by decide)]
    exact mcn_f n (fun i hi => h i (by omega))
theorem n_half (i b c v : Nat) (hb : b < 2) : (2 * i + b) &&& c = v ↔ (i &&& (c / 2) = v / 2 ∧ ((b = 1 ∧ c % 2 = 1) ↔ v % 2 = 1)) := by
  have h1 : ((2 * i + b) &&& c) / 2 = i &&& (c / 2) := by rw [Nat.and_div_two, show (2 * i + b) / 2 = i by omega]
  have h2 := Nat.and_mod_two_eq_one (a := 2 * i + b) (b := c)
  rw [← h1]
  generalize (2 * i + b) &&& c = w at h2 ⊢
  omega
theorem n_count : ∀ (n c v : Nat), c < 2 ^ n → v &&& c = v → mcn (fun o => decide (o &&& c = v)) (2 ^ n) = ((2 ^ (n - mN n c) : Nat) : Int)
  | 0, c, v, hc, hv => by
    have h0 : c = 0 := by have : (2 : Nat) ^ 0 = 1 := rfl
                          omega
    subst h0
    rw [Nat.and_zero] at hv
    subst hv
    rfl
  | n + 1, c, v, hc, hv => by
    have e2 : 2 ^ (n + 1) = 2 * 2 ^ n := by rw [Nat.pow_succ]; omega
    have hc2 : c / 2 < 2 ^ n := by omega
    have hv2 : v / 2 &&& c / 2 = v / 2 := by rw [← Nat.and_div_two, hv]
    have hvm : v % 2 = 1 → c % 2 = 1 := by
      intro q
      have := Nat.and_mod_two_eq_one (a := v) (b := c)
      rw [hv] at this
      exact (this.mp q).2
    have ih := n_count n (c / 2) (v / 2) hc2 hv2
    have hm := mN_le n (c / 2)
    have em : mN (n + 1) c = c % 2 + mN n (c / 2) := rfl
    rw [e2, mcn_2, em]
    have f0 : ∀ b, b < 2 → ((b = 1 ∧ c % 2 = 1) ↔ v % 2 = 1) → mcn (fun i => decide ((2 * i + b) &&& c = v)) (2 ^ n) = ((2 ^ (n - mN n (c / 2)) : Nat) : Int) := fun b hb q => by
      rw [← ih]
      refine mcn_cg _ (fun i _ => ?_)
      exact decide_eq_decide.mpr ⟨fun h => ((n_half i b c v hb).mp h).1, fun h => (n_half i b c v hb).mpr ⟨h, q⟩⟩
    have f1 : ∀ b, b < 2 → ¬ ((b = 1 ∧ c % 2 = 1) ↔ v % 2 = 1) → mcn (fun i => decide ((2 * i + b) &&& c = v)) (2 ^ n) = 0 := fun b hb q => mcn_f _ (fun i _ => decide_eq_false (fun h => q ((n_half i b c v hb).mp h).2))
    show mcn (fun i => decide ((2 * i + 0) &&& c = v)) (2 ^ n) + mcn (fun i => decide ((2 * i + 1) &&& c = v)) (2 ^ n) = _
    by_cases q : c % 2 = 1
    · rw [show n + 1 - (c % 2 + mN n (c / 2)) = n - mN n (c / 2) by omega]
      by_cases w : v % 2 = 1
      · rw [f1 0 (by omega) (by omega), f0 1 (by omega) (by omega), Int.zero_add]
      · rw [f0 0 (by omega) (by omega), f1 1 (by omega) (by omega), Int.add_zero]
    · rw [show n + 1 - (c % 2 + mN n (c / 2)) = (n - mN n (c / 2)) + 1 by omega, f0 0 (by omega) (by omega), f0 1 (by omega) (by omega), Nat.pow_succ]
      omega
theorem n_sh {x : Int} (h0 : 0 ≤ x) (h1 : x < 11) : zshl 1 x = ((2 ^ x.toNat : Nat) : Int) := m_fin (P := fun x => zshl 1 x = ((2 ^ x.toNat : Nat) : Int)) 11 (by decide +kernel) h0 h1
theorem n_from {C v : Int} (hC : mR C) (hv : mR v) (h : zand v C = v) : mcn (fun o => decide (zand (o : Int) C = v)) 1024 = zshl 1 (zwr (10 - mbc C)) := by
  have hb := mbc_r C
  rw [zwr_eq (show zIn (10 - mbc C) by omega), n_sh (by omega) (by omega)]
  have e := n_and hv hC
  rw [h] at e
  have k := n_count 10 C.toNat v.toNat (show C.toNat < 1024 by omega) (by omega)
  have e1 : (10 - mbc C).toNat = 10 - mN 10 C.toNat := by unfold mbc; omega
  rw [e1, ← k]
  refine mcn_cg 1024 (fun o ho => decide_eq_decide.mpr ?_)
  rw [n_and (show mR ((o : Nat) : Int) by omega) hC, Int.toNat_natCast]
  omega
theorem mls_n {P : Nat → Bool} : ∀ n, (∀ i, i < n → P i = false) → mls P n = -1
  | 0, _ => rfl
  | n + 1, h => by
    unfold mls
    rw [h n (by omega), if_neg (fun q => absurd q.1 (by decide))]
    exact mls_n n (fun i hi => h i (by omega))
theorem mls_at {P : Nat → Bool} {v : Nat} (h : P v = true) (hl : ∀ i, i < v → P i = false) : ∀ k, mls P (v + 1 + k) = (v : Int)
  | 0 => by
    show (if P v = true ∧ mls P v = -1 then (v : Int) else mls P v) = v
    rw [if_pos ⟨h, mls_n v hl⟩]
  | k + 1 => by
    show (if P (v + 1 + k) = true ∧ mls P (v + 1 + k) = -1 then ((v + 1 + k : Nat) : Int) else mls P (v + 1 + k)) = v
    rw [mls_at h hl k, if_neg (fun q => absurd q.2 (by omega))]
theorem n_least {C v : Int} (hC : mR C) (hv : mR v) (h : zand v C = v) : mls (fun o => decide (zand (o : Int) C = v)) 1024 = v := by
  have := mls_at (P := fun o => decide (zand (o : Int) C = v)) (v := v.toNat) (decide_eq_true (by rw [Int.toNat_of_nonneg hv.1]; exact h)) (fun i hi => decide_eq_false (fun q => by
    have := m_andL (y := C) (show mR ((i : Nat) : Int) by omega)
    omega)) (1023 - v.toNat)
  rw [show v.toNat + 1 + (1023 - v.toNat) = 1024 by omega] at this
  rw [this]
  omega
theorem n_none {C v : Int} (hC : mR C) (h : zand v C ≠ v) : mcn (fun o => decide (zand (o : Int) C = v)) 1024 = 0 ∧ mls (fun o => decide (zand (o : Int) C = v)) 1024 = -1 := by
  have k : ∀ i, i < 1024 → decide (zand ((i : Nat) : Int) C = v) = false := fun i _ => decide_eq_false (fun q => h (by rw [← q, n_assoc, n_aa hC]))
  exact ⟨mcn_f _ k, mls_n _ k⟩
end
