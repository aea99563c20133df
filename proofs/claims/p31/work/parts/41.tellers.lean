section
/-! a crossing of tellers: what they tell is what all have words for; days -/
/-- what n of PEOPLE from number p on all have words for -/
def ncf (K : zI) : Nat → Nat → Int
  | _, 0 => 1023
  | p, n + 1 => zand (K (3 + p) 2) (ncf K (p + 1) n)
theorem ncf_R (K : zI) : ∀ n p, mR (ncf K p n)
  | 0, _ => mR1023
  | n + 1, p => m_andR2 (ncf_R K n (p + 1))
theorem ncf_snoc (K : zI) : ∀ n p, ncf K p (n + 1) = zand (ncf K p n) (K (3 + (p + n)) 2)
  | 0, p => m_andC _ _
  | n + 1, p => by
    show zand (K (3 + p) 2) (ncf K (p + 1) (n + 1)) = zand (zand (K (3 + p) 2) (ncf K (p + 1) n)) (K (3 + (p + (n + 1))) 2)
    rw [ncf_snoc K n (p + 1), n_assoc, show p + 1 + n = p + (n + 1) by omega]
theorem ncf_cg {K K1 : zI} : ∀ n p, (∀ q, p ≤ q → q < p + n → K (3 + q) 2 = K1 (3 + q) 2) → ncf K p n = ncf K1 p n
  | 0, _, _ => rfl
  | n + 1, p, h => by
    show zand (K (3 + p) 2) (ncf K (p + 1) n) = zand (K1 (3 + p) 2) (ncf K1 (p + 1) n)
    rw [h p (by omega) (by omega), ncf_cg n (p + 1) (fun q a b => h q (by omega) (by omega))]
def nTx (T : Nat → Nat → List Int) : Prop := T 0 0 = [-2] ∧ T 0 1 = [0] ∧ T 0 2 = [0]
def nP (K : zI) (p : Nat) : Prop := K (3 + p) 0 = 0 ∧ mR (K (3 + p) 2) ∧ (0 ≤ K (3 + p) 3 ∧ K (3 + p) 3 ≤ 99)
section
variable {T : Nat → Nat → List Int} {K : zI}
theorem n_say0 (hT : nTx T) (hr : K 0 6 = 0) {p : Nat} (h : nP K p) (th : Int) : msay T K 0 p th = K (3 + p) 3 := by
  have hm := h.2.2
  unfold msay
  rw [hr]
  show mwo (mnk K p th) (T 0 0) = _
  rw [hT.1]
  show mcl (K (3 + p) 3) 0 99 = _
  unfold mcl
  rw [if_neg (by omega), if_neg (by omega)]
theorem n_say1 (hT : nTx T) (hr : K 0 6 = 0) (p : Nat) (th : Int) : msay T K 1 p th = 0 := by
  unfold msay
  rw [hr]
  show mwo (mnk K p th) (T 0 1) = _
  rw [hT.2.1]
  rfl
theorem n_say2 (hT : nTx T) (hr : K 0 6 = 0) (p : Nat) (th : Int) : msay T K 2 p th = 0 := by
  unfold msay
  rw [hr]
  show mwo (mnk K p th) (T 0 2) = _
  rw [hT.2.2]
  rfl
theorem n_keep (hT : nTx T) (hr : K 0 6 = 0) {p : Nat} (h : nP K p) (th : Int) : mkeep T K p th = mcl (K (3 + p) 3) 0 10 := by
  unfold mkeep
  rw [n_say0 hT hr h, h.1]
  rfl
/-- what a teller tells -/
theorem n_tells (hT : nTx T) (hr : K 0 6 = 0) {p : Nat} (h : nP K p) (th : Int) : mtell T K p th = mfst (mcl (K (3 + p) 3) 0 10).toNat (zand th (K (3 + p) 2)) 0 := by
  unfold mtell
  rw [n_keep hT hr h, h.1]
  rfl
theorem n_tell (hT : nTx T) (hr : K 0 6 = 0) {p : Nat} (h : nP K p) (h10 : 10 ≤ K (3 + p) 3) (th : Int) : mtell T K p th = zand th (K (3 + p) 2) := by
  have e : mcl (K (3 + p) 3) 0 10 = 10 := by
    unfold mcl
    rw [if_neg (by omega)]
    split <;> omega
  rw [n_tells hT hr h, e]
  exact n_f10 (m_andR2 h.2.1)
theorem n_tire (hT : nTx T) (hr : K 0 6 = 0) {p : Nat} (h : nP K p) (th : Int) : mtire T K p th = 0 := by
  unfold mtire
  rw [n_say1 hT hr, h.1]
  rfl
theorem n_learn (hT : nTx T) (hr : K 0 6 = 0) {p : Nat} (h : nP K p) (th : Int) : mlearn T K p th = 0 := by
  unfold mlearn
  rw [n_say2 hT hr, h.1]
  unfold mle
  rw [if_neg (by decide), if_neg (by omega)]
theorem n_all (hT : nTx T) (hr : K 0 6 = 0) : ∀ (n p : Nat) (x : Int), (∀ q, p ≤ q → q < p + n → nP K q ∧ 10 ≤ K (3 + q) 3) → mR x → mall T K n p x = zand x (ncf K p n)
  | 0, _, _, _, hx => (n_aR hx).symm
  | n + 1, p, x, h, hx => by
    obtain ⟨h1, h2⟩ := h p (by omega) (by omega)
    show mall T K n (p + 1) (mtell T K p x) = zand x (zand (K (3 + p) 2) (ncf K (p + 1) n))
    rw [n_tell hT hr h1 h2, n_all hT hr n (p + 1) _ (fun q a b => h q (by omega) (by omega)) (m_andR hx), n_assoc]
theorem n_tt (hT : nTx T) (hr : K 0 6 = 0) {p : Nat} (h : nP K p) (th : Int) : (∀ y j, ¬ (j = 4 ∧ y = 3 + p) → mtt T K p th y j = K y j) ∧ mtt T K p th (3 + p) 4 = mcl (K (3 + p) 4 + 1) 0 99 := by
  have hm := h.2.2
  have e : mcl (K (3 + p) 3 - 0) 0 99 = K (3 + p) 3 := by
    unfold mcl
    rw [if_neg (by omega), if_neg (by omega)]
    omega
  refine ⟨fun y j q => ?_, ?_⟩
  · by_cases w : y = 3 + p
    · subst w
      rw [mtt_p, n_learn hT hr h, n_tire hT hr h, if_pos rfl, e]
      unfold mtr
      split
      · rename_i u; rw [u]
      · split
        · rename_i u; rw [u]
        · rw [if_neg (fun u => q ⟨u, rfl⟩)]
    · rw [mtt_n w]
  · rw [mtt_p]
    rfl
end
theorem nP_cg {K K1 : zI} {p : Nat} (h : ∀ j, j < 4 → K1 (3 + p) j = K (3 + p) j) (hp : nP K p) : nP K1 p := by
  unfold nP
  rw [h 0 (by omega), h 2 (by omega), h 3 (by omega)]
  exact hp
theorem n_tts {T : Nat → Nat → List Int} (hT : nTx T) : ∀ (n p : Nat) (K : zI) (x : Int), K 0 6 = 0 → (∀ q, p ≤ q → q < p + n → nP K q ∧ 10 ≤ K (3 + q) 3) → mR x → (mtts T n p K x).2 = zand x (ncf K p n) ∧ (∀ y j, ¬ (j = 4 ∧ 3 + p ≤ y ∧ y < 3 + p + n) → (mtts T n p K x).1 y j = K y j) ∧ ∀ q, p ≤ q → q < p + n → (mtts T n p K x).1 (3 + q) 4 = mcl (K (3 + q) 4 + 1) 0 99
  | 0, _, _, _, _, _, hx => ⟨(n_aR hx).symm, fun _ _ _ => rfl, fun q a b => absurd b (by omega)⟩
  | n + 1, p, K, x, hr, h, hx => by
    obtain ⟨h1, h2⟩ := h p (by omega) (by omega)
    obtain ⟨t1, t2⟩ := n_tt hT hr h1 x
    have ih := n_tts hT n (p + 1) (mtt T K p x) (mtell T K p x) ((t1 0 6 (by omega)).trans hr) (fun q a b => by
      obtain ⟨g1, g2⟩ := h q (by omega) (by omega)
      exact ⟨nP_cg (fun j hj => t1 (3 + q) j (by omega)) g1, by rw [t1 (3 + q) 3 (by omega)]; exact g2⟩) (by rw [n_tell hT hr h1 h2]; exact m_andR hx)
    obtain ⟨i1, i2, i3⟩ := ih
    show (mtts T n (p + 1) (mtt T K p x) (mtell T K p x)).2 = zand x (zand (K (3 + p) 2) (ncf K (p + 1) n)) ∧ (∀ y j, ¬ (j = 4 ∧ 3 + p ≤ y ∧ y < 3 + p + (n + 1)) → (mtts T n (p + 1) (mtt T K p x) (mtell T K p x)).1 y j = K y j) ∧ ∀ q, p ≤ q → q < p + (n + 1) → (mtts T n (p + 1) (mtt T K p x) (mtell T K p x)).1 (3 + q) 4 = mcl (K (3 + q) 4 + 1) 0 99
    refine ⟨?_, fun y j q => ?_, fun q a b => ?_⟩
    · rw [i1, n_tell hT hr h1 h2, n_assoc, ncf_cg (K := mtt T K p x) (K1 := K) n (p + 1) (fun q a b => t1 (3 + q) 2 (by omega))]
    · rw [i2 y j (by omega), t1 y j (by omega)]
    · by_cases w : q = p
      · subst w
        rw [i2 (3 + q) 4 (by omega), t2]
      · rw [i3 q (by omega) (by omega), t1 (3 + q) 4 (by omega)]
/-- a crossing of n tellers with memory for all; all have words for C; a things, b came, day dy, each told sd -/
def nV (K : zI) (n : Nat) (C a b dy sd : Int) : Prop :=
  (K 0 2 = n ∧ n ≤ 5) ∧ (K 0 3 = a ∧ 0 ≤ a ∧ a ≤ 8) ∧ (K 0 4 = dy ∧ 0 ≤ dy ∧ dy ≤ 999) ∧ (K 0 5 = b ∧ 0 ≤ b ∧ b ≤ 999) ∧ K 0 6 = 0 ∧ (∀ j : Nat, (j : Int) < a → mR (K 2 j)) ∧
  (∀ p, p < n → K (3 + p) 0 = 0 ∧ (0 ≤ K (3 + p) 1 ∧ K (3 + p) 1 ≤ 9) ∧ mR (K (3 + p) 2) ∧ (10 ≤ K (3 + p) 3 ∧ K (3 + p) 3 ≤ 99) ∧ K (3 + p) 4 = sd ∧ 0 ≤ sd ∧ sd ≤ 99) ∧ ncf K 0 n = C
theorem nV.P {K : zI} {n : Nat} {C a b dy sd : Int} (h : nV K n C a b dy sd) {p : Nat} (hp : p < n) : nP K p ∧ 10 ≤ K (3 + p) 3 := by
  have := h.2.2.2.2.2.2.1 p hp
  exact ⟨⟨this.1, this.2.2.1, by omega⟩, by omega⟩
theorem nV.R {K : zI} {n : Nat} {C a b dy sd : Int} (h : nV K n C a b dy sd) : mR C := by rw [← h.2.2.2.2.2.2.2]; exact ncf_R K n 0
theorem nV.lk {K K1 : zI} {n : Nat} {C a b dy sd : Int} (hl : mlk K K1) (h : nV K n C a b dy sd) : nV K1 n C a b dy sd := by
  obtain ⟨h1, h2, h3, h4, h5, h6, h7, h8⟩ := h
  have e : ∀ p, p < n → ∀ j, j < 5 → K (3 + p) j = K1 (3 + p) j := fun p hp => hl.2.2 p (by omega)
  refine ⟨?_, ?_, ?_, ?_, ?_, fun j hj => ?_, fun p hp => ?_, ?_⟩
  · rw [← hl.1 2 (by omega) (by omega)]; exact h1
  · rw [← hl.1 3 (by omega) (by omega)]; exact h2
  · rw [← hl.1 4 (by omega) (by omega)]; exact h3
  · rw [← hl.1 5 (by omega) (by omega)]; exact h4
  · rw [← hl.1 6 (by omega) (by omega)]; exact h5
  · rw [← hl.2.1 j (by omega)]; exact h6 j hj
  · rw [← e p hp 0 (by omega), ← e p hp 1 (by omega), ← e p hp 2 (by omega), ← e p hp 3 (by omega), ← e p hp 4 (by omega)]
    exact h7 p hp
  · rw [← ncf_cg n 0 (fun q _ b => e q (by omega) 2 (by omega))]
    exact h8
theorem nV.W {K : zI} {n : Nat} {C a b dy sd : Int} (h : nV K n C a b dy sd) : mWd K := by
  obtain ⟨h1, h2, h3, h4, h5, h6, h7, -⟩ := h
  refine ⟨⟨⟨by omega, fun p hp => ?_⟩, by omega, by omega⟩, by omega, fun j hj => h6 j (by omega), by omega⟩
  have := h7 p (by omega)
  exact ⟨by omega, by omega, this.2.2.1, by omega, by omega⟩
theorem mcl_1 {v m : Int} (h : 0 ≤ v) (h1 : v < m) : mcl (v + 1) 0 m = v + 1 := by
  unfold mcl
  rw [if_neg (by omega), if_neg (by omega)]
theorem n_pass {T : Nat → Nat → List Int} (hT : nTx T) {K : zI} {n : Nat} {C a b dy sd : Int} (h : nV K n C a b dy sd) (ha : 0 < a) (hd : dy < 999) (hb : b < 999) (hs : sd < 99) :
    (mpass T K).2 = zand (K 2 0) C ∧ nV (mpass T K).1 n C (a - 1) (b + 1) (dy + 1) (sd + 1) ∧ ∀ j : Nat, (j : Int) + 1 < a → (mpass T K).1 2 j = K 2 (j + 1) := by
  obtain ⟨h1, h2, h3, h4, h5, h6, h7, h8⟩ := id h
  have e : mpass T K = (mday (mcome (mtts T (K 0 2).toNat 0 (mshift K) (K 2 0)).1), (mtts T (K 0 2).toNat 0 (mshift K) (K 2 0)).2) := if_pos (by omega)
  have hn : (K 0 2).toNat = n := by omega
  rw [hn] at e
  obtain ⟨t1, t2, t3⟩ := n_tts hT n 0 (mshift K) (K 2 0) (by rw [mshift_0 (by omega)]; exact h5) (fun q _ q2 => by
    obtain ⟨g1, g2⟩ := h.P (p := q) (by omega)
    exact ⟨nP_cg (fun j _ => by rw [mshift_p]) g1, by rw [mshift_p]; exact g2⟩) (h6 0 (by omega))
  have ec : ncf (mshift K) 0 n = C := by
    rw [← h8]
    exact ncf_cg n 0 (fun q _ _ => by rw [mshift_p])
  rw [ec] at t1
  generalize mtts T n 0 (mshift K) (K 2 0) = r at e t1 t2 t3
  have w : ∀ y j, ¬ (y = 0 ∧ (j = 4 ∨ j = 5)) → (mpass T K).1 y j = r.1 y j := fun y j q => by
    rw [e]
    show mday (mcome r.1) y j = _
    unfold mday mcome
    rw [z2_n (by omega), z2_n (by omega)]
  have w5 : (mpass T K).1 0 5 = b + 1 := by
    rw [e]
    show mday (mcome r.1) 0 5 = _
    unfold mday mcome
    rw [z2_n (by omega), z2_s, t2 0 5 (by omega), mshift_0 (by omega), h4.1]
    exact mcl_1 h4.2.1 hb
  have w4 : (mpass T K).1 0 4 = dy + 1 := by
    rw [e]
    show mday (mcome r.1) 0 4 = _
    unfold mday mcome
    rw [z2_s, z2_n (by omega), t2 0 4 (by omega), mshift_0 (by omega), h3.1]
  have wp : ∀ p, p < n → ∀ j, j < 4 → (mpass T K).1 (3 + p) j = K (3 + p) j := fun p _ j _ => by
    rw [w _ _ (by omega), t2 _ _ (by omega), mshift_p]
  have wj : ∀ j : Nat, (j : Int) + 1 < a → (mpass T K).1 2 j = K 2 (j + 1) := fun j hj => by
    rw [w _ _ (by omega), t2 _ _ (by omega), mshift_2 (by omega)]
  refine ⟨by rw [e]; exact t1, ⟨?_, ?_, by omega, by omega, ?_, fun j hj => ?_, fun p hp => ?_, ?_⟩, wj⟩
  · rw [w 0 2 (by omega), t2 0 2 (by omega), mshift_0 (by omega)]; exact h1
  · rw [w 0 3 (by omega), t2 0 3 (by omega), mshift_03]; omega
  · rw [w 0 6 (by omega), t2 0 6 (by omega), mshift_0 (by omega)]; exact h5
  · rw [wj j (by omega)]; exact h6 (j + 1) (by omega)
  · have g := h7 p hp
    rw [wp p hp 0 (by omega), wp p hp 1 (by omega), wp p hp 2 (by omega), wp p hp 3 (by omega), w _ _ (by omega), t3 p (by omega) (by omega), mshift_p, g.2.2.2.2.1, mcl_1 g.2.2.2.2.2.1 hs]
    exact ⟨g.1, g.2.1, g.2.2.1, g.2.2.2.1, rfl, by omega, by omega⟩
  · rw [ncf_cg (K1 := K) n 0 (fun q _ q2 => wp q (by omega) 2 (by omega))]
    exact h8
theorem n_pass0 {T : Nat → Nat → List Int} {K : zI} {n : Nat} {C b dy sd : Int} (h : nV K n C 0 b dy sd) (hd : dy < 999) : (mpass T K).2 = -1 ∧ nV (mpass T K).1 n C 0 b (dy + 1) sd := by
  obtain ⟨h1, h2, h3, h4, h5, h6, h7, h8⟩ := id h
  have e : mpass T K = (mday K, -1) := if_neg (by omega)
  rw [e]
  show (-1 : Int) = -1 ∧ nV (mday K) n C 0 b (dy + 1) sd
  have w : ∀ y j, ¬ (y = 0 ∧ j = 4) → mday K y j = K y j := fun y j q => by
    unfold mday
    rw [z2_n (by omega)]
  have w4 : mday K 0 4 = dy + 1 := by
    unfold mday
    rw [z2_s, h3.1]
  refine ⟨rfl, ⟨?_, ?_, by omega, ?_, ?_, fun j hj => absurd hj (by omega), fun p hp => ?_, ?_⟩⟩
  · rw [w 0 2 (by omega)]; exact h1
  · rw [w 0 3 (by omega)]; exact h2
  · rw [w 0 5 (by omega)]; exact h4
  · rw [w 0 6 (by omega)]; exact h5
  · rw [w _ _ (by omega), w _ _ (by omega), w _ _ (by omega), w _ _ (by omega), w _ _ (by omega)]
    exact h7 p hp
  · rw [ncf_cg (K1 := K) n 0 (fun q _ _ => w _ _ (by omega))]
    exact h8
theorem n_run1 {T : Nat → Nat → List Int} (hT : nTx T) {K : zI} {n : Nat} {C a b dy sd : Int} (h : nV K n C a b dy sd) (ha : 0 < a) (hd : dy < 999) (hb : b < 999) (hs : sd < 99) : mrv (mrn T 1 K (-1) 0) 0 = zand (K 2 0) C := by
  obtain ⟨p1, -, -⟩ := n_pass hT h ha hd hb hs
  have hR : mR (zand (K 2 0) C) := m_andR2 h.R
  have e : mrn T 1 K (-1) 0 = if (mpass T K).2 = -1 then ((mpass T K).1, -1, 0) else ((mpass T K).1, (mpass T K).2, 0 + 1) := rfl
  rw [e, if_neg (by omega)]
  exact p1
theorem n_run {T : Nat → Nat → List Int} (hT : nTx T) {n : Nat} {C : Int} : ∀ (N : Nat) (K : zI) (l m a b dy sd : Int), nV K n C a b dy sd → a ≤ N → dy + N ≤ 999 → b + N ≤ 999 → sd + N ≤ 99 → (mrn T N K l m).2.2 = m + a
  | 0, K, l, m, a, b, dy, sd, h, ha, _, _, _ => by
    have := h.2.1
    show m = m + a
    omega
  | N + 1, K, l, m, a, b, dy, sd, h, ha, hd, hb, hs => by
    have e : mrn T (N + 1) K l m = if (mpass T K).2 = -1 then mrn T N (mpass T K).1 l m else mrn T N (mpass T K).1 (mpass T K).2 (m + 1) := rfl
    have h2 := h.2.1
    by_cases q : 0 < a
    · obtain ⟨p1, p2, -⟩ := n_pass hT h q (by omega) (by omega) (by omega)
      have hR : mR (zand (K 2 0) C) := m_andR2 h.R
      rw [e, if_neg (by omega), n_run hT N _ _ _ _ _ _ _ p2 (by omega) (by omega) (by omega) (by omega)]
      omega
    · obtain rfl : a = 0 := by omega
      obtain ⟨p1, p2⟩ := n_pass0 (T := T) h (by omega)
      rw [e, if_pos p1, n_run hT N _ _ _ _ _ _ _ p2 (by omega) (by omega) (by omega) (by omega)]
end
