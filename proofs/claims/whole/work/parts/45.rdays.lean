section
/-! the reference's days -/
/-- the reference has the world K, as far as anybody, anything is there; no word is tried -/
def nE (K J : zI) : Prop := (K 0 2 = J 67 9 ∧ K 0 3 = J 67 11 ∧ K 0 4 = J 67 7 ∧ K 0 5 = J 67 12 ∧ K 0 6 = J 67 4) ∧ (∀ j : Nat, (j : Int) < K 0 3 → K 2 j = J 72 j) ∧ ∀ p : Nat, (p : Int) < K 0 2 → K (3 + p) 0 = J 71 (5 * p + 4) ∧ K (3 + p) 1 = J 71 (5 * p) ∧ (K (3 + p) 2 = J 71 (5 * p + 1) ∧ mR (J 71 (5 * p + 1))) ∧ K (3 + p) 3 = J 71 (5 * p + 2) ∧ K (3 + p) 4 = J 71 (5 * p + 3)
theorem nE.lk {K J : zI} (h : nE K J) (h13 : J 67 13 = 0) : mlk K (nK J) := by
  obtain ⟨⟨a1, a2, a3, a4, a5⟩, b, e⟩ := h
  refine ⟨fun j h2 h6 => ?_, fun j hj => b j hj, fun p hp j hj => ?_⟩
  · have : j = 2 ∨ j = 3 ∨ j = 4 ∨ j = 5 ∨ j = 6 := by omega
    rcases this with rfl | rfl | rfl | rfl | rfl
    · exact a1
    · exact a2
    · exact a3
    · exact a4
    · exact a5
  · obtain ⟨e0, e1, ⟨e2, er⟩, e3, e4⟩ := e p hp
    have : j = 0 ∨ j = 1 ∨ j = 2 ∨ j = 3 ∨ j = 4 := by omega
    rcases this with rfl | rfl | rfl | rfl | rfl
    · rw [(nK_p J p).1]; exact e0
    · rw [(nK_p J p).2.1]; exact e1
    · rw [(nK_p J p).2.2.1, h13, m_or0 er]; exact e2
    · rw [(nK_p J p).2.2.2.1]; exact e3
    · rw [(nK_p J p).2.2.2.2]; exact e4
theorem nE.of {K K1 J : zI} (h : mlk K K1) (g : nE K J) : nE K1 J := by
  obtain ⟨⟨a1, a2, a3, a4, a5⟩, b, e⟩ := g
  refine ⟨⟨by rw [← h.1 2 (by decide) (by decide)]; exact a1, by rw [← h.1 3 (by decide) (by decide)]; exact a2, by rw [← h.1 4 (by decide) (by decide)]; exact a3, by rw [← h.1 5 (by decide) (by decide)]; exact a4, by rw [← h.1 6 (by decide) (by decide)]; exact a5⟩, fun j hj => ?_, fun p hp => ?_⟩
  · rw [← h.1 3 (by decide) (by decide)] at hj
    rw [← h.2.1 j hj]
    exact b j hj
  · rw [← h.1 2 (by decide) (by decide)] at hp
    rw [← h.2.2 p hp 0 (by decide), ← h.2.2 p hp 1 (by decide), ← h.2.2 p hp 2 (by decide), ← h.2.2 p hp 3 (by decide), ← h.2.2 p hp 4 (by decide)]
    exact e p hp
theorem nE.at {K J J1 : zI} (h : nE K J) (h67 : ∀ j, j = 9 ∨ j = 11 ∨ j = 7 ∨ j = 12 ∨ j = 4 → J1 67 j = J 67 j) (h71 : ∀ j, j < 25 → J1 71 j = J 71 j) (h72 : ∀ j, j < 8 → J1 72 j = J 72 j) (h5 : K 0 2 ≤ 5) (h8 : K 0 3 ≤ 8) : nE K J1 := by
  obtain ⟨⟨a1, a2, a3, a4, a5⟩, b, e⟩ := h
  refine ⟨⟨by rw [h67 9 (by omega)]; exact a1, by rw [h67 11 (by omega)]; exact a2, by rw [h67 7 (by omega)]; exact a3, by rw [h67 12 (by omega)]; exact a4, by rw [h67 4 (by omega)]; exact a5⟩, fun j hj => by rw [h72 j (by omega)]; exact b j hj, fun p hp => ?_⟩
  rw [h71 _ (by omega), h71 _ (by omega), h71 _ (by omega), h71 _ (by omega), h71 _ (by omega)]
  exact e p hp
theorem nW_of {K J : zI} (hK : mWd K) (h : nE K J) (h13 : J 67 13 = 0) (hX : nXo J (J 67 4).toNat) : nW J := by
  refine ⟨hK.1.1.lk (h.lk h13), ?_, ?_, hX⟩
  · rw [← h.1.2.2.1]; exact hK.1.2.1
  · rw [← h.1.2.2.2.2]; exact hK.1.2.2
theorem mtire_r {T : Nat → Nat → List Int} {K : zI} {p : Nat} {th : Int} (h : 0 ≤ K (3 + p) 1 ∧ K (3 + p) 1 ≤ 9) : 0 ≤ mtire T K p th ∧ mtire T K p th ≤ 100 := by
  have hv := msay_r (T := T) (K := K) (q := 1) (p := p) (th := th)
  unfold mtire mti
  generalize msay T K 1 p th = v at hv
  (repeat' split) <;> omega
theorem niy {p k : Nat} (hp : p < 5) (hk : k < 5) : zwr (((5 * p : Nat) : Int) + (k : Int)) = ((5 * p + k : Nat) : Int) := by
  rw [zwr_eq (show zIn (((5 * p : Nat) : Int) + (k : Int)) by omega)]
  omega
section
variable {c : Nat × Nat × Nat} {I : zI} {g : Nat} {Q : zQ} {K : zI} {T : Nat → Nat → List Int}
set_option maxHeartbeats 800000 in
theorem r172 {e : Nat} (he : 54 ≤ e) (hK : mWd K) (hE : nE K I) (h13 : I 67 13 = 0) (hX : nXo I (I 67 4).toNat) (hT : ∀ q, T (K 0 6).toNat q = nT I (K 0 6).toNat q) {p : Nat} (hp : (p : Int) < K 0 2) {th : Int} (ht : mR th)
    (H : ∀ J, (∀ y, y ≠ 67 → y ≠ 71 → J y = I y) → (∀ j, (j < 14 ∨ 28 < j) → J 67 j = I 67 j) → nE (mtt T K p th) J → Q (some (zi (mtell T K p th))) (c, J, zRg g)) : zcl e 172 0 0 [zr 67, zi (p : Nat), zi th] (c, I, zRg g) Q := by
  obtain ⟨d, rfl⟩ : ∃ d, e = d + 1 := ⟨e - 1, by omega⟩
  have hW := nW_of hK hE h13 hX
  have hl := hE.lk h13
  have h9 : (p : Int) < I 67 9 := by rw [← hE.1.1]; exact hp
  have hp5 : p < 5 := by have := hK.1.1.1.2; omega
  have hkp := hK.1.1.2 p hp
  have hT0 := mtire_r (T := T) (p := p) (th := th) hkp.2.1
  have hMK := mtt_K (T := T) (p := p) hK.1 ht
  obtain ⟨e0, e1, ⟨e2, er⟩, e3, e4⟩ := hE.2.2 p hp
  rw [e3, e4] at hkp
  refine zen rfl rfl (fun B Q1 hQ => g_x12_tellsTruly_0 ?_)
  have H := fun J a b e => hQ _ _ _ (H J a b e)
  rw [nix0 hp5, mtell_lk hl hT hp] at *
  refine r165 (by omega) hW h9 ht (fun J1 h1 => g_x12_tellsTruly_10 ?_)
  refine r166 (by omega) (h1.W hW) (by rw [h1.2 9 (by decide)]; exact h9) ht (fun J2 h2 => g_x12_tellsTruly_18 ?_)
  have h2 := h1.tr h2
  rw [h1.T, h1.K, ← mtire_lk hl hT hp]
  have n1 : zwr (((5 * p : Nat) : Int) + 1) = ((5 * p + 1 : Nat) : Int) := niy (k := 1) hp5 (by decide)
  have n2 : zwr (((5 * p : Nat) : Int) + 2) = ((5 * p + 2 : Nat) : Int) := niy (k := 2) hp5 (by decide)
  have n3 : zwr (((5 * p : Nat) : Int) + 3) = ((5 * p + 3 : Nat) : Int) := niy (k := 3) hp5 (by decide)
  rw [n1, Int.toNat_natCast]
  refine ⟨by omega, by omega, r167 (by omega) (h2.W hW) (by rw [h2.2 9 (by decide)]; exact h9) ht (fun J3 h3 => g_x12_tellsTruly_49 ?_)⟩
  have h71 : J2 71 = I 71 := h2.1 71 (by decide)
  have h3 := h2.tr h3
  rw [h2.T, h2.K, ← mlearn_lk hl hT hp, h71, n2, Int.toNat_natCast, Int.toNat_natCast]
  have k71 : J3 71 = I 71 := h3.1 71 (by decide)
  have tail : ∀ w, w = mtt T K p th (3 + p) 2 → zcl d 131 0 0 [zi (zwr ((z2 J3 71 (5 * p + 1) w 71 (5 * p + 2)) - mtire T K p th)), zi 0, zi 99] (c, z2 J3 71 (5 * p + 1) w, zRg g) (fun v h1 => zRn (zcl d) 172 B Q1 88 [some (zr 67), some (zi (p : Nat)), some (zi th), some (zi ((5 * p : Nat) : Int)), some (zi (mtell (nT I) (nK I) p th)), some (zi (mtire T K p th)), some (zi (zand th (zxor (I 71 (5 * p + 1)) (-1))))] (zva v [zi ((5 * p + 2 : Nat) : Int), zr 71]) h1) := by
    intro w hw
    rw [z2_n (Or.inr (show 5 * p + 2 ≠ 5 * p + 1 by omega)), k71, zwr_eq (show zIn (I 71 (5 * p + 2) - mtire T K p th) by omega)]
    refine r131 (by omega) (by decide) (g_x12_tellsTruly_88 ?_)
    rw [n3, Int.toNat_natCast, Int.toNat_natCast, z2_n (Or.inr (show 5 * p + 3 ≠ 5 * p + 2 by omega)), z2_n (Or.inr (show 5 * p + 3 ≠ 5 * p + 1 by omega)), k71, zwr_eq (show zIn (I 71 (5 * p + 3) + 1) by omega)]
    refine ⟨by omega, by omega, r131 (by omega) (by decide) (g_x12_tellsTruly_112 ⟨by omega, ?_⟩)⟩
    rw [Int.toNat_natCast]
    refine H _ (fun y q1 q2 => ?_) (fun j q => ?_) ?_
    · rw [z2_r q2, z2_r q2, z2_r q2]; exact h3.1 y q1
    · rw [z2_n (Or.inl (by decide)), z2_n (Or.inl (by decide)), z2_n (Or.inl (by decide))]; exact h3.2 j q
    · obtain ⟨⟨a1, a2, a3, a4, a5⟩, b, f⟩ := hE
      have r67 : ∀ j, (j < 14 ∨ 28 < j) → z2 (z2 (z2 J3 71 (5 * p + 1) w) 71 (5 * p + 2) (mcl (I 71 (5 * p + 2) - mtire T K p th) 0 99)) 71 (5 * p + 3) (mcl (I 71 (5 * p + 3) + 1) 0 99) 67 j = I 67 j := fun j q => by
        rw [z2_n (Or.inl (by decide)), z2_n (Or.inl (by decide)), z2_n (Or.inl (by decide))]; exact h3.2 j q
      refine ⟨⟨by rw [mtt_0, r67 9 (by decide)]; exact a1, by rw [mtt_0, r67 11 (by decide)]; exact a2, by rw [mtt_0, r67 7 (by decide)]; exact a3, by rw [mtt_0, r67 12 (by decide)]; exact a4, by rw [mtt_0, r67 4 (by decide)]; exact a5⟩, fun j hj => ?_, fun q hq => ?_⟩
      · rw [mtt_0] at hj
        rw [mtt_2, z2_n (Or.inl (by decide)), z2_n (Or.inl (by decide)), z2_n (Or.inl (by decide)), h3.1 72 (by decide)]
        exact b j hj
      · rw [mtt_0] at hq
        by_cases eq : q = p
        · subst eq
          have hr := (hMK.1.2 q (by rw [mtt_0]; exact hq)).2.2.1
          rw [← hw] at hr ⊢
          rw [mtt_p]
          refine ⟨?_, ?_, ⟨?_, ?_⟩, ?_, ?_⟩
          · rw [z2_n (Or.inr (by omega)), z2_n (Or.inr (by omega)), z2_n (Or.inr (by omega)), k71]; exact e0
          · rw [z2_n (Or.inr (by omega)), z2_n (Or.inr (by omega)), z2_n (Or.inr (by omega)), k71]; exact e1
          · rw [z2_n (Or.inr (by omega)), z2_n (Or.inr (by omega)), z2_s]
          · rw [z2_n (Or.inr (by omega)), z2_n (Or.inr (by omega)), z2_s]; exact hr
          · rw [z2_n (Or.inr (by omega)), z2_s, ← e3]; rfl
          · rw [z2_s, ← e4]; rfl
        · rw [mtt_n (by omega), z2_n (Or.inr (by omega)), z2_n (Or.inr (by omega)), z2_n (Or.inr (by omega)), z2_n (Or.inr (by omega)), z2_n (Or.inr (by omega)), z2_n (Or.inr (by omega)), z2_n (Or.inr (by omega)), z2_n (Or.inr (by omega)), z2_n (Or.inr (by omega)), z2_n (Or.inr (by omega)), z2_n (Or.inr (by omega)), z2_n (Or.inr (by omega)), z2_n (Or.inr (by omega)), z2_n (Or.inr (by omega)), z2_n (Or.inr (by omega)), k71]
          exact f q hq
  have hw2 : mtt T K p th (3 + p) 2 = if mlearn T K p th = 0 then K (3 + p) 2 else zor (K (3 + p) 2) (mlow (zand th (zxor (K (3 + p) 2) (-1)))) := by rw [mtt_p]; rfl
  refine ⟨fun u => ⟨by omega, by omega, tail _ ?_⟩, fun u => ⟨by omega, by omega, tail _ ?_⟩⟩
  · rw [hw2, if_pos u, m_or0 er]; exact e2.symm
  · rw [hw2, if_neg u, e2]; rfl
theorem mtell_sh {p : Nat} {x : Int} : mtell T (mshift K) p x = mtell T K p x ∧ mtire T (mshift K) p x = mtire T K p x ∧ mlearn T (mshift K) p x = mlearn T K p x := by
  unfold mtell mtire mlearn mkeep msay mnk
  rw [mshift_p, mshift_0 (show 4 ≠ 3 by decide), mshift_0 (show 6 ≠ 3 by decide)]
  exact ⟨rfl, rfl, rfl⟩
theorem mtt_sh {p : Nat} {x : Int} : mtt T (mshift K) p x = mshift (mtt T K p x) := by
  funext y
  by_cases h : y = 3 + p
  · subst h
    rw [mtt_p, mshift_p, mshift_p, mtt_p, mtell_sh.2.1, mtell_sh.2.2]
  · rw [mtt_n h]
    unfold mshift
    rw [mtt_0, mtt_2, mtt_n h]
theorem mtts_sh : ∀ (n p : Nat) (K : zI) (x : Int), mtts T n p (mshift K) x = (mshift (mtts T n p K x).1, (mtts T n p K x).2)
  | 0, _, _, _ => rfl
  | n + 1, p, K, x => by
    show mtts T n (p + 1) (mtt T (mshift K) p x) (mtell T (mshift K) p x) = _
    rw [mtt_sh, mtell_sh.1]
    exact mtts_sh n (p + 1) (mtt T K p x) (mtell T K p x)
theorem mtt_Wd {p : Nat} {th : Int} (hK : mWd K) (ht : mR th) : mWd (mtt T K p th) := by
  obtain ⟨h1, h2, h3, h4⟩ := hK
  exact ⟨mtt_K h1 ht, by rw [mtt_0]; exact h2, fun j hj => by rw [mtt_0] at hj; rw [mtt_2]; exact h3 j hj, by rw [mtt_0]; exact h4⟩
set_option maxHeartbeats 800000 in
theorem r173 {e : Nat} (he : 56 ≤ e) (hK : mWd K) (hd : K 0 4 < 4999) (hE : nE K I) (h13 : I 67 13 = 0) (hX : nXo I (I 67 4).toNat) (hT : ∀ q, T (K 0 6).toNat q = nT I (K 0 6).toNat q)
    (H : ∀ J, (∀ y, y ≠ 67 → y ≠ 71 → y ≠ 72 → J y = I y) → (∀ j, j ≠ 7 → j ≠ 11 → j ≠ 12 → (j < 14 ∨ 28 < j) → J 67 j = I 67 j) → nE (mpass T K).1 J → Q (some (zi (mpass T K).2)) (c, J, zRg g)) : zcl e 173 0 0 [zr 67] (c, I, zRg g) Q := by
  obtain ⟨d, rfl⟩ : ∃ d, e = d + 1 := ⟨e - 1, by omega⟩
  have hd0 := hK.1.2.1
  have h5 := hK.1.1.1
  have h8 := hK.2.1
  have hc := hK.2.2.2
  refine zen rfl rfl (fun B Q1 hQ => g_x12_passes_0 ?_)
  have H := fun J a b e => hQ _ _ _ (H J a b e)
  have e11 : I 67 11 = K 0 3 := hE.1.2.1.symm
  have e7 : I 67 7 = K 0 4 := hE.1.2.2.1.symm
  rw [e7, zwr_eq (show zIn (K 0 4 + 1) by omega)]
  refine ⟨fun u => ?_, fun u => ?_⟩
  · have em : mpass T K = (mday K, -1) := if_neg (by omega)
    rw [em] at H
    simp only at H
    refine H _ (fun y q1 q2 q3 => z2_r q1) (fun j q1 q2 q3 q4 => z2_n (Or.inr q1)) ?_
    obtain ⟨⟨a1, a2, a3, a4, a5⟩, b, f⟩ := hE
    refine ⟨⟨?_, ?_, ?_, ?_, ?_⟩, fun j hj => ?_, fun p hp => ?_⟩
    · rw [mday_n (Or.inr (by decide)), z2_n (Or.inr (by decide))]; exact a1
    · rw [mday_n (Or.inr (by decide)), z2_n (Or.inr (by decide))]; exact a2
    · show z2 K 0 4 (K 0 4 + 1) 0 4 = _
      rw [z2_s, z2_s]
    · rw [mday_n (Or.inr (by decide)), z2_n (Or.inr (by decide))]; exact a4
    · rw [mday_n (Or.inr (by decide)), z2_n (Or.inr (by decide))]; exact a5
    · rw [mday_n (Or.inr (by decide))] at hj
      rw [mday_r (by decide), z2_n (Or.inl (by decide))]; exact b j hj
    · rw [mday_n (Or.inr (by decide))] at hp
      rw [mday_r (by omega), z2_r (show 71 ≠ 67 by decide)]; exact f p hp
  · have h3 : 0 < K 0 3 := by omega
    have em : mpass T K = (mday (mcome (mtts T (K 0 2).toNat 0 (mshift K) (K 2 0)).1), (mtts T (K 0 2).toNat 0 (mshift K) (K 2 0)).2) := if_pos h3
    rw [em, mtts_sh] at H
    simp only at H
    have e72 : I 72 0 = K 2 0 := (hE.2.1 0 (by omega)).symm
    rw [e72]
    have hx : mR (K 2 0) := hK.2.2.1 0 (by omega)
    -- all of PEOPLE
    have loop : ∀ (n p : Nat) (K1 : zI) (x : Int) (J : zI), ((p + n : Nat) : Int) = K 0 2 → mWd K1 → K1 0 = K 0 → K1 2 = K 2 → nE K1 J → mR x → (∀ y, y ≠ 67 → y ≠ 71 → J y = I y) → (∀ j, (j < 14 ∨ 28 < j) → J 67 j = I 67 j) → (∀ J1, (∀ y, y ≠ 67 → y ≠ 71 → y ≠ 72 → J1 y = I y) → (∀ j, j ≠ 7 → j ≠ 11 → j ≠ 12 → (j < 14 ∨ 28 < j) → J1 67 j = I 67 j) → nE (mday (mcome (mshift (mtts T n p K1 x).1))) J1 → Q1 (some (zi (mtts T n p K1 x).2)) (c, J1, zRg g)) → zRn (zcl d) 173 B Q1 18 [some (zr 67), some (zi x), some (zi (p : Nat))] [] (c, J, zRg g) := by
      intro n
      induction n with
      | zero =>
        intro p K1 x J hp hK1 k0 k2 hE1 hx f1 f2 H
        have H : ∀ J1, (∀ y, y ≠ 67 → y ≠ 71 → y ≠ 72 → J1 y = I y) → (∀ j, j ≠ 7 → j ≠ 11 → j ≠ 12 → (j < 14 ∨ 28 < j) → J1 67 j = I 67 j) → nE (mday (mcome (mshift K1))) J1 → Q1 (some (zi x)) (c, J1, zRg g) := H
        have j9 : J 67 9 = K 0 2 := by rw [← hE1.1.1, k0]
        have j11 : J 67 11 = K 0 3 := by rw [← hE1.1.2.1, k0]
        have j12 : J 67 12 = K 0 5 := by rw [← hE1.1.2.2.2.1, k0]
        have j7 : J 67 7 = K 0 4 := by rw [← hE1.1.2.2.1, k0]
        refine g_x12_passes_18 ⟨fun _ => ?_, fun w => absurd (by rw [j9]; omega) w⟩
        rw [j11, zwr_eq (show zIn (K 0 3 - 1) by omega)]
        -- the jetty
        have sh : ∀ (a k : Nat) (J1 : zI), ((k + a : Nat) : Int) = K 0 3 - 1 → (∀ y, y ≠ 72 → J1 y = z2 J 67 11 (K 0 3 - 1) y) → (∀ j, j < k → J1 72 j = J 72 (j + 1)) → (∀ j, k ≤ j → J1 72 j = J 72 j) → zRn (zcl d) 173 B Q1 51 [some (zr 67), some (zi x), some (zi (k : Nat))] [] (c, J1, zRg g) := by
          intro a
          induction a with
          | zero =>
            intro k J1 hk g1 g2 g3
            have i11 : J1 67 11 = K 0 3 - 1 := by rw [g1 67 (by decide), z2_s]
            have i12 : J1 67 12 = K 0 5 := by rw [g1 67 (by decide), z2_n (Or.inr (by decide))]; exact j12
            have i7 : J1 67 7 = K 0 4 := by rw [g1 67 (by decide), z2_n (Or.inr (by decide))]; exact j7
            refine g_x12_passes_51 ⟨fun _ => ?_, fun w => absurd (by rw [i11]; omega) w⟩
            rw [i12, zwr_eq (show zIn (K 0 5 + 1) by omega)]
            refine r131 (by omega) (by decide) (g_x12_passes_93 ?_)
            rw [i7, zwr_eq (show zIn (K 0 4 + 1) by omega)]
            have r67 : ∀ j, j ≠ 7 → j ≠ 11 → j ≠ 12 → z2 (z2 J1 67 12 (mcl (K 0 5 + 1) 0 999)) 67 7 (K 0 4 + 1) 67 j = J 67 j := fun j q1 q2 q3 => by
              rw [z2_n (Or.inr q1), z2_n (Or.inr q3), g1 67 (by decide), z2_n (Or.inr q2)]
            refine H _ (fun y q1 q2 q3 => ?_) (fun j q1 q2 q3 q4 => ?_) ?_
            · rw [z2_r q1, z2_r q1, g1 y q3, z2_r q1]; exact f1 y q1 q2
            · rw [r67 j q1 q2 q3]; exact f2 j q4
            · obtain ⟨⟨a1, a2, a3, a4, a5⟩, b, f⟩ := hE1
              refine ⟨⟨?_, ?_, ?_, ?_, ?_⟩, fun j hj => ?_, fun q hq => ?_⟩
              · rw [mday_n (Or.inr (by decide)), mcome_n (Or.inr (by decide)), mshift_0 (by decide), r67 9 (by decide) (by decide) (by decide)]; exact a1
              · rw [mday_n (Or.inr (by decide)), mcome_n (Or.inr (by decide)), mshift_03, k0, z2_n (Or.inr (by decide)), z2_n (Or.inr (by decide)), i11]
              · show z2 (mcome (mshift K1)) 0 4 (mcome (mshift K1) 0 4 + 1) 0 4 = _
                rw [z2_s, z2_s, mcome_n (Or.inr (by decide)), mshift_0 (by decide), k0]
              · rw [mday_n (Or.inr (by decide)), z2_n (Or.inr (by decide)), z2_s]
                show z2 (mshift K1) 0 5 (mcl (mshift K1 0 5 + 1) 0 999) 0 5 = _
                rw [z2_s, mshift_0 (by decide), k0]
              · rw [mday_n (Or.inr (by decide)), mcome_n (Or.inr (by decide)), mshift_0 (by decide), r67 4 (by decide) (by decide) (by decide)]; exact a5
              · rw [mday_n (Or.inr (by decide)), mcome_n (Or.inr (by decide)), mshift_03, k0] at hj
                rw [mday_r (by decide), mcome_r (by decide), mshift_2 (by rw [k0]; omega), z2_n (Or.inl (by decide)), z2_n (Or.inl (by decide)), g2 j (by omega)]
                exact b (j + 1) (by rw [k0]; omega)
              · rw [mday_n (Or.inr (by decide)), mcome_n (Or.inr (by decide)), mshift_0 (by decide)] at hq
                rw [mday_r (by omega), mcome_r (by omega), mshift_p, z2_r (show 71 ≠ 67 by decide), z2_r (show 71 ≠ 67 by decide), g1 71 (by decide), z2_r (show 71 ≠ 67 by decide)]
                exact f q hq
          | succ a ih =>
            intro k J1 hk g1 g2 g3
            have i11 : J1 67 11 = K 0 3 - 1 := by rw [g1 67 (by decide), z2_s]
            refine g_x12_passes_51 ⟨fun w => absurd w (by rw [i11]; omega), fun _ => ?_⟩
            rw [z1p k (by omega), Int.toNat_natCast, Int.toNat_natCast, g3 (k + 1) (by omega)]
            refine ⟨by omega, by omega, ih (k + 1) _ (by omega) (fun y q => by rw [z2_r q]; exact g1 y q) (fun j hj => ?_) (fun j hj => by rw [z2_n (Or.inr (by omega))]; exact g3 j (by omega))⟩
            by_cases q : j = k
            · rw [q, z2_s]
            · rw [z2_n (Or.inr q)]; exact g2 j (by omega)
        exact sh (K 0 3 - 1).toNat 0 _ (by omega) (fun y q => rfl) (fun j hj => absurd hj (by omega)) (fun j _ => z2_n (Or.inl (by decide)))
      | succ n ih =>
        intro p K1 x J hp hK1 k0 k2 hE1 hx f1 f2 H
        have j9 : J 67 9 = K 0 2 := by rw [← hE1.1.1, k0]
        have hR : nR J = nR I := by
          funext t
          unfold nR nb
          rw [f1 68 (by decide) (by decide), f1 69 (by decide) (by decide)]
        have hnT : ∀ t q, t < 6 → nT J t q = nT I t q := by
          intro t q ht
          unfold nT
          rw [hR, if_pos ht, if_pos ht]
          have ex : mX J t q = mX I t q := by
            unfold mX mX0
            rw [f1 (46 + 3 * t) (by omega) (by omega), f1 (45 + 3 * t) (by omega) (by omega)]
          rw [ex]
        have hr6 := hK.1.2.2
        refine g_x12_passes_18 ⟨fun w => absurd w (by rw [j9]; omega), fun _ => r172 (K := K1) (T := T) (by omega) hK1 hE1 (by rw [f2 13 (by decide)]; exact h13) ?_ ?_ (by rw [k0]; omega) hx (fun J1 a1 a2 a3 => g_x12_passes_32 ?_)⟩
        · rw [f2 4 (by decide)]
          unfold nXo nb at hX ⊢
          rw [hR, f1 68 (by decide) (by decide), f1 69 (by decide) (by decide)]
          exact hX
        · intro q
          rw [k0, hT q, hnT _ _ (by omega)]
        · rw [z1p p (by omega)]
          have hp2 : (p : Int) < K1 0 2 := by rw [k0]; omega
          exact ih (p + 1) _ _ J1 (by omega) (mtt_Wd hK1 hx) (by rw [mtt_0]; exact k0) (by rw [mtt_2]; exact k2) a3 (mtell_R hK1.1.1 hp2 hx) (fun y q1 q2 => by rw [a1 y q1 q2]; exact f1 y q1 q2) (fun j q => by rw [a2 j q]; exact f2 j q) H
    exact loop (K 0 2).toNat 0 K (K 2 0) I (by omega) hK rfl rfl hE hx (fun _ _ _ => rfl) (fun _ _ => rfl) H
theorem y_day {e : Nat} (he : 58 ≤ e) (hK : mWd K) (hd : K 0 4 ≤ 999) (hE : nE K I) (h13 : I 67 13 = 0) (hX : nXo I (I 67 4).toNat) (hT : ∀ q, T (K 0 6).toNat q = nT I (K 0 6).toNat q) (H0 : 999 ≤ K 0 4 → Q (some (zi (-3))) (c, I, zRg g))
    (H1 : K 0 4 < 999 → ∀ J, (∀ y, y ≠ 67 → y ≠ 71 → y ≠ 72 → J y = I y) → (∀ j, j ≠ 7 → j ≠ 11 → j ≠ 12 → (j < 14 ∨ 28 < j) → J 67 j = I 67 j) → nE (mpass T K).1 J → Q (some (zi (mpass T K).2)) (c, J, zRg g)) : zcl e 174 0 0 [zr 67] (c, I, zRg g) Q := by
  obtain ⟨d, rfl⟩ : ∃ d, e = d + 1 := ⟨e - 1, by omega⟩
  have e7 : I 67 7 = K 0 4 := hE.1.2.2.1.symm
  exact zen rfl rfl (fun B Q1 hQ => g_x12_day_0 ⟨fun u => r173 (by omega) hK (by omega) hE h13 hX hT (fun J a1 a2 a3 => g_x12_day_19 (hQ _ _ _ (H1 (by omega) J a1 a2 a3))), fun u => g_x12_day_19 (hQ _ _ _ (H0 (by omega)))⟩)
end
end
