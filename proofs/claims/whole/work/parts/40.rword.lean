section
/-! the reference reads: words, signs, what stands where -/
theorem mite_k {p : Prop} [Decidable p] {a b : Int × Int} {key : Int} (ha : p → a.1 ≠ key) (hb : ¬ p → b.1 ≠ key) : (if p then a else b).1 ≠ key := by
  by_cases h : p
  · rw [if_pos h]; exact ha h
  · rw [if_neg h]; exact hb h
theorem zgt_ge {α : Type} {d : α} : ∀ (l : List α) (i : Nat), l.length ≤ i → zgt d l i = d
  | [], 0, _ => rfl
  | [], _ + 1, _ => rfl
  | _ :: _, 0, h => absurd h (by simp)
  | _ :: l, i + 1, h => zgt_ge l i (Nat.le_of_succ_le_succ h)
theorem mlx_p {b : Nat → Int} {n k : Nat} : mlx b n (mhh b n k) = mto b n (mpl b n k) ∧ mpl b n k = msc mbl b (n - mhh b n k) (mhh b n k) := by
  have h1 := mhh_le (b := b) (n := n) k
  have h2 := msc_le mbl b (n - mhh b n k) (mhh b n k)
  have e : mpl b n k = msc mbl b (n - mhh b n k) (mhh b n k) := by
    unfold mpl mlx
    generalize msc mbl b (n - mhh b n k) (mhh b n k) = q at h2
    by_cases hq : q < n
    · exact (mto_lt hq).2.2.2
    · rw [mto_ge (by omega)]
      show n = q
      omega
  refine ⟨?_, e⟩
  rw [e]
  rfl
/-- token k is the word L -/
def mis (b : Nat → Int) (n k : Nat) (L : List Int) : Prop := (mpl b n k < n ∧ mlt (b (mpl b n k)) = true) ∧ mwl b (mpl b n k) (mhh b n (k + 1)) = L
theorem mis_w {b : Nat → Int} {n k : Nat} (h1 : mpl b n k < n) (h2 : mlt (b (mpl b n k)) = true) : mhh b n (k + 1) = msc mlt b (n - mpl b n k) (mpl b n k) ∧ mkd b n k = (mwd (mwl b (mpl b n k) (mhh b n (k + 1)))).1 ∧ mvl b n k = (mwd (mwl b (mpl b n k) (mhh b n (k + 1)))).2 ∧ mpl b n k < mhh b n (k + 1) ∧ mhh b n (k + 1) ≤ n ∧ ∀ i, mpl b n k ≤ i → i < mhh b n (k + 1) → 97 ≤ b i ∧ b i ≤ 122 := by
  have e0 := (mlx_p (b := b) (n := n) (k := k)).1
  have e1 : mhh b n (k + 1) = (mto b n (mpl b n k)).2.2.2 := by rw [← e0]; rfl
  have e2 : mkd b n k = (mto b n (mpl b n k)).1 := by unfold mkd; rw [e0]
  have e3 : mvl b n k = (mto b n (mpl b n k)).2.1 := by unfold mvl; rw [e0]
  have t := mto_lt (b := b) h1
  rw [← e1] at t
  have em : mto b n (mpl b n k) = ((mwd (mwl b (mpl b n k) (msc mlt b (n - mpl b n k) (mpl b n k)))).1, (mwd (mwl b (mpl b n k) (msc mlt b (n - mpl b n k) (mpl b n k)))).2, mpl b n k, msc mlt b (n - mpl b n k) (mpl b n k)) := by
    unfold mto
    rw [if_neg (by omega), if_pos h2]
  have e4 : mhh b n (k + 1) = msc mlt b (n - mpl b n k) (mpl b n k) := by rw [e1, em]
  refine ⟨e4, by rw [e2, e4, em], by rw [e3, e4, em], t.2.1, t.2.2.1, fun i q1 q2 => ?_⟩
  rw [e4] at q2
  exact mlt_t.mp (msc_in mlt b _ _ i q1 q2)
theorem mis_kd {b : Nat → Int} {n k : Nat} {L : List Int} (h : mis b n k L) : mkd b n k = (mwd L).1 ∧ mvl b n k = (mwd L).2 := by
  obtain ⟨⟨h1, h2⟩, h3⟩ := h
  have h4 := mis_w h1 h2
  rw [h3] at h4
  exact ⟨h4.2.1, h4.2.2.1⟩
theorem mwd_r (l : List Int) : (mwd l).1 ≠ -1 ∧ (mwd l).1 ≠ -3 ∧ (mwd l).1 < 0 := by
  have h1 : (mwd l).1 ≠ -3 := by
    unfold mwd
    exact mite_k (fun _ => by decide) (fun _ => mite_k (fun _ => by decide) (fun _ => mite_k (fun _ => by decide) (fun _ => mite_k (fun _ => by decide) (fun _ => mite_k (fun _ => by decide) (fun _ => mite_k (fun _ => by decide) (fun _ => mite_k (fun _ => by decide) (fun _ => mite_k (fun _ => by decide) (fun _ => mite_k (fun _ => by decide) (fun _ => mite_k (fun _ => by decide) (fun _ => mite_k (fun _ => by decide) (fun _ => mite_k (fun _ => by decide) (fun _ => by decide))))))))))))
  have h2 : ∀ z : Int, 0 ≤ z → (mwd l).1 ≠ z := by
    intro z hz
    unfold mwd
    have hh : ∀ w : Int, w < 0 → w ≠ z := fun w q => by omega
    exact mite_k (fun _ => hh _ (by decide)) (fun _ => mite_k (fun _ => hh _ (by decide)) (fun _ => mite_k (fun _ => hh _ (by decide)) (fun _ => mite_k (fun _ => hh _ (by decide)) (fun _ => mite_k (fun _ => hh _ (by decide)) (fun _ => mite_k (fun _ => hh _ (by decide)) (fun _ => mite_k (fun _ => hh _ (by decide)) (fun _ => mite_k (fun _ => hh _ (by decide)) (fun _ => mite_k (fun _ => hh _ (by decide)) (fun _ => mite_k (fun _ => hh _ (by decide)) (fun _ => mite_k (fun _ => hh _ (by decide)) (fun _ => mite_k (fun _ => hh _ (by decide)) (fun _ => hh _ (by decide)))))))))))))
  refine ⟨mwd_ne l, h1, ?_⟩
  by_cases q : (mwd l).1 < 0
  · exact q
  · exact absurd rfl (h2 (mwd l).1 (by omega))
/-- what token k is, as the reference has it -/
theorem tkc {b : Nat → Int} {n k : Nat} {J : zI} (hT : mtkn b n (mpl b n k) J) (hp : mpl b n k ≤ n) :
    (J 67 23 = 0 ∧ mkd b n k = -1) ∨
    (J 67 23 = 1 ∧ J 67 22 = (mhh b n (k + 1) : Nat) ∧ mpl b n k < n ∧ mlt (b (mpl b n k)) = true) ∨
    (J 67 23 = 2 ∧ J 67 22 = (mhh b n (k + 1) : Nat) ∧ mkd b n k = -3 ∧ J 67 25 = mvl b n k) ∨
    (J 67 23 = 3 ∧ J 67 22 = (mhh b n (k + 1) : Nat) ∧ mkd b n k = J 67 25 ∧ 0 < mkd b n k) ∨
    (J 67 23 = 4 ∧ mkd b n k = -2) := by
  have e0 := (mlx_p (b := b) (n := n) (k := k)).1
  have e1 : mhh b n (k + 1) = (mto b n (mpl b n k)).2.2.2 := by rw [← e0]; rfl
  have e2 : mkd b n k = (mto b n (mpl b n k)).1 := by unfold mkd; rw [e0]
  have e3 : mvl b n k = (mto b n (mpl b n k)).2.1 := by unfold mvl; rw [e0]
  obtain ⟨t0, t1, t2, t3, t4, t5, t6⟩ := hT
  by_cases h0 : n ≤ mpl b n k
  · exact Or.inl ⟨t1 h0, by rw [e2, mto_ge h0]⟩
  · have h0' : mpl b n k < n := by omega
    cases h1 : mlt (b (mpl b n k)) with
    | true =>
      obtain ⟨a1, a2⟩ := t2 h0' h1
      exact Or.inr (Or.inl ⟨a1, by rw [a2, (mis_w h0' h1).1], h0', rfl⟩)
    | false =>
      have em : mto b n (mpl b n k) = if mdg (b (mpl b n k)) = true then (if msc mdg b (n - mpl b n k) (mpl b n k) - mpl b n k ≤ 4 then (-3, mnu b (msc mdg b (n - mpl b n k) (mpl b n k) - mpl b n k) (mpl b n k) 0, mpl b n k, msc mdg b (n - mpl b n k) (mpl b n k)) else (-2, 0, mpl b n k, msc mdg b (n - mpl b n k) (mpl b n k)))
          else if msg (b (mpl b n k)) = true then (b (mpl b n k), 0, mpl b n k, mpl b n k + 1) else (-2, 0, mpl b n k, mpl b n k + 1) := by
        unfold mto
        rw [if_neg h0, if_neg (by rw [h1]; decide)]
      cases h2 : mdg (b (mpl b n k)) with
      | true =>
        rw [if_pos h2] at em
        by_cases h3 : msc mdg b (n - mpl b n k) (mpl b n k) - mpl b n k ≤ 4
        · obtain ⟨a1, a2, a3⟩ := t3 h0' h1 h2 h3
          rw [if_pos h3] at em
          rw [em] at e1 e2 e3
          exact Or.inr (Or.inr (Or.inl ⟨a1, by rw [a3, e1], e2, by rw [a2, e3]⟩))
        · rw [if_neg h3] at em
          rw [em] at e2
          exact Or.inr (Or.inr (Or.inr (Or.inr ⟨t4 h0' h1 h2 h3, e2⟩)))
      | false =>
        rw [if_neg (by rw [h2]; decide)] at em
        cases h3 : msg (b (mpl b n k)) with
        | true =>
          obtain ⟨a1, a2, a3⟩ := t5 h0' h1 h2 h3
          rw [if_pos h3] at em
          rw [em] at e1 e2
          have h4 : b (mpl b n k) = 40 ∨ b (mpl b n k) = 41 ∨ b (mpl b n k) = 59 ∨ b (mpl b n k) = 43 ∨ b (mpl b n k) = 45 ∨ b (mpl b n k) = 42 ∨ b (mpl b n k) = 60 ∨ b (mpl b n k) = 61 := of_decide_eq_true h3
          have e2' : mkd b n k = b (mpl b n k) := e2
          exact Or.inr (Or.inr (Or.inr (Or.inl ⟨a1, by rw [a3, e1], by rw [a2]; exact e2, by rw [e2']; omega⟩)))
        | false =>
          rw [if_neg (by rw [h3]; decide)] at em
          rw [em] at e2
          exact Or.inr (Or.inr (Or.inr (Or.inr ⟨t6 h0' h1 h2 h3, e2⟩)))
def mwk (L : List Int) (key : Int) : Prop := L.length ≤ 8 ∧ (∀ i, i < L.length → zgt 0 L i ≠ 0) ∧ (mwd L).1 = key ∧ key < -4 ∧ ∀ l, (mwd l).1 = key → l = L

theorem mwk_keeps : mwk [107, 101, 101, 112, 115] (-5) := ⟨by decide, by decide, by decide, by decide, fun l q => Decidable.byContradiction (fun h => (show (mwd l).1 ≠ -5 by
  unfold mwd
  exact mite_k (fun _ => by decide) (fun _ => mite_k (fun _ => by decide) (fun _ => mite_k (fun _ => by decide) (fun _ => mite_k (fun _ => by decide) (fun _ => mite_k (fun _ => by decide) (fun _ => mite_k (fun _ => by decide) (fun _ => mite_k (fun q => absurd q h) (fun _ => mite_k (fun _ => by decide) (fun _ => mite_k (fun _ => by decide) (fun _ => mite_k (fun _ => by decide) (fun _ => mite_k (fun _ => by decide) (fun _ => mite_k (fun _ => by decide) (fun _ => by decide))))))))))))) q)⟩
theorem mwk_tires : mwk [116, 105, 114, 101, 115] (-6) := ⟨by decide, by decide, by decide, by decide, fun l q => Decidable.byContradiction (fun h => (show (mwd l).1 ≠ -6 by
  unfold mwd
  exact mite_k (fun _ => by decide) (fun _ => mite_k (fun _ => by decide) (fun _ => mite_k (fun _ => by decide) (fun _ => mite_k (fun _ => by decide) (fun _ => mite_k (fun _ => by decide) (fun _ => mite_k (fun _ => by decide) (fun _ => mite_k (fun _ => by decide) (fun _ => mite_k (fun q => absurd q h) (fun _ => mite_k (fun _ => by decide) (fun _ => mite_k (fun _ => by decide) (fun _ => mite_k (fun _ => by decide) (fun _ => mite_k (fun _ => by decide) (fun _ => by decide))))))))))))) q)⟩
theorem mwk_learns : mwk [108, 101, 97, 114, 110, 115] (-7) := ⟨by decide, by decide, by decide, by decide, fun l q => Decidable.byContradiction (fun h => (show (mwd l).1 ≠ -7 by
  unfold mwd
  exact mite_k (fun _ => by decide) (fun _ => mite_k (fun _ => by decide) (fun _ => mite_k (fun _ => by decide) (fun _ => mite_k (fun _ => by decide) (fun _ => mite_k (fun _ => by decide) (fun _ => mite_k (fun _ => by decide) (fun _ => mite_k (fun _ => by decide) (fun _ => mite_k (fun _ => by decide) (fun _ => mite_k (fun q => absurd q h) (fun _ => mite_k (fun _ => by decide) (fun _ => mite_k (fun _ => by decide) (fun _ => mite_k (fun _ => by decide) (fun _ => by decide))))))))))))) q)⟩
theorem mwk_or : mwk [111, 114] (-8) := ⟨by decide, by decide, by decide, by decide, fun l q => Decidable.byContradiction (fun h => (show (mwd l).1 ≠ -8 by
  unfold mwd
  exact mite_k (fun _ => by decide) (fun _ => mite_k (fun _ => by decide) (fun _ => mite_k (fun _ => by decide) (fun _ => mite_k (fun _ => by decide) (fun _ => mite_k (fun _ => by decide) (fun _ => mite_k (fun _ => by decide) (fun _ => mite_k (fun _ => by decide) (fun _ => mite_k (fun _ => by decide) (fun _ => mite_k (fun _ => by decide) (fun _ => mite_k (fun q => absurd q h) (fun _ => mite_k (fun _ => by decide) (fun _ => mite_k (fun _ => by decide) (fun _ => by decide))))))))))))) q)⟩
theorem mwk_and : mwk [97, 110, 100] (-9) := ⟨by decide, by decide, by decide, by decide, fun l q => Decidable.byContradiction (fun h => (show (mwd l).1 ≠ -9 by
  unfold mwd
  exact mite_k (fun _ => by decide) (fun _ => mite_k (fun _ => by decide) (fun _ => mite_k (fun _ => by decide) (fun _ => mite_k (fun _ => by decide) (fun _ => mite_k (fun _ => by decide) (fun _ => mite_k (fun _ => by decide) (fun _ => mite_k (fun _ => by decide) (fun _ => mite_k (fun _ => by decide) (fun _ => mite_k (fun _ => by decide) (fun _ => mite_k (fun _ => by decide) (fun _ => mite_k (fun q => absurd q h) (fun _ => mite_k (fun _ => by decide) (fun _ => by decide))))))))))))) q)⟩
theorem mwk_not : mwk [110, 111, 116] (-10) := ⟨by decide, by decide, by decide, by decide, fun l q => Decidable.byContradiction (fun h => (show (mwd l).1 ≠ -10 by
  unfold mwd
  exact mite_k (fun _ => by decide) (fun _ => mite_k (fun _ => by decide) (fun _ => mite_k (fun _ => by decide) (fun _ => mite_k (fun _ => by decide) (fun _ => mite_k (fun _ => by decide) (fun _ => mite_k (fun _ => by decide) (fun _ => mite_k (fun _ => by decide) (fun _ => mite_k (fun _ => by decide) (fun _ => mite_k (fun _ => by decide) (fun _ => mite_k (fun _ => by decide) (fun _ => mite_k (fun _ => by decide) (fun _ => mite_k (fun q => absurd q h) (fun _ => by decide))))))))))))) q)⟩
theorem mwd_n4 {l : List Int} (h0 : l ≠ [119, 111, 114, 100, 115]) (h1 : l ≠ [109, 101, 109, 111, 114, 121]) (h2 : l ≠ [110, 117, 109, 98, 101, 114]) (h3 : l ≠ [100, 97, 121]) (h4 : l ≠ [112, 97, 114, 116, 115]) (h5 : l ≠ [115, 97, 105, 100]) : (mwd l).1 ≠ -4 := by
  unfold mwd
  exact mite_k (fun q => absurd q h0) (fun _ => mite_k (fun q => absurd q h1) (fun _ => mite_k (fun q => absurd q h2) (fun _ => mite_k (fun q => absurd q h3) (fun _ => mite_k (fun q => absurd q h4) (fun _ => mite_k (fun q => absurd q h5) (fun _ => mite_k (fun _ => by decide) (fun _ => mite_k (fun _ => by decide) (fun _ => mite_k (fun _ => by decide) (fun _ => mite_k (fun _ => by decide) (fun _ => mite_k (fun _ => by decide) (fun _ => mite_k (fun _ => by decide) (fun _ => by decide))))))))))))
theorem kd_mis {b : Nat → Int} {n k : Nat} {L : List Int} {key : Int} (hw : mwk L key) (h : mkd b n k = key) : mis b n k L := by
  obtain ⟨-, -, w3, w4, w5⟩ := hw
  have e0 := (mlx_p (b := b) (n := n) (k := k)).1
  have e2 : mkd b n k = (mto b n (mpl b n k)).1 := by unfold mkd; rw [e0]
  by_cases h0 : n ≤ mpl b n k
  · rw [mto_ge h0] at e2
    exact absurd (h.symm.trans e2) (by show key ≠ -1; omega)
  · cases h1 : mlt (b (mpl b n k)) with
    | true =>
      have h2 := mis_w (by omega) h1
      exact ⟨⟨by omega, h1⟩, w5 _ (h2.2.1.symm.trans h)⟩
    | false =>
      unfold mto at e2
      rw [if_neg h0, if_neg (by rw [h1]; decide), h] at e2
      split at e2
      · split at e2
        · exact absurd e2 (by show key ≠ -3; omega)
        · exact absurd e2 (by show key ≠ -2; omega)
      · split at e2
        · rename_i h3
          have h4 : b (mpl b n k) = 40 ∨ b (mpl b n k) = 41 ∨ b (mpl b n k) = 59 ∨ b (mpl b n k) = 43 ∨ b (mpl b n k) = 45 ∨ b (mpl b n k) = 42 ∨ b (mpl b n k) = 60 ∨ b (mpl b n k) = 61 := of_decide_eq_true h3
          have e2 : key = b (mpl b n k) := e2
          omega
        · exact absurd e2 (by show key ≠ -2; omega)
def rnm (I : zI) (x : Int) : Int := if x = -1 then I 67 14 else if x = -2 then I 67 15 else if x = -3 then I 67 16 else if x = -4 then I 67 17 else if x = -5 then I 67 18 else I 67 19
/-- where the reference's reading stands: at token k, so many open, s the values of what was read; or behind a fault at token k -/
def rP (I : zI) (b : Nat → Int) (n : Nat) (o : Int) (s : List Int) (r : mP) (J : zI) : Prop := mrF I J ∧ match r with
  | (true, k, cs) => J 67 27 = 0 ∧ J 67 26 = o ∧ mtkn b n (mpl b n k) J ∧ mrun (rnm I) cs = some s
  | (false, k, _) => J 67 27 = 1 ∧ J 67 28 = (mpl b n k : Nat)
theorem mtkn_eq {b : Nat → Int} {n p : Nat} {J J1 : zI} (h : ∀ j, 22 ≤ j → j ≤ 25 → J1 67 j = J 67 j) (hT : mtkn b n p J) : mtkn b n p J1 := by
  unfold mtkn at hT ⊢
  rw [h 22 (by decide) (by decide), h 23 (by decide) (by decide), h 24 (by decide) (by decide), h 25 (by decide) (by decide)]
  exact hT
theorem rP_open {I J : zI} {b : Nat → Int} {n : Nat} {o o1 x : Int} {s : List Int} {r : mP} (h : rP I b n o s r J) (hx : J 67 26 = o → x = o1) : rP I b n o1 s r (z2 J 67 26 x) := by
  obtain ⟨hF, h⟩ := h
  refine ⟨hF.put (by decide) (by decide), ?_⟩
  obtain ⟨b0, k, cs⟩ := r
  cases b0 with
  | false => exact ⟨by rw [z2_n (Or.inr (by decide))]; exact h.1, by rw [z2_n (Or.inr (by decide))]; exact h.2⟩
  | true => exact ⟨by rw [z2_n (Or.inr (by decide))]; exact h.1, by rw [z2_s]; exact hx h.2.1, mtkn_eq (fun j q1 q2 => z2_n (Or.inr (by omega))) h.2.2.1, h.2.2.2⟩
abbrev mck (b : Nat → Int) (p e i : Nat) (x : Int) : Prop := (p + i < e → b (p + i) = x) ∧ (¬ p + i < e → x = 0)
theorem mck_all {b : Nat → Int} {p e : Nat} {L : List Int} (hpe : p ≤ e) (h8 : e ≤ p + 8) (hb : ∀ i, p ≤ i → i < e → 97 ≤ b i ∧ b i ≤ 122) (hl : L.length ≤ 8) (h0 : ∀ i, i < L.length → zgt 0 L i ≠ 0) : (∀ i, i < 8 → mck b p e i (zgt 0 L i)) ↔ mwl b p e = L := by
  rw [mwl_eq]
  constructor
  · intro h
    have hlen : e - p = L.length := by
      rcases Nat.lt_trichotomy (e - p) L.length with q | q | q
      · exact absurd ((h (e - p) (by omega)).2 (by omega)) (h0 _ q)
      · exact q
      · have h1 := (h L.length (by omega)).1 (by omega)
        rw [zgt_ge L _ (Nat.le_refl _)] at h1
        have := hb (p + L.length) (by omega) (by omega)
        omega
    exact ⟨hlen, fun k hk => (h k (by omega)).1 (by omega)⟩
  · intro h i hi
    refine ⟨fun q => h.2 i (by omega), fun q => zgt_ge L i (by omega)⟩
section
variable {c : Nat × Nat × Nat} {I : zI} {g : Nat} {Q : zQ} {b : Nat → Int} {n t : Nat} {o : Int} {s : List Int}
theorem r146 {J : zI} (hB : rB J b n t) {e : Nat} (he : 2 ≤ e) {p e1 i : Nat} (h24 : J 67 24 = (p : Int)) (h22 : J 67 22 = (e1 : Int)) (he1 : e1 ≤ n) (hp : p ≤ n) (hi : i < 8) {x : Int} (H : Q (some (zi (mbo (mck b p e1 i x)))) (c, J, zRg g)) : zcl e 146 0 0 [zr 67, zi (i : Nat), zi x] (c, J, zRg g) Q := by
  obtain ⟨d, rfl⟩ : ∃ d, e = d + 1 := ⟨e - 1, by omega⟩
  have h160 := hB.2.1
  have ez : zwr (J 67 24 + (i : Int)) = ((p + i : Nat) : Int) := by rw [h24, zwr_eq (show zIn ((p : Int) + (i : Int)) by omega)]; omega
  refine zen rfl rfl (fun B Q1 hQ => g_x12_isLetter_0 ?_)
  have H := hQ _ _ _ H
  rw [ez, h22]
  refine ⟨fun u => ⟨fun v => zQi (mbo_f (fun q => v (q.2 (by omega)))).symm H, fun v => zQi (mbo_t ⟨fun q => absurd q (by omega), fun _ => Decidable.not_not.mp v⟩).symm H⟩, fun u => r143 hB (by omega) (by omega) (g_x12_isLetter_23 ?_)⟩
  rw [if_pos (by omega)]
  exact ⟨fun v => zQi (mbo_f (fun q => v (q.1 (by omega)))).symm H, fun v => zQi (mbo_t ⟨fun _ => Decidable.not_not.mp v, fun q => absurd (by omega) q⟩).symm H⟩
theorem r147 (hB : rB I b n t) {e : Nat} (he : 3 ≤ e) {r : mP} {J : zI} (h : rP I b n o s r J) {L : List Int} (hl : L.length ≤ 8) (h0 : ∀ i, i < L.length → zgt 0 L i ≠ 0) (H0 : (∀ k cs, r = (true, k, cs) → ¬ mis b n k L) → Q (some (zi 0)) (c, J, zRg g)) (H1 : ∀ k cs, r = (true, k, cs) → mis b n k L → Q (some (zi 1)) (c, J, zRg g)) : zcl e 147 0 0 [zr 67, zi (zgt 0 L 0), zi (zgt 0 L 1), zi (zgt 0 L 2), zi (zgt 0 L 3), zi (zgt 0 L 4), zi (zgt 0 L 5), zi (zgt 0 L 6), zi (zgt 0 L 7)] (c, J, zRg g) Q := by
  obtain ⟨d, rfl⟩ : ∃ d, e = d + 1 := ⟨e - 1, by omega⟩
  refine zen rfl rfl (fun B Q1 hQ => g_x12_isWord_0 ?_)
  have H0 := fun q => hQ _ _ _ (H0 q)
  have H1 := fun k cs q w => hQ _ _ _ (H1 k cs q w)
  have hBJ := hB.F h.1
  obtain ⟨b0, k, cs⟩ := r
  cases b0 with
  | false => exact ⟨fun _ => H0 (fun k cs q => by cases q), fun u => absurd (by rw [h.2.1]; decide) u⟩
  | true =>
    obtain ⟨-, h27, h26, hT, -⟩ := h
    have hp : mpl b n k ≤ n := mlx_nx.2
    have no : ¬ (mpl b n k < n ∧ mlt (b (mpl b n k)) = true) → Q1 (some (zi 0)) (c, J, zRg g) := fun q => H0 (fun k1 c1 w z => by cases w; exact q z.1)
    refine ⟨fun u => absurd h27 u, fun _ => ⟨fun u => no (fun q => u (hT.2.2.1 q.1 q.2).1), fun u => ?_⟩⟩
    have u := Decidable.not_not.mp u
    rcases tkc hT hp with w | w | w | w | w
    · exact absurd (w.1.symm.trans u) (by decide)
    · obtain ⟨-, a1, a2, a3⟩ := w
      obtain ⟨-, -, -, m1, m2, m3⟩ := mis_w a2 a3
      have h24 := hT.1
      have h160 := hB.2.1
      have no2 : mwl b (mpl b n k) (mhh b n (k + 1)) ≠ L → Q1 (some (zi 0)) (c, J, zRg g) := fun q => H0 (fun k1 c1 w z => by cases w; exact q z.2)
      have yes : mwl b (mpl b n k) (mhh b n (k + 1)) = L → Q1 (some (zi 1)) (c, J, zRg g) := fun q => H1 k cs rfl ⟨⟨a2, a3⟩, q⟩
      generalize mhh b n (k + 1) = e1 at a1 m1 m2 m3 no2 yes
      generalize hpp : mpl b n k = p at a2 a3 m1 m3 no2 yes h24
      refine ⟨fun v => no2 (fun q => ?_), fun v => ?_⟩
      · have := (mwl_eq.mp q).1
        rw [h24, a1, zwr_eq (show zIn ((p : Int) + 8) by omega)] at v
        omega
      · rw [h24, a1, zwr_eq (show zIn ((p : Int) + 8) by omega)] at v
        have key := mck_all (b := b) (p := p) (e := e1) (L := L) (by omega) (by omega) m3 hl h0
        have F : ∀ i : Nat, i < 8 → mbo (mck b p e1 i (zgt 0 L i)) = 0 → Q1 (some (zi 0)) (c, J, zRg g) := fun i hi q => no2 (fun w => mbo_0.mp q (key.mpr w i hi))
        refine r146 (i := 0) hBJ (by omega) h24 a1 m2 (by omega) (by decide) (g_x12_isWord_35 ⟨F 0 (by decide), fun u0 => ?_⟩)
        refine r146 (i := 1) hBJ (by omega) h24 a1 m2 (by omega) (by decide) (g_x12_isWord_44 ⟨F 1 (by decide), fun u1 => ?_⟩)
        refine r146 (i := 2) hBJ (by omega) h24 a1 m2 (by omega) (by decide) (g_x12_isWord_53 ⟨F 2 (by decide), fun u2 => ?_⟩)
        refine r146 (i := 3) hBJ (by omega) h24 a1 m2 (by omega) (by decide) (g_x12_isWord_63 ⟨F 3 (by decide), fun u3 => ?_⟩)
        refine r146 (i := 4) hBJ (by omega) h24 a1 m2 (by omega) (by decide) (g_x12_isWord_73 ⟨F 4 (by decide), fun u4 => ?_⟩)
        refine r146 (i := 5) hBJ (by omega) h24 a1 m2 (by omega) (by decide) (g_x12_isWord_83 ⟨F 5 (by decide), fun u5 => ?_⟩)
        refine r146 (i := 6) hBJ (by omega) h24 a1 m2 (by omega) (by decide) (g_x12_isWord_94 ⟨F 6 (by decide), fun u6 => ?_⟩)
        refine r146 (i := 7) hBJ (by omega) h24 a1 m2 (by omega) (by decide) (g_x12_isWord_105 ⟨F 7 (by decide), fun u7 => ?_⟩)
        refine yes (key.mp (fun i hi => ?_))
        exact (by
          match i, hi with
          | 0, _ => exact mbo_n0.mp u0
          | 1, _ => exact mbo_n0.mp u1
          | 2, _ => exact mbo_n0.mp u2
          | 3, _ => exact mbo_n0.mp u3
          | 4, _ => exact mbo_n0.mp u4
          | 5, _ => exact mbo_n0.mp u5
          | 6, _ => exact mbo_n0.mp u6
          | 7, _ => exact mbo_n0.mp u7
          | i + 8, q => exact absurd q (by omega))
    · exact absurd (w.1.symm.trans u) (by decide)
    · exact absurd (w.1.symm.trans u) (by decide)
    · exact absurd (w.1.symm.trans u) (by decide)
theorem r147k (hB : rB I b n t) {e : Nat} (he : 3 ≤ e) {r : mP} {J : zI} (h : rP I b n o s r J) {L : List Int} {key : Int} (hw : mwk L key) (H0 : (∀ k cs, r = (true, k, cs) → mkd b n k ≠ key) → Q (some (zi 0)) (c, J, zRg g)) (H1 : ∀ k cs, r = (true, k, cs) → mkd b n k = key → Q (some (zi 1)) (c, J, zRg g)) : zcl e 147 0 0 [zr 67, zi (zgt 0 L 0), zi (zgt 0 L 1), zi (zgt 0 L 2), zi (zgt 0 L 3), zi (zgt 0 L 4), zi (zgt 0 L 5), zi (zgt 0 L 6), zi (zgt 0 L 7)] (c, J, zRg g) Q :=
  r147 hB he h hw.1 hw.2.1 (fun q => H0 (fun k cs w z => q k cs w (kd_mis hw z))) (fun k cs w z => H1 k cs w ((mis_kd z).1.trans hw.2.2.1))
theorem r148 {e : Nat} (he : 1 ≤ e) {r : mP} {J : zI} (h : rP I b n o s r J) {x : Int} (hx : 0 < x) (H0 : (∀ k cs, r = (true, k, cs) → mkd b n k ≠ x) → Q (some (zi 0)) (c, J, zRg g)) (H1 : ∀ k cs, r = (true, k, cs) → mkd b n k = x → Q (some (zi 1)) (c, J, zRg g)) : zcl e 148 0 0 [zr 67, zi x] (c, J, zRg g) Q := by
  obtain ⟨d, rfl⟩ : ∃ d, e = d + 1 := ⟨e - 1, by omega⟩
  refine zen rfl rfl (fun B Q1 hQ => g_x12_isSign_0 ?_)
  have H0 := fun q => hQ _ _ _ (H0 q)
  have H1 := fun k cs q w => hQ _ _ _ (H1 k cs q w)
  obtain ⟨b0, k, cs⟩ := r
  cases b0 with
  | false => exact ⟨fun _ => H0 (fun k cs q => by cases q), fun u => absurd (by rw [h.2.1]; decide) u⟩
  | true =>
    obtain ⟨-, h27, h26, hT, -⟩ := h
    have hp : mpl b n k ≤ n := mlx_nx.2
    refine ⟨fun u => absurd h27 u, fun _ => ⟨fun u => H0 (fun k1 c1 w => ?_), fun u => ?_⟩⟩
    · cases w
      rcases tkc hT hp with w | w | w | w | w
      · rw [w.2]; omega
      · rw [(mis_w w.2.2.1 w.2.2.2).2.1]
        have := mwd_r (mwl b (mpl b n k) (mhh b n (k + 1)))
        omega
      · rw [w.2.2.1]; omega
      · exact absurd w.1 u
      · rw [w.2]; omega
    · have u := Decidable.not_not.mp u
      rcases tkc hT hp with w | w | w | w | w
      · exact absurd (w.1.symm.trans u) (by decide)
      · exact absurd (w.1.symm.trans u) (by decide)
      · exact absurd (w.1.symm.trans u) (by decide)
      · obtain ⟨-, -, a2, a3⟩ := w
        rw [← a2]
        exact ⟨fun v => H0 (fun k1 c1 w => by cases w; exact zcmp_ne.mp v), fun v => H1 k cs rfl (Decidable.not_not.mp (fun q => v (zcmp_ne.mpr q)))⟩
      · exact absurd (w.1.symm.trans u) (by decide)
theorem r144p (hB : rB I b n t) {e : Nat} (he : 3 ≤ e) {k : Nat} {cs : List Int} {J : zI} (h : rP I b n o s (true, k, cs) J) (h1 : mkd b n k ≠ -1) (h2 : mkd b n k ≠ -2) (H : ∀ J1, rP I b n o s (true, k + 1, cs) J1 → Q none (c, J1, zRg g)) : zcl e 144 0 0 [zr 67] (c, J, zRg g) Q := by
  obtain ⟨hF, h27, h26, hT, hv⟩ := h
  have hp : mpl b n k ≤ n := mlx_nx.2
  have h22 : J 67 22 = (mhh b n (k + 1) : Nat) := by
    rcases tkc hT hp with w | w | w | w | w
    · exact absurd w.2 h1
    · exact w.2.1
    · exact w.2.1
    · exact w.2.1
    · exact absurd w.2 h2
  refine r144 hB he hF h22 (mhh_le _) (fun J1 a1 a2 a3 a4 a5 => H J1 ⟨a1, by rw [a3]; exact h27, by rw [a2]; exact h26, ?_, hv⟩)
  rw [(mlx_p (b := b) (n := n) (k := k + 1)).2]
  exact a5
theorem r145p {e : Nat} (he : 1 ≤ e) {r : mP} {J : zI} (h : rP I b n o s r J) (H : ∀ J1, rP I b n o s (mbind r mfa) J1 → Q none (c, J1, zRg g)) : zcl e 145 0 0 [zr 67] (c, J, zRg g) Q := by
  obtain ⟨d, rfl⟩ : ∃ d, e = d + 1 := ⟨e - 1, by omega⟩
  refine zen rfl rfl (fun B Q1 hQ => g_x12_fail_0 ?_)
  have H := fun J1 h1 => hQ _ _ _ (H J1 h1)
  obtain ⟨b0, k, cs⟩ := r
  cases b0 with
  | false => exact ⟨fun _ => H J h, fun u => absurd (by rw [h.2.1]; decide) u⟩
  | true =>
    obtain ⟨hF, h27, h26, hT, -⟩ := h
    refine ⟨fun u => absurd h27 u, fun _ => H _ ⟨(hF.put (by decide) (by decide)).put (by decide) (by decide), ?_, ?_⟩⟩
    · rw [z2_n (Or.inr (by decide)), z2_s]
    · rw [z2_s]; exact hT.1
theorem r149 (hB : rB I b n t) {e : Nat} (he : 4 ≤ e) {k : Nat} {cs : List Int} {J : zI} (ho : 0 ≤ o ∧ o ≤ 5) (h : rP I b n o s (true, k, cs) J) (h1 : mkd b n k ≠ -1) (h2 : mkd b n k ≠ -2) (H0 : ¬ o < 5 → ∀ J1, rP I b n o s (false, k, cs) J1 → Q (some (zi 0)) (c, J1, zRg g)) (H1 : o < 5 → ∀ J1, rP I b n (o + 1) s (true, k + 1, cs) J1 → Q (some (zi 1)) (c, J1, zRg g)) : zcl e 149 0 0 [zr 67] (c, J, zRg g) Q := by
  obtain ⟨d, rfl⟩ : ∃ d, e = d + 1 := ⟨e - 1, by omega⟩
  have h26 : J 67 26 = o := h.2.2.1
  refine zen rfl rfl (fun B Q1 hQ => g_x12_opens_0 ⟨fun u => ?_, fun u => r145p (by omega) h (fun J1 hJ1 => g_x12_opens_12 (hQ _ _ _ (H0 (by omega) J1 hJ1)))⟩)
  have hx : zwr (J 67 26 + 1) = o + 1 := by rw [h26, zwr_eq (show zIn (o + 1) by omega)]
  rw [hx]
  exact r144p hB (by omega) (rP_open h (fun _ => rfl)) h1 h2 (fun J1 hJ1 => g_x12_opens_28 (hQ _ _ _ (H1 (by omega) J1 hJ1)))
theorem r150 (hB : rB I b n t) {e : Nat} (he : 4 ≤ e) {k : Nat} {cs : List Int} {J : zI} (h : rP I b n o s (true, k, cs) J) (hw : mpl b n k < n ∧ mlt (b (mpl b n k)) = true) (H0 : mkd b n k ≠ -4 → ∀ J1, rP I b n o s (false, k, cs) J1 → Q (some (zi 0)) (c, J1, zRg g)) (H1 : mkd b n k = -4 → Q (some (zi (rnm I (mvl b n k)))) (c, J, zRg g)) : zcl e 150 0 0 [zr 67] (c, J, zRg g) Q := by
  obtain ⟨d, rfl⟩ : ∃ d, e = d + 1 := ⟨e - 1, by omega⟩
  refine zen rfl rfl (fun B Q1 hQ => g_x12_name_0 ?_)
  have H0 := fun q J1 h1 => hQ _ _ _ (H0 q J1 h1)
  have H1 := fun q => hQ _ _ _ (H1 q)
  have hF := h.1

  refine r147 hB (by omega) h (L := [119, 111, 114, 100, 115]) (by decide) (by decide) (fun n0 => g_x12_name_17 ⟨fun _ => ?_, fun q => absurd rfl q⟩) (fun k1 c1 q m => g_x12_name_17 ⟨fun w => absurd w (by decide), fun _ => ?_⟩)
  rotate_left
  · cases q
    obtain ⟨m1, m2⟩ := mis_kd m
    have H1 := H1 (m1.trans (by decide))
    rw [m2] at H1
    rw [hF.2 14 (by decide)]
    exact H1
  refine r147 hB (by omega) h (L := [109, 101, 109, 111, 114, 121]) (by decide) (by decide) (fun n1 => g_x12_name_43 ⟨fun _ => ?_, fun q => absurd rfl q⟩) (fun k1 c1 q m => g_x12_name_43 ⟨fun w => absurd w (by decide), fun _ => ?_⟩)
  rotate_left
  · cases q
    obtain ⟨m1, m2⟩ := mis_kd m
    have H1 := H1 (m1.trans (by decide))
    rw [m2] at H1
    rw [hF.2 15 (by decide)]
    exact H1
  refine r147 hB (by omega) h (L := [110, 117, 109, 98, 101, 114]) (by decide) (by decide) (fun n2 => g_x12_name_69 ⟨fun _ => ?_, fun q => absurd rfl q⟩) (fun k1 c1 q m => g_x12_name_69 ⟨fun w => absurd w (by decide), fun _ => ?_⟩)
  rotate_left
  · cases q
    obtain ⟨m1, m2⟩ := mis_kd m
    have H1 := H1 (m1.trans (by decide))
    rw [m2] at H1
    rw [hF.2 16 (by decide)]
    exact H1
  refine r147 hB (by omega) h (L := [100, 97, 121]) (by decide) (by decide) (fun n3 => g_x12_name_92 ⟨fun _ => ?_, fun q => absurd rfl q⟩) (fun k1 c1 q m => g_x12_name_92 ⟨fun w => absurd w (by decide), fun _ => ?_⟩)
  rotate_left
  · cases q
    obtain ⟨m1, m2⟩ := mis_kd m
    have H1 := H1 (m1.trans (by decide))
    rw [m2] at H1
    rw [hF.2 17 (by decide)]
    exact H1
  refine r147 hB (by omega) h (L := [112, 97, 114, 116, 115]) (by decide) (by decide) (fun n4 => g_x12_name_117 ⟨fun _ => ?_, fun q => absurd rfl q⟩) (fun k1 c1 q m => g_x12_name_117 ⟨fun w => absurd w (by decide), fun _ => ?_⟩)
  rotate_left
  · cases q
    obtain ⟨m1, m2⟩ := mis_kd m
    have H1 := H1 (m1.trans (by decide))
    rw [m2] at H1
    rw [hF.2 18 (by decide)]
    exact H1
  refine r147 hB (by omega) h (L := [115, 97, 105, 100]) (by decide) (by decide) (fun n5 => g_x12_name_141 ⟨fun _ => ?_, fun q => absurd rfl q⟩) (fun k1 c1 q m => g_x12_name_141 ⟨fun w => absurd w (by decide), fun _ => ?_⟩)
  rotate_left
  · cases q
    obtain ⟨m1, m2⟩ := mis_kd m
    have H1 := H1 (m1.trans (by decide))
    rw [m2] at H1
    rw [hF.2 19 (by decide)]
    exact H1
  refine r145p (by omega) h (fun J1 hJ1 => g_x12_name_153 (H0 ?_ J1 hJ1))
  rw [(mis_w hw.1 hw.2).2.1]
  exact mwd_n4 (fun q => n0 k cs rfl ⟨hw, q⟩) (fun q => n1 k cs rfl ⟨hw, q⟩) (fun q => n2 k cs rfl ⟨hw, q⟩) (fun q => n3 k cs rfl ⟨hw, q⟩) (fun q => n4 k cs rfl ⟨hw, q⟩) (fun q => n5 k cs rfl ⟨hw, q⟩)
end
end
