/-! the least runs: how they are entered, left, and gone through to stops -/
theorem zRn_monoQ {C : zCt} {k : Nat} {B : Nat × Nat} {Q Q1 : zQ} (hC : ∀ k mc ms As h Q Q1, (∀ v h, Q v h → Q1 v h) → C k mc ms As h Q → C k mc ms As h Q1) (hQ : ∀ v h, Q v h → Q1 v h) {pc : Nat} {ls : zLv} {st : List zV} {h : zH} (H : zRn C k B Q pc ls st h) : zRn C k B Q1 pc ls st h :=
  fun P hP => H P (fun pc ls st h hs => hP pc ls st h (zstep_mono (fun _ _ _ _ x => x) hQ hC _ pc ls st h hs))
theorem zcl_mono : ∀ (d k mc ms : Nat) (As : List zV) (h : zH) (Q Q1 : zQ), (∀ v h, Q v h → Q1 v h) → zcl d k mc ms As h Q → zcl d k mc ms As h Q1
  | 0, _, _, _, _, _, _, _, _, H => H
  | d + 1, k, mc, ms, As, h, Q, Q1, hQ, H => by
    obtain ⟨h0, h1, e, H⟩ := H
    exact ⟨h0, h1, e, zRn_monoQ (zcl_mono d) (fun v h2 q => ⟨q.1, hQ _ _ q.2⟩) H⟩
theorem zRn_in {C : zCt} (hC : ∀ k mc ms As h Q Q1, (∀ v h, Q v h → Q1 v h) → C k mc ms As h Q → C k mc ms As h Q1) {k : Nat} {B : Nat × Nat} {Q : zQ} {pc : Nat} {ls : zLv} {st : List zV} {h : zH} (H : zstep C B Q (zRn C k B Q) (zF k pc) pc ls st h) : zRn C k B Q pc ls st h :=
  fun P hP => hP pc ls st h (zstep_mono (fun _ _ _ _ x => x P hP) (fun _ _ x => x) hC _ pc ls st h H)
def zmem (p : Nat) : List Nat → Bool
  | [] => false
  | a :: l => match Nat.beq p a with
    | true => true
    | false => zmem p l
/-- at most n steps, to one of the stops -/
def zRs (C : zCt) (k : Nat) (B : Nat × Nat) (Q : zQ) (s : List Nat) : Nat → zK
  | 0 => zRn C k B Q
  | n + 1 => fun pc ls st h => match zmem pc s with
    | true => zRn C k B Q pc ls st h
    | false => zstep C B Q (zRs C k B Q s n) (zF k pc) pc ls st h
theorem zRs_in {C : zCt} (hC : ∀ k mc ms As h Q Q1, (∀ v h, Q v h → Q1 v h) → C k mc ms As h Q → C k mc ms As h Q1) {k : Nat} {B : Nat × Nat} {Q : zQ} (s : List Nat) : ∀ (n : Nat) (pc : Nat) (ls : zLv) (st : List zV) (h : zH), zRs C k B Q s n pc ls st h → zRn C k B Q pc ls st h
  | 0, _, _, _, _, H => H
  | n + 1, pc, ls, st, h, H => by
    unfold zRs at H
    cases hm : zmem pc s with
    | true => rw [hm] at H; exact H
    | false =>
      rw [hm] at H
      exact zRn_in hC (zstep_mono (zRs_in hC s n) (fun _ _ x => x) hC _ _ _ _ _ H)
/-- the first step, then at most n more to a stop -/
theorem zgo (s : List Nat) (n : Nat) {d k : Nat} {B : Nat × Nat} {Q : zQ} {pc : Nat} {ls : zLv} {st : List zV} {h : zH} (H : zstep (zcl d) B Q (zRs (zcl d) k B Q s n) (zF k pc) pc ls st h) : zRn (zcl d) k B Q pc ls st h :=
  zRn_in (zcl_mono d) (zstep_mono (zRs_in (zcl_mono d) s n) (fun _ _ x => x) (zcl_mono d) _ _ _ _ _ H)
theorem zEq.rf (h : zH) : zEq h h := ⟨rfl, fun _ _ _ => rfl, fun _ _ _ _ => rfl⟩
/-- a method is entered -/
theorem zent {d k mc ms : Nat} {As : List zV} {h : zH} {Q : zQ} {ls : zLv} (hl : zens (zL k) As = ls) (hz : zcs As ≤ zL k) (H : zRn (zcl d) k (h.1.1 + mc, h.1.2.1 + ms) (fun v h2 => h2.1 = (h.1.1 + mc, h.1.2.1 + ms, h.1.2.2) ∧ Q v h2) 0 ls [] h) : zcl (d + 1) k mc ms As h Q := ⟨hz, h, zEq.rf h, by rw [hl]; exact H⟩
theorem zcl_eq {d k mc ms : Nat} {As : List zV} {h h1 : zH} {Q : zQ} (e : zEq h h1) (H : zcl d k mc ms As h1 Q) : zcl d k mc ms As h Q := by
  cases d with
  | zero => exact H
  | succ d =>
    obtain ⟨h0, h2, e2, H⟩ := H
    refine ⟨h0, h2, ⟨e.1.trans e2.1, fun x hx j => ?_, fun x hx j hj => ?_⟩, ?_⟩
    · rw [e.2.1 x hx j]; exact e2.2.1 x (by rw [← e.1]; exact hx) j
    · rw [e.2.2 x hx j hj]; exact e2.2.2 x (by rw [← e.1]; exact hx) j hj
    · rw [e.1]; exact H

