/-! a method's run is its contract; written out of wip/whole/16.src -/
def zRm (d mc ms : Nat) : Room := { frames := d + 8, cells := mc, slots := ms, locals := 64 * (d + 8) }
theorem zCe_eq {dA : Nat → ClassId} {ad : Nat → Nat} {h h1 : zH} {x : Nat} (e1 : ∀ j, h.2.1 x j = h1.2.1 x j) (e2 : ∀ j, j < (zSh x).2 → h.2.2 x j = h1.2.2 x j) : zCe dA ad h1 x = zCe dA ad h x := by
  have i1 : h1.2.1 x = h.2.1 x := by funext j; exact (e1 j).symm
  unfold zCe
  rw [i1]
  have a1 : (List.range (zSh x).2).map (zFv ad h1 x (zSh x).1) = (List.range (zSh x).2).map (zFv ad h x (zSh x).1) := by
    apply List.map_congr_left
    intro j hj
    unfold zFv
    rw [i1, e2 j (List.mem_range.mp hj)]
  have a2 : (fun j => if j < (zSh x).2 then (h1.2.2 x j).map ad else none) = (fun j => if j < (zSh x).2 then (h.2.2 x j).map ad else none) := by
    funext j
    by_cases q : j < (zSh x).2
    · rw [if_pos q, if_pos q, e2 j q]
    · rw [if_neg q, if_neg q]
  rw [a1, a2]
theorem zWs_eq {dA : Nat → ClassId} {ad : Nat → Nat} {h h1 : zH} (e : zEq h h1) : zWs dA ad h1 = zWs dA ad h := by
  unfold zWs
  rw [← e.1]
  apply List.map_congr_left
  intro x hx
  have hx := List.mem_range.mp hx
  rw [zCe_eq (e.2.1 x (Or.inl hx)) (e.2.2 x hx)]
theorem zVal.eq {h h1 : zH} (e : zEq h h1) (hv : zVal h) : zVal h1 := by
  refine ⟨by rw [← e.1]; exact hv.1, fun x hx j => ?_, fun x hx j hj y hy => ?_⟩
  · rw [← e.1] at hx
    rw [← e.2.1 x (Or.inl hx) j]
    exact hv.2.1 x hx j
  · rw [← e.1] at hx ⊢
    exact hv.2.2 x hx j hj y ((e.2.2 x hx j hj).trans hy)
theorem zGb.congr {D : va_G} {dA : Nat → ClassId} {A : Nat → Prop} {aC aC1 aV : Nat → Nat} {L : Nat} {xs : Nat → Int32} {U : State} {H : Heap} (e : ∀ i, 1000 ≤ i → aC1 i = aC i) (h : zGb D dA A aC aV L xs U H) : zGb D dA A aC1 aV L xs U H := by
  obtain ⟨h1, h2, h3, h4, h5, h6, h7, h8, h9, h10⟩ := h
  have e1 : (fun i => aC1 (1000 + i)) = fun i => aC (1000 + i) := by funext i; exact e _ (by omega)
  have e2 : aC1 2000 = aC 2000 := e _ (by omega)
  exact ⟨h1, h2, h3, h4, fun i hi => by rw [e _ (by omega)]; exact h5 i hi, by rw [e1]; exact h6, by rw [e2]; exact h7, by rw [e2]; exact h8, by rw [e2]; exact h9, h10⟩
/-- the locals at a method's entry -/
theorem zens_args {ad : Nat → Nat} : ∀ (As : List zV) (n o : Nat), ∀ (i : Nat) (v : zV), zgt none (zens n As) i = some v → (o + i, zEv ad v) ∈ lv_args o (As.map (zEv ad)) ∧ v ∈ As
  | [], n, o, i, v, h => by
    have : ∀ (n i : Nat), zgt none (List.replicate n (none : Option zV)) i = none := by
      intro n
      induction n with
      | zero => intro i; rfl
      | succ n ih => intro i; cases i with | zero => rfl | succ i => exact ih i
    rw [show zens n [] = List.replicate n none by cases n with | zero => rfl | succ n => cases n <;> rfl, this] at h
    cases h
  | .inl x :: As, 0, o, i, v, h => by simp [zens, zgt] at h
  | .inl x :: As, n + 1, o, i, v, h => by
    rw [show zens (n + 1) (.inl x :: As) = some (.inl x) :: zens n As by cases n <;> rfl] at h
    cases i with
    | zero => cases h; exact ⟨by simp [lv_args], List.mem_cons_self⟩
    | succ i =>
      obtain ⟨h1, h2⟩ := zens_args As n (o + 1) i v h
      refine ⟨?_, List.mem_cons_of_mem _ h2⟩
      rw [show o + (i + 1) = o + 1 + i by omega]
      simp only [List.map_cons, lv_args, zEv, Value.category]
      exact List.mem_cons_of_mem _ h1
  | .inr (.inr r) :: As, 0, o, i, v, h => by simp [zens, zgt] at h
  | .inr (.inr r) :: As, n + 1, o, i, v, h => by
    rw [show zens (n + 1) (.inr (.inr r) :: As) = some (.inr (.inr r)) :: zens n As by cases n <;> rfl] at h
    have hc : (zEv ad (.inr (.inr r))).category = 1 := zEv_cat1 _ (fun _ q => by cases q)
    cases i with
    | zero => cases h; exact ⟨by simp [lv_args], List.mem_cons_self⟩
    | succ i =>
      obtain ⟨h1, h2⟩ := zens_args As n (o + 1) i v h
      refine ⟨?_, List.mem_cons_of_mem _ h2⟩
      rw [show o + (i + 1) = o + 1 + i by omega]
      simp only [List.map_cons, lv_args, hc]
      exact List.mem_cons_of_mem _ h1
  | .inr (.inl x) :: As, 0, o, i, v, h => by simp [zens, zgt] at h
  | .inr (.inl x) :: As, 1, o, i, v, h => by
    rw [show zens 1 (.inr (.inl x) :: As) = some (.inr (.inl x)) :: zens 0 As from rfl] at h
    cases i with
    | zero => cases h; exact ⟨by simp [lv_args], List.mem_cons_self⟩
    | succ i =>
      have h : zgt none (zens 0 As) i = some v := h
      rcases As with _ | ⟨w, As⟩
      · simp [zens, zgt] at h
      · rcases w with w | w | w <;> simp [zens, zgt] at h
  | .inr (.inl x) :: As, n + 2, o, i, v, h => by
    rw [show zens (n + 2) (.inr (.inl x) :: As) = some (.inr (.inl x)) :: none :: zens n As from rfl] at h
    cases i with
    | zero => cases h; exact ⟨by simp [lv_args], List.mem_cons_self⟩
    | succ i =>
      cases i with
      | zero => cases h
      | succ i =>
        obtain ⟨h1, h2⟩ := zens_args As n (o + 2) i v h
        refine ⟨?_, List.mem_cons_of_mem _ h2⟩
        rw [show o + (i + 1 + 1) = o + 2 + i by omega]
        simp only [List.map_cons, lv_args, zEv, Value.category]
        exact List.mem_cons_of_mem _ h1
theorem zMT2 : (List.range 203).all (fun k => plainName (zY k).cls && (Nat.ble (zL k) 40 && decide ((zY k).cls = zR (zO k)))) = true := by decide +kernel
theorem zMT3 {k : Nat} (h : k < 203) : plainName (zY k).cls = true ∧ zL k ≤ 40 ∧ (zY k).cls = zR (zO k) := by
  have := List.all_eq_true.mp zMT2 k (List.mem_range.mpr h)
  simp only [Bool.and_eq_true, decide_eq_true_eq, Nat.ble_eq] at this
  exact ⟨this.1, this.2.1, this.2.2⟩
def zsl1 : zV → Nat
  | .inr (.inl _) => 2
  | _ => 1
theorem zslots {ad : Nat → Nat} : ∀ As : List zV, (lg_sl (As.map (zEv ad))).length = (As.map zsl1).sum
  | [] => rfl
  | .inl x :: As => by
    have := zslots (ad := ad) As
    simp [lg_sl, zEv, Value.category, zsl1] at this ⊢
    omega
  | .inr (.inl x) :: As => by
    have := zslots (ad := ad) As
    simp [lg_sl, zEv, Value.category, zsl1] at this ⊢
    omega
  | .inr (.inr r) :: As => by
    have := zslots (ad := ad) As
    have hc : (zEv ad (.inr (.inr r))).category = 1 := zEv_cat1 _ (fun _ q => by cases q)
    simp [lg_sl, hc, zsl1] at this ⊢
    omega
