/-! a method's run is its contract; written out of wip/whole/16.src -/
def zRm (d mc ms : Nat) : Room := { frames := d + 8, cells := mc, slots := ms, locals := 64 * (d + 8) }
theorem zCe_eq {dA : Nat → ClassId} {ad : Nat → Nat} {h h1 : zH} {x : Nat} (e1 : ∀ j, h.2.1 x j = h1.2.1 x j) (e2 : ∀ j, j < (zSh x).2 → h.2.2 x j = h1.2.2 x j) : zCe dA ad h1 x = zCe dA ad h x := by
  have i1 : h1.2.1 x = h.2.1 x := by funext j; exact (e1 j).symm
  unfold zCe
  rw [i1]
  have a1 : (List.range (zSh x).2).map (zFv ad h1 x (zSh x).1) = (List.range (zSh x).2).map (zFv ad h x (zSh x).1) := by
    apply List.map_congr_left
    intro j hj
    unfold zFv
    rw [i1, e2 j (List.mem_range.mp hj)]
  have a2 : (fun j => if j < (zSh x).2 then (h1.2.2 x j).map ad else none) = (fun j => if j < (zSh x).2 then (h.2.2 x j).map ad else none) := by
    funext j
    by_cases q : j < (zSh x).2
    · rw [if_pos q, if_pos q, e2 j q]
    · rw [if_neg q, if_neg q]
  rw [a1, a2]
theorem zWs_eq {dA : Nat → ClassId} {ad : Nat → Nat} {h h1 : zH} (e : zEq h h1) : zWs dA ad h1 = zWs dA ad h := by
  unfold zWs
  rw [← e.1]
  apply List.map_congr_left
  intro x hx
  have hx := List.mem_range.mp hx
  rw [zCe_eq (e.2.1 x (Or.inl hx)) (e.2.2 x hx)]
theorem zVal.eq {h h1 : zH} (e : zEq h h1) (hv : zVal h) : zVal h1 := by
  refine ⟨by rw [← e.1]; exact hv.1, fun x hx j => ?_, fun x hx j hj y hy => ?_⟩
  · rw [← e.1] at hx
    rw [← e.2.1 x (Or.inl hx) j]
    exact hv.2.1 x hx j
  · rw [← e.1] at hx ⊢
    exact hv.2.2 x hx j hj y ((e.2.2 x hx j hj).trans hy)
theorem zGb.congr {D : va_G} {dA : Nat → ClassId} {A : Nat → Prop} {aC aC1 aV : Nat → Nat} {L : Nat} {xs : Nat → Int32} {U : State} {H : Heap} (e : ∀ i, 1000 ≤ i → aC1 i = aC i) (h : zGb D dA A aC aV L xs U H) : zGb D dA A aC1 aV L xs U H := by
  obtain ⟨h1, h2, h3, h4, h5, h6, h7, h8, h9, h10⟩ := h
  have e1 : (fun i => aC1 (1000 + i)) = fun i => aC (1000 + i) := by funext i; exact e _ (by omega)
  have e2 : aC1 2000 = aC 2000 := e _ (by omega)
  exact ⟨h1, h2, h3, h4, fun i hi => by rw [e _ (by omega)]; exact h5 i hi, by rw [e1]; exact h6, by rw [e2]; exact h7, by rw [e2]; exact h8, by rw [e2]; exact h9, h10⟩
/-- the locals at a method's entry -/
theorem zens_args {ad : Nat → Nat} : ∀ (As : List zV) (n o : Nat), ∀ (i : Nat) (v : zV), zgt none (zens n As) i = some v → (o + i, zEv ad v) ∈ lv_args o (As.map (zEv ad)) ∧ v ∈ As
  | [], n, o, i, v, h => by
    have : ∀ (n i : Nat), zgt none (List.replicate n (none : Option zV)) i = none := by
      intro n
      induction n with
      | zero => intro i; rfl
      | succ n ih => intro i; cases i with | zero => rfl | succ i => exact ih i
    rw [show zens n [] = List.replicate n none by cases n with | zero => rfl | succ n => cases n <;> rfl, this] at h
    cases h
  | .inl x :: As, 0, o, i, v, h => by simp [zens, zgt] at h
  | .inl x :: As, n + 1, o, i, v, h => by
    rw [show zens (n + 1) (.inl x :: As) = some (.inl x) :: zens n As by cases n <;> rfl] at h
    cases i with
    | zero => cases h; exact ⟨by simp [lv_args], List.mem_cons_self⟩
    | succ i =>
      obtain ⟨h1, h2⟩ := zens_args As n (o + 1) i v h
      refine ⟨?_, List.mem_cons_of_mem _ h2⟩
      rw [show o + (i + 1) = o + 1 + i by omega]
      simp only [List.map_cons, lv_args, zEv, Value.category]
      exact List.mem_cons_of_mem _ h1
  | .inr (.inr r) :: As, 0, o, i, v, h => by simp [zens, zgt] at h
  | .inr (.inr r) :: As, n + 1, o, i, v, h => by
    rw [show zens (n + 1) (.inr (.inr r) :: As) = some (.inr (.inr r)) :: zens n As by cases n <;> rfl] at h
    have hc : (zEv ad (.inr (.inr r))).category = 1 := zEv_cat1 _ (fun _ q => by cases q)
    cases i with
    | zero => cases h; exact ⟨by simp [lv_args], List.mem_cons_self⟩
    | succ i =>
      obtain ⟨h1, h2⟩ := zens_args As n (o + 1) i v h
      refine ⟨?_, List.mem_cons_of_mem _ h2⟩
      rw [show o + (i + 1) = o + 1 + i by omega]
      simp only [List.map_cons, lv_args, hc]
      exact List.mem_cons_of_mem _ h1
  | .inr (.inl x) :: As, 0, o, i, v, h => by simp [zens, zgt] at h
  | .inr (.inl x) :: As, 1, o, i, v, h => by
    rw [show zens 1 (.inr (.inl x) :: As) = some (.inr (.inl x)) :: zens 0 As from rfl] at h
    cases i with
    | zero => cases h; exact ⟨by simp [lv_args], List.mem_cons_self⟩
    | succ i =>
      have h : zgt none (zens 0 As) i = some v := h
      rcases As with _ | ⟨w, As⟩
      · simp [zens, zgt] at h
      · rcases w with w | w | w <;> simp [zens, zgt] at h
  | .inr (.inl x) :: As, n + 2, o, i, v, h => by
    rw [show zens (n + 2) (.inr (.inl x) :: As) = some (.inr (.inl x)) :: none :: zens n As from rfl] at h
    cases i with
    | zero => cases h; exact ⟨by simp [lv_args], List.mem_cons_self⟩
    | succ i =>
      cases i with
      | zero => cases h
      | succ i =>
        obtain ⟨h1, h2⟩ := zens_args As n (o + 2) i v h
        refine ⟨?_, List.mem_cons_of_mem _ h2⟩
        rw [show o + (i + 1 + 1) = o + 2 + i by omega]
        simp only [List.map_cons, lv_args, zEv, Value.category]
        exact List.mem_cons_of_mem _ h1
theorem zMT2 : (List.range 203).all (fun k => plainName (zY k).cls && (Nat.ble (zL k) 40 && decide ((zY k).cls = zR (zO k)))) = true := by decide +kernel
theorem zMT3 {k : Nat} (h : k < 203) : plainName (zY k).cls = true ∧ zL k ≤ 40 ∧ (zY k).cls = zR (zO k) := by
  have := List.all_eq_true.mp zMT2 k (List.mem_range.mpr h)
  simp only [Bool.and_eq_true, decide_eq_true_eq, Nat.ble_eq] at this
  exact ⟨this.1, this.2.1, this.2.2⟩
theorem zslots {ad : Nat → Nat} : ∀ As : List zV, (lg_sl (As.map (zEv ad))).length = zcs As
  | [] => rfl
  | .inl x :: As => by
    have := zslots (ad := ad) As
    simp [lg_sl, zEv, Value.category, zcs] at this ⊢
    omega
  | .inr (.inl x) :: As => by
    have := zslots (ad := ad) As
    simp [lg_sl, zEv, Value.category, zcs] at this ⊢
    omega
  | .inr (.inr r) :: As => by
    have := zslots (ad := ad) As
    have hc : (zEv ad (.inr (.inr r))).category = 1 := zEv_cat1 _ (fun _ q => by cases q)
    simp [lg_sl, hc, zcs] at this ⊢
    omega
theorem zlo_entry {ad : Nat → Nat} {N y : Nat} {As : List zV} {lsA : Array Slot} (hl : lv_has lsA (zL y) (lv_args 0 (As.map (zEv ad)))) (hAs : ∀ v ∈ As, zVd N v) : zLo ad N (zL y) (zens (zL y) As) lsA := by
  refine ⟨hl.1, hl.2.1, fun i v hv => ?_⟩
  obtain ⟨h1, h2⟩ := zens_args (ad := ad) As (zL y) 0 i v hv
  rw [Nat.zero_add] at h1
  exact ⟨hAs v h2, hl.2.2 (i, zEv ad v) h1⟩
/-- a run at a depth is the method's contract -/
theorem zcl_snd {D : va_G} {dA : Nat → ClassId} {aV : Nat → Nat} {L : Nat} {xs : Nat → Int32} (l : Launch) (hLL : L ≤ 3072) : ∀ (d y mc ms : Nat) (As : List zV) (h : zH) (Q : zQ), zcl d y mc ms As h Q → y < 203 → ∀ (aC ad : Nat → Nat) (sz : Nat), zVal h → (∀ i, 1000 ≤ i → ad i = aC i) → h.1.2.2 = L → (∀ j, j < L → h.2.1 2000 j = (xs j).toInt) → (∀ v ∈ As, zVd h.1.1 v) →
    Met l (zY y) (zW y) (zRm d mc ms) (va_Pc (As.map (zEv ad)) (zPre D dA aC aV L xs sz ad h)) (zPost D dA L xs (va_A (zWs dA ad h) sz) mc ms Q h ad) mc ms (va_A (zWs dA ad h) sz)
  | 0, _, _, _, _, _, _, H => H.elim
  | d + 1, y, mc, ms, As, h, Q, H => by
    intro hy aC ad sz hv hac hLn hscr hAs
    obtain ⟨hsz0, h1, e, H⟩ := H
    refine Met.ofW (cc := zB y) (maxL := zL y) (ret := zTr y) (zMT3 hy).1 rfl ?_
    intro p e' s m args below meth c s₁ B hml hpre
    obtain ⟨rfl, hsz, hP, hD0, hG⟩ := hpre
    have hx := B.exec
    have hb := B.bytes
    have hr := B.returns
    have hts := fun w hw => atoms_spec (ws := zW y) B.pre w (List.mem_cons_of_mem _ hw)
    have hown : s.vm.findClass (zR (zO y)) = some m.cls := by rw [← (zMT3 hy).2.2]; exact findClass_of_methodNamed B.named
    have hlocks := B.notSynchronized
    have hnm : (zY y).name = "<init>" → meth.name = "<init>" := fun q => (name_of_methodNamed B.named B.method).1.trans q
    subst hsz
    have hG2 := hG.congr hac
    have hD := hD0.self (sz := s.heap.size)
    generalize hAe : va_A (zWs dA ad h) s.heap.size = A at hG2 hD ⊢
    have hA : ∀ q : Nat, s.heap.size ≤ q → A q := fun q hq => by rw [← hAe]; exact Or.inr hq
    have hl := lv_entry (As.map (zEv ad)) (n := zL y) (by rw [zslots]; exact hsz0)
    rw [lg_entry_eq]
    generalize (lg_sl (As.map (zEv ad)) ++ List.replicate (zL y - (lg_sl (As.map (zEv ad))).length) Slot.unset).toArray = lsA at hl ⊢
    have key := H (zPp p l e' (zRm (d + 1) mc ms) s m (As.map (zEv ad)).toArray below meth c (MQ below (zPost D dA L xs A mc ms Q h ad) (As.map (zEv ad)).toArray s mc ms A) D dA A ad L xs h.1.1 h.1.2.1 0 0 y) (fun pc ls st h2 hs => ?_)
    · have hN : h1.1 = h.1 := e.1.symm
      exact key ad s.heap lsA [] 0 0 ⟨by rw [zWs_eq e]; exact hP, by rw [zWs_eq e]; exact hD, va_S.rf, hv.eq e, fun _ _ => rfl, ⟨by rw [hN], by rw [hN], by rw [hN]; exact Nat.le_refl _⟩, ⟨Nat.zero_le _, Nat.zero_le _⟩, by rw [hN]; exact hLn, fun j hj => by rw [← e.2.1 2000 (Or.inr rfl)]; exact hscr j hj⟩ (zlo_entry hl (by rw [hN]; exact hAs)) (fun v hv => by cases hv)
    · refine zstep_snd (C := zcl d) (k := y) (R := zRm (d + 1) mc ms) (M0 := 0) (M1 := 0) (N0 := h.1.1) (S0 := h.1.2.1) (by omega) hx hb hml hts hown hnm hA hG2 ⟨by show h.1.1 + mc + 0 ≤ h.1.1 + mc; omega, by show h.1.2.1 + ms + 0 ≤ h.1.2.1 + ms; omega⟩ ⟨by show 5 ≤ d + 1 + 8; omega, by show 300 ≤ 64 * (d + 1 + 8); omega⟩ hLL ?_ ?_ hs
      · intro y' mc' ms' As' h' Q' HC hy' ad' sz' v1 v2 v3 v4 v5
        exact ⟨zRm d mc' ms', ⟨rfl, rfl⟩, ⟨by show d + 8 + 1 ≤ d + 1 + 8; omega, by have := (zMT3 hy').2.1; show 8 + (zL y' + 11) + 64 * (d + 8) ≤ 64 * (d + 1 + 8); omega⟩, zcl_snd l hLL d y' mc' ms' As' h' Q' HC hy' ad ad' sz' v1 v2 v3 v4 v5⟩
      · intro ad2 h2 H2 lsA2 locs2 cells2 slots2 pc2 v i hS hQ hvd hd hrk
        obtain ⟨hcnt, hQ⟩ := hQ
        have s6 := hS.2.2.2.2.2.1
        have c1 : cells2 = mc := by have := congrArg (fun q => q.1) hcnt; simp only at this; omega
        have c2 : slots2 = ms := by have := congrArg (fun q => q.2.1) hcnt; simp only at this; omega
        subst c1
        subst c2
        have hend : ∀ t : State, t.heap = H2 → zPost D dA L xs A cells2 slots2 Q h ad (As.map (zEv ad)).toArray s (.returned (v.map (zEv ad2))) t := fun t ht =>
          ⟨⟨v, h2, ad2, rfl, hQ, hcnt, hvd, by rw [ht]; exact hS.1, hS.2.1, hS.2.2.2.1, fun z hz => hS.2.2.2.2.1 z hz, hS.2.2.2.2.2.2.2.2⟩, hS.2.2.1.F ht⟩
        have hf := hS.2.2.1.2.2
        rcases hrk with ⟨rfl, x, rfl, ht | ⟨ht, hx01⟩⟩ | ⟨rfl, ⟨x, rfl⟩, ht⟩ | ⟨rfl, ⟨x, rfl⟩, n, ht⟩ | ⟨rfl, rfl, ht⟩
        · exact W.iret hx hb (hr.trans ht) (fun t ht _ => hend t ht) hf hd hlocks
        · exact W.zret hx hb (hr.trans ht) (by rcases hx01 with rfl | rfl <;> rfl) (fun t ht _ => hend t ht) hf hd hlocks
        · exact W.lret hx hb (hr.trans ht) (fun t ht _ => hend t ht) hf hd hlocks
        · exact W.aret hx hb (hr.trans ht) (Or.inl ⟨n, rfl⟩) (Or.inr ⟨_, rfl⟩) (fun t ht _ => hend t ht) hf hd hlocks
        · exact W.vret hx hb (hr.trans ht) (fun t ht _ => hend t ht) hf hd hlocks
