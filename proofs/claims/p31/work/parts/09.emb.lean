/-! how a logical state lies in the machine's -/
def zEv (ad : Nat → Nat) : zV → Value
  | .inl x => .int (zo x)
  | .inr (.inl x) => .long (zp x)
  | .inr (.inr r) => va_rf (r.map ad)
def zVd (N : Nat) : zV → Prop
  | .inl x => zIn x
  | .inr (.inl x) => zIm x
  | .inr (.inr r) => ∀ y, r = some y → y < N ∨ 1000 ≤ y
def zFv (ad : Nat → Nat) (h : zH) (x c j : Nat) : Value := match zKd c j with
  | 1 => .long (zp (h.2.1 x j))
  | 2 => va_rf ((h.2.2 x j).map ad)
  | _ => .int (zo (h.2.1 x j))
def zCe (dA : Nat → ClassId) (ad : Nat → Nat) (h : zH) (x : Nat) : va_E := match Nat.blt (zSh x).1 100 with
  | true => .inr ((zSh x).1, (List.range (zSh x).2).map (zFv ad h x (zSh x).1))
  | false => match Nat.blt (zSh x).1 102 with
    | true => .inl (dA ((zSh x).1 - 100), (zSh x).2, .inl (fun j => zo (h.2.1 x j)))
    | false => .inl (dA ((zSh x).1 - 100), (zSh x).2, .inr (.inr (.inr (.inr (fun j => if j < (zSh x).2 then (h.2.2 x j).map ad else none)))))
def zWs (dA : Nat → ClassId) (ad : Nat → Nat) (h : zH) : va_W := (List.range h.1.1).map (fun x => (ad x, zCe dA ad h x))
def zTys (dA : Nat → ClassId) : List (ClassId × FieldType) := (List.range 6).map (fun t => (dA t, zgt .int zTyL t))
theorem zTys_at (dA : Nat → ClassId) {t : Nat} (h : t < 6) : (zTys dA)[t]? = some (dA t, zgt .int zTyL t) := by simp [zTys, h]
theorem zWs_at (dA : Nat → ClassId) (ad : Nat → Nat) {h : zH} {x : Nat} (hx : x < h.1.1) : (zWs dA ad h)[x]? = some (ad x, zCe dA ad h x) := by simp [zWs, hx]
theorem zWs_set (dA : Nat → ClassId) (ad : Nat → Nat) {h h1 : zH} {x : Nat} (hN : h1.1.1 = h.1.1) (he : ∀ y, y ≠ x → zCe dA ad h1 y = zCe dA ad h y) : (zWs dA ad h).set x (ad x, zCe dA ad h1 x) = zWs dA ad h1 := by
  apply List.ext_getElem?
  intro i
  rw [List.getElem?_set]
  simp only [zWs, List.getElem?_map, List.length_map, List.length_range, hN]
  by_cases hi : i < h.1.1
  · rw [List.getElem?_range hi]
    by_cases e : x = i
    · subst e
      rw [if_pos rfl, if_pos hi]
      rfl
    · rw [if_neg e]
      simp only [Option.map_some]
      rw [he i (fun q => e q.symm)]
  · have hn : (List.range h.1.1)[i]? = none := by simp; omega
    rw [hn]
    by_cases e : x = i
    · subst e
      rw [if_pos rfl, if_neg hi]
      rfl
    · rw [if_neg e]
      rfl
theorem zmap_set {α : Type} {f g : Nat → α} {n j : Nat} {v : α} (hv : g j = v) (hne : ∀ i, i ≠ j → g i = f i) : ((List.range n).map f).set j v = (List.range n).map g := by
  apply List.ext_getElem?
  intro i
  rw [List.getElem?_set]
  simp only [List.getElem?_map, List.length_map, List.length_range]
  by_cases hi : i < n
  · rw [List.getElem?_range hi]
    by_cases e : j = i
    · subst e
      rw [if_pos rfl, if_pos hi, ← hv]
      rfl
    · rw [if_neg e]
      simp only [Option.map_some]
      rw [hne i (fun q => e q.symm)]
  · have hn : (List.range n)[i]? = none := by simp; omega
    rw [hn]
    by_cases e : j = i
    · subst e
      rw [if_pos rfl, if_neg hi]
      rfl
    · rw [if_neg e]
      rfl
/-- a long's place -/
def zIl (x j : Nat) : Bool := Nat.blt (zSh x).1 100 && Nat.beq (zKd (zSh x).1 j) 1
def zVal (h : zH) : Prop := h.1.1 ≤ 1000 ∧ (∀ x, x < h.1.1 → ∀ j, match zIl x j with | true => zIm (h.2.1 x j) | false => zIn (h.2.1 x j)) ∧ ∀ x, x < h.1.1 → ∀ j, j < (zSh x).2 → ∀ y, h.2.2 x j = some y → y < h.1.1 ∨ 1000 ≤ y
/-- the locals -/
def zLo (ad : Nat → Nat) (N nL : Nat) (ls : zLv) (A : Array Slot) : Prop := A.size = nL ∧ lv_wf A ∧ ∀ (i : Nat) (v : zV), zgt none ls i = some v → zVd N v ∧ A[i]? = some (.val (zEv ad v))
theorem zEv_cat1 {ad : Nat → Nat} (v : zV) (h : ∀ x, v ≠ .inr (.inl x)) : (zEv ad v).category = 1 := by
  rcases v with x | x | r
  · rfl
  · exact absurd rfl (h x)
  · cases r <;> rfl
theorem zgt_su {α : Type} (d : α) : ∀ (l : List α) (i j : Nat) (v : α), zgt d (zsu l i v) j = if j = i ∧ i < l.length then v else zgt d l j
  | [], _, _, _ => by simp [zsu, zgt]
  | a :: l, 0, 0, v => by simp [zsu, zgt]
  | a :: l, 0, j + 1, v => by simp [zsu, zgt]
  | a :: l, i + 1, 0, v => by simp [zsu, zgt]
  | a :: l, i + 1, j + 1, v => by
    show zgt d (zsu l i v) j = _
    rw [zgt_su d l i j v]
    show _ = if j + 1 = i + 1 ∧ i + 1 < (a :: l).length then v else zgt d l j
    simp
theorem zLo.list {ad : Nat → Nat} {N nL : Nat} {ls : zLv} {A : Array Slot} (h : zLo ad N nL ls A) : lv_has A nL ((List.range ls.length).filterMap (fun i => (zgt none ls i).map (fun v => (i, zEv ad v)))) := by
  refine ⟨h.1, h.2.1, fun q hq => ?_⟩
  obtain ⟨i, -, hi⟩ := List.mem_filterMap.mp hq
  cases hv : zgt none ls i with
  | none => rw [hv] at hi; cases hi
  | some v =>
    rw [hv] at hi
    cases hi
    exact (h.2.2 i v hv).2
theorem zgt_lt {ls : zLv} {i : Nat} {v : zV} (h : zgt none ls i = some v) : i < ls.length := by
  by_cases q : i < ls.length
  · exact q
  · rw [zgt_big none ls i (by omega)] at h
    cases h
theorem zLo.st1 {ad : Nat → Nat} {N nL i : Nat} {ls : zLv} {A A' : Array Slot} {v : zV} (h : zLo ad N nL ls A) (hg : zlg ls i = false) (hvd : zVd N v)
    (hA : lv_has A' nL ((i, zEv ad v) :: ((List.range ls.length).filterMap (fun i => (zgt none ls i).map (fun v => (i, zEv ad v)))).filter (fun q => !(q.1 == i) && !(q.1 + 1 == i && q.2.category == 2)))) : zLo ad N nL (zsu ls i (some v)) A' := by
  refine ⟨hA.1, hA.2.1, fun j w hj => ?_⟩
  rw [zgt_su] at hj
  by_cases hji : j = i ∧ i < ls.length
  · rw [if_pos hji] at hj
    cases hj
    obtain ⟨rfl, -⟩ := hji
    exact ⟨hvd, hA.2.2 _ List.mem_cons_self⟩
  · rw [if_neg hji] at hj
    have hl := zgt_lt hj
    have hne : j ≠ i := fun e => hji ⟨e, e ▸ hl⟩
    refine ⟨(h.2.2 j w hj).1, hA.2.2 (j, zEv ad w) (List.mem_cons_of_mem _ (List.mem_filter.mpr ⟨List.mem_filterMap.mpr ⟨j, List.mem_range.mpr hl, by rw [hj]; rfl⟩, ?_⟩))⟩
    have h2 : ¬ (j + 1 = i ∧ (zEv ad w).category = 2) := by
      rintro ⟨rfl, hc⟩
      rcases w with x | x | r
      · simp [zEv, Value.category] at hc
      · simp only [zlg, hj] at hg
        cases hg
      · cases r <;> simp [zEv, va_rf, Value.category] at hc
    simp only [Bool.and_eq_true, Bool.not_eq_true', beq_eq_false_iff_ne, ne_eq, Bool.and_eq_false_iff]
    refine ⟨hne, ?_⟩
    by_cases e : j + 1 = i
    · exact Or.inr (fun q => h2 ⟨e, q⟩)
    · exact Or.inl e
theorem zLo.st2 {ad : Nat → Nat} {N nL i : Nat} {ls : zLv} {A A' : Array Slot} {x : Int} (h : zLo ad N nL ls A) (hg : zlg ls i = false) (hvd : zIm x)
    (hA : lv_has A' nL ((i, zEv ad (.inr (.inl x))) :: ((List.range ls.length).filterMap (fun i => (zgt none ls i).map (fun v => (i, zEv ad v)))).filter (fun q => !(q.1 == i) && (!(q.1 == i + 1) && !(q.1 + 1 == i && q.2.category == 2))))) : zLo ad N nL (zsu (zsu ls i (some (.inr (.inl x)))) (i + 1) none) A' := by
  refine ⟨hA.1, hA.2.1, fun j w hj => ?_⟩
  rw [zgt_su] at hj
  by_cases hji1 : j = i + 1 ∧ i + 1 < (zsu ls i (some (.inr (.inl x)))).length
  · rw [if_pos hji1] at hj
    cases hj
  rw [if_neg hji1, zgt_su] at hj
  by_cases hji : j = i ∧ i < ls.length
  · rw [if_pos hji] at hj
    cases hj
    obtain ⟨rfl, -⟩ := hji
    exact ⟨hvd, hA.2.2 _ List.mem_cons_self⟩
  · rw [if_neg hji] at hj
    have hl := zgt_lt hj
    have hne : j ≠ i := fun e => hji ⟨e, e ▸ hl⟩
    have hlen : ∀ (l : zLv) (n : Nat) (v : Option zV), (zsu l n v).length = l.length := by
      intro l
      induction l with
      | nil => intro n v; cases n <;> rfl
      | cons a l ih =>
        intro n v
        cases n with
        | zero => rfl
        | succ n => show (zsu l n v).length + 1 = _; rw [ih]; rfl
    have hne1 : j ≠ i + 1 := fun e => hji1 ⟨e, by rw [hlen]; omega⟩
    refine ⟨(h.2.2 j w hj).1, hA.2.2 (j, zEv ad w) (List.mem_cons_of_mem _ (List.mem_filter.mpr ⟨List.mem_filterMap.mpr ⟨j, List.mem_range.mpr hl, by rw [hj]; rfl⟩, ?_⟩))⟩
    have h2 : ¬ (j + 1 = i ∧ (zEv ad w).category = 2) := by
      rintro ⟨rfl, hc⟩
      rcases w with x | x | r
      · simp [zEv, Value.category] at hc
      · simp only [zlg, hj] at hg
        cases hg
      · cases r <;> simp [zEv, va_rf, Value.category] at hc
    simp only [Bool.and_eq_true, Bool.not_eq_true', beq_eq_false_iff_ne, ne_eq, Bool.and_eq_false_iff]
    refine ⟨hne, hne1, ?_⟩
    by_cases e : j + 1 = i
    · exact Or.inr (fun q => h2 ⟨e, q⟩)
    · exact Or.inl e
theorem zLo.at {ad : Nat → Nat} {N nL i : Nat} {ls : zLv} {A : Array Slot} {v : zV} (h : zLo ad N nL ls A) (hv : zgt none ls i = some v) : A[i]? = some (.val (zEv ad v)) := (h.2.2 i v hv).2
/-- what doesn't change: classes, links, Strings, the script -/
def zGb (D : va_G) (dA : Nat → ClassId) (A : Nat → Prop) (aC aV : Nat → Nat) (L : Nat) (xs : Nat → Int32) (U : State) (H : Heap) : Prop :=
  va_K D zvCl (zTys dA) U ∧ (∀ q ∈ zSN ++ zIN, va_Nw (.methodLinkNest (zR q.1) q.2.1 (zY q.2.2.1) RX11) U) ∧ (∀ c ∈ [1, 2, 3, 4, 6], va_Nw (.castable (zR c) RX9) U) ∧ (∀ c ∈ [5, 8, 9, 10], va_AO (zR c) U) ∧
  (∀ i, i < 13 → vk_R (zR (zgt (0, 0) zSK i).1) (zgt (0, 0) zSK i).2 (zgt "" zSX i) (aC (1000 + i)) U) ∧ vk_S 13 (zVS.map List.length) (zVS.map (List.map zo)) (fun i => aC (1000 + i)) aV A U H ∧
  va_X (aC 2000) L xs U H ∧ aC 2000 < H.size ∧ ¬ A (aC 2000) ∧ va_Z "java/lang/String" "COMPACT_STRINGS" "Z" (.int 1) A U H ∧ va_Zq "jdk/internal/util/Preconditions" "SIOOBE_FORMATTER" "Ljava/util/function/BiFunction;" A U H
/-- where a run stands -/
def zSt (D : va_G) (dA : Nat → ClassId) (A : Nat → Prop) (aC : Nat → Nat) (L : Nat) (xs : Nat → Int32) (s : State) (N0 S0 M0 M1 : Nat) (R : Room) (ad : Nat → Nat) (h : zH) (H : Heap) (locs : List Loc) (cells slots : Nat) : Prop :=
  va_P D zvCl (zWs dA ad h) H ∧ va_D A (zWs dA ad h) ∧ va_S A s.heap H locs ∧ zVal h ∧ (∀ i, (i < N0 ∨ 1000 ≤ i) → ad i = aC i) ∧ (h.1.1 + M0 = N0 + cells ∧ h.1.2.1 + M1 = S0 + slots ∧ N0 ≤ h.1.1) ∧ (cells ≤ R.cells ∧ slots ≤ R.slots) ∧ h.1.2.2 = L ∧ ∀ j, j < L → h.2.1 2000 j = (xs j).toInt
theorem zdc_d {k pc : Nat} {i : Instr} {n : Nat} (h : zdc k pc i n = true) : decode (zB k) pc = .ok (i, n) := of_decide_eq_true h
