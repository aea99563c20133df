section
/-! the reference: rows -/
def mcb (a b : Option (Int × Int)) : Option (Int × Int) := match b with
  | none => a
  | some e => mup a e
theorem mcb_n (b : Option (Int × Int)) : mcb none b = b := by cases b <;> rfl
theorem mup_i (b e : Int × Int) : mup (some b) e = if e.1 < b.1 then some e else some b := rfl
theorem mcb_a (a b e : Option (Int × Int)) : mcb (mcb a b) e = mcb a (mcb b e) := by
  cases e with
  | none => rfl
  | some z =>
    cases b with
    | none => rfl
    | some y =>
      cases a with
      | none => rw [mcb_n, mcb_n]
      | some x =>
        show mup (mup (some x) y) z = mcb (some x) (mup (some y) z)
        rw [mup_i, mup_i]
        by_cases h1 : y.1 < x.1
        · rw [if_pos h1]
          by_cases h2 : z.1 < y.1
          · rw [if_pos h2, mup_i, if_pos h2]
            show some z = mup (some x) z
            rw [mup_i, if_pos (by omega)]
          · rw [if_neg h2, mup_i, if_neg h2]
            show some y = mup (some x) y
            rw [mup_i, if_pos h1]
        · rw [if_neg h1]
          by_cases h2 : z.1 < y.1
          · rw [if_pos h2]
            rfl
          · rw [if_neg h2, mup_i, if_neg (by omega)]
            show some x = mup (some x) y
            rw [mup_i, if_neg h1]
theorem mcb_c {a b : Option (Int × Int)} (h : ∀ x y, a = some x → b = some y → x.1 ≠ y.1) : mcb a b = mcb b a := by
  cases a with
  | none => rw [mcb_n]; rfl
  | some x =>
    cases b with
    | none => rw [mcb_n]; rfl
    | some y =>
      have hh := h x y rfl rfl
      show mup (some x) y = mup (some y) x
      rw [mup_i, mup_i]
      by_cases h1 : y.1 < x.1
      · rw [if_pos h1, if_neg (by omega)]
      · rw [if_neg h1, if_pos (by omega)]
theorem mup_f : ∀ (L : List (Int × Int)) (o : Option (Int × Int)), L.foldl mup o = mcb o (L.foldl mup none)
  | [], o => rfl
  | e :: L, o => by
    rw [List.foldl_cons, List.foldl_cons, mup_f L (mup o e), mup_f L (mup none e)]
    exact mcb_a o (some e) _
theorem mup_c (e : Int × Int) (L : List (Int × Int)) : (e :: L).foldl mup none = mcb (some e) (L.foldl mup none) := mup_f L (some e)
theorem mup_p {P : Int × Int → Prop} : ∀ (L : List (Int × Int)) (o : Option (Int × Int)), (∀ e, e ∈ L → P e) → (∀ e, o = some e → P e) → ∀ e, L.foldl mup o = some e → P e
  | [], o, _, ho, e, h => ho e h
  | a :: L, o, hL, ho, e, h => by
    refine mup_p L (mup o a) (fun x hx => hL x (List.mem_cons_of_mem a hx)) (fun x hx => ?_) e h
    have ha := hL a (List.mem_cons_self)
    cases o with
    | none =>
      cases hx
      exact ha
    | some b =>
      rw [mup_i] at hx
      split at hx
      · cases hx; exact ha
      · cases hx; exact ho _ rfl
abbrev nfl (t : Int) (L : List (Int × Int)) : List (Int × Int) := L.filter (fun e => decide (e.1 % 4 = t))
theorem nfl_y {t : Int} {e : Int × Int} {L : List (Int × Int)} (h : e.1 % 4 = t) : nfl t (e :: L) = e :: nfl t L := List.filter_cons_of_pos (decide_eq_true h)
theorem nfl_n {t : Int} {e : Int × Int} {L : List (Int × Int)} (h : ¬ e.1 % 4 = t) : nfl t (e :: L) = nfl t L := List.filter_cons_of_neg (by rw [decide_eq_false h]; decide)
theorem nfl_k {t : Int} {L : List (Int × Int)} : ∀ e, (nfl t L).foldl mup none = some e → e.1 % 4 = t := mup_p (P := fun e => e.1 % 4 = t) _ _ (fun e he => of_decide_eq_true (List.mem_filter.mp he).2) (fun e he => by cases he)
theorem mup_s : ∀ (L : List (Int × Int)), (∀ e, e ∈ L → e.1 % 4 = 1 ∨ e.1 % 4 = 2 ∨ e.1 % 4 = 3) → L.foldl mup none = mcb ((nfl 1 L).foldl mup none) (mcb ((nfl 2 L).foldl mup none) ((nfl 3 L).foldl mup none))
  | [], _ => rfl
  | e :: L, h => by
    have ih := mup_s L (fun x hx => h x (List.mem_cons_of_mem e hx))
    have he := h e (List.mem_cons_self)
    rw [mup_c, ih]
    rcases he with h1 | h2 | h3
    · rw [nfl_y h1, nfl_n (by omega), nfl_n (by omega), mup_c, mcb_a]
    · rw [nfl_n (by omega), nfl_y h2, nfl_n (by omega), mup_c]
      rw [← mcb_a (some e), mcb_c (a := some e) (fun x y hx hy => by cases hx; have := nfl_k _ hy; omega), mcb_a, mcb_a]
    · rw [nfl_n (by omega), nfl_n (by omega), nfl_y h3, mup_c]
      rw [← mcb_a (some e), mcb_c (a := some e) (fun x y hx hy => by cases hx; have := nfl_k _ hy; omega), mcb_a, ← mcb_a (some e), mcb_c (a := some e) (b := (nfl 2 L).foldl mup none) (fun x y hx hy => by cases hx; have := nfl_k _ hy; omega), mcb_a]
/-- the rows as the reference goes through them; the key is 4 off + size -/
def nrw (F : Nat → Int → Int) (N : Nat) (th : Int) : Nat → Nat → Int → Int → Int → List (Int × Int)
  | 0, s, x, dg, _ => if s = 0 then [] else [(4 * mbc (zxor th x) + (s : Int), dg)]
  | m + 1, s, x, dg, tk => (if s = 0 then [] else [(4 * mbc (zxor th x) + (s : Int), dg)]) ++ (List.range' 0 N).flatMap (fun p : Nat => if zand tk (zshl 1 (p : Int)) = 0 then nrw F N th m (s + 1) (F p x) (mdg10 dg p) (zor tk (zshl 1 (p : Int))) else [])
theorem nfl_h {s t : Nat} {v dg : Int} (hs : s ≤ 3) (ht : t ≤ 3) (h1 : 1 ≤ t) : nfl (t : Int) (if s = 0 then [] else [(4 * v + (s : Int), dg)]) = if s = t then [(4 * v + (t : Int), dg)] else [] := by
  by_cases h : s = t
  · rw [if_pos h, if_neg (by omega), nfl_y (by simp only; omega), h]
    rfl
  · rw [if_neg h]
    by_cases h0 : s = 0
    · rw [if_pos h0]; rfl
    · rw [if_neg h0, nfl_n (by simp only; omega)]; rfl
theorem nrw_f {F : Nat → Int → Int} {N : Nat} {th : Int} {t : Nat} (ht : t ≤ 3) (h1 : 1 ≤ t) : ∀ (m s : Nat) (x dg tk : Int), s + m ≤ 3 → nfl (t : Int) (nrw F N th m s x dg tk) = if s ≤ t ∧ t ≤ s + m then (mcd F N th (t - s) x dg tk).map (fun e => (4 * e.1 + (t : Int), e.2)) else [] := by
  intro m
  induction m with
  | zero =>
    intro s x dg tk hs
    have e : nrw F N th 0 s x dg tk = if s = 0 then [] else [(4 * mbc (zxor th x) + (s : Int), dg)] := rfl
    rw [e, nfl_h (by omega) ht h1]
    by_cases h : s = t
    · rw [if_pos h, if_pos (by omega), show t - s = 0 by omega]
      rfl
    · rw [if_neg h, if_neg (by omega)]
  | succ m ih =>
    intro s x dg tk hs
    have e : nrw F N th (m + 1) s x dg tk = (if s = 0 then [] else [(4 * mbc (zxor th x) + (s : Int), dg)]) ++ (List.range' 0 N).flatMap (fun p : Nat => if zand tk (zshl 1 (p : Int)) = 0 then nrw F N th m (s + 1) (F p x) (mdg10 dg p) (zor tk (zshl 1 (p : Int))) else []) := rfl
    have e1 : nfl (t : Int) (nrw F N th (m + 1) s x dg tk) = nfl (t : Int) (if s = 0 then [] else [(4 * mbc (zxor th x) + (s : Int), dg)]) ++ (List.range' 0 N).flatMap (fun p : Nat => if zand tk (zshl 1 (p : Int)) = 0 then nfl (t : Int) (nrw F N th m (s + 1) (F p x) (mdg10 dg p) (zor tk (zshl 1 (p : Int)))) else []) := by
      rw [e]
      unfold nfl
      rw [List.filter_append, List.filter_flatMap]
      congr 1
      congr 1
      funext p
      show List.filter _ (if _ then _ else _) = _
      split <;> rfl
    rw [e1, nfl_h (by omega) ht h1]
    have e2 : (fun p : Nat => if zand tk (zshl 1 (p : Int)) = 0 then nfl (t : Int) (nrw F N th m (s + 1) (F p x) (mdg10 dg p) (zor tk (zshl 1 (p : Int)))) else []) = (fun p : Nat => if zand tk (zshl 1 (p : Int)) = 0 then (if s + 1 ≤ t ∧ t ≤ s + 1 + m then (mcd F N th (t - (s + 1)) (F p x) (mdg10 dg p) (zor tk (zshl 1 (p : Int)))).map (fun e => (4 * e.1 + (t : Int), e.2)) else []) else []) := by
      funext p
      rw [ih (s + 1) (F p x) (mdg10 dg p) (zor tk (zshl 1 (p : Int))) (by omega)]
    rw [e2]
    by_cases h : s = t
    · rw [if_pos h, if_pos (by omega)]
      have e3 : (fun p : Nat => if zand tk (zshl 1 (p : Int)) = 0 then (if s + 1 ≤ t ∧ t ≤ s + 1 + m then (mcd F N th (t - (s + 1)) (F p x) (mdg10 dg p) (zor tk (zshl 1 (p : Int)))).map (fun e => (4 * e.1 + (t : Int), e.2)) else []) else []) = fun _ => [] := by
        funext p
        rw [if_neg (show ¬ (s + 1 ≤ t ∧ t ≤ s + 1 + m) by omega)]
        split <;> rfl
      have e4 : ∀ l : List Nat, l.flatMap (fun _ => ([] : List (Int × Int))) = [] := fun l => by
        induction l with
        | nil => rfl
        | cons a l ih => rw [List.flatMap_cons, ih]; rfl
      rw [e3, e4, show t - s = 0 by omega]
      rfl
    · rw [if_neg h, List.nil_append]
      by_cases h2 : s + 1 ≤ t ∧ t ≤ s + 1 + m
      · rw [if_pos (by omega), show t - s = (t - (s + 1)) + 1 by omega]
        have e5 : mcd F N th (t - (s + 1) + 1) x dg tk = (List.range' 0 N).flatMap (fun p : Nat => if zand tk (zshl 1 (p : Int)) = 0 then mcd F N th (t - (s + 1)) (F p x) (mdg10 dg p) (zor tk (zshl 1 (p : Int))) else []) := rfl
        rw [e5, List.map_flatMap]
        congr 1
        funext p
        rw [if_pos h2]
        split <;> rfl
      · rw [if_neg (by omega)]
        have e3 : (fun p : Nat => if zand tk (zshl 1 (p : Int)) = 0 then (if s + 1 ≤ t ∧ t ≤ s + 1 + m then (mcd F N th (t - (s + 1)) (F p x) (mdg10 dg p) (zor tk (zshl 1 (p : Int)))).map (fun e => (4 * e.1 + (t : Int), e.2)) else []) else []) = fun _ => [] := by
          funext p
          rw [if_neg h2]
          split <;> rfl
        rw [e3]
        generalize List.range' 0 N = l
        induction l with
        | nil => rfl
        | cons a l ih => rw [List.flatMap_cons, ih]; rfl
theorem nrw_k {F : Nat → Int → Int} {N : Nat} {th : Int} : ∀ (m s : Nat) (x dg tk : Int), s + m ≤ 3 → ∀ e, e ∈ nrw F N th m s x dg tk → e.1 % 4 = 1 ∨ e.1 % 4 = 2 ∨ e.1 % 4 = 3 := by
  have head : ∀ (s : Nat) (v dg : Int), s ≤ 3 → ∀ e, e ∈ (if s = 0 then [] else [(4 * v + (s : Int), dg)]) → e.1 % 4 = 1 ∨ e.1 % 4 = 2 ∨ e.1 % 4 = 3 := by
    intro s v dg hs e he
    by_cases h : s = 0
    · rw [if_pos h] at he
      exact absurd he (List.not_mem_nil)
    · rw [if_neg h] at he
      have := List.mem_singleton.mp he
      rw [this]
      simp only
      omega
  intro m
  induction m with
  | zero => exact fun s x dg tk hs e he => head s _ dg (by omega) e he
  | succ m ih =>
    intro s x dg tk hs e he
    rcases List.mem_append.mp he with h | h
    · exact head s _ dg (by omega) e h
    · obtain ⟨p, -, hp⟩ := List.mem_flatMap.mp h
      split at hp
      · exact ih _ _ _ _ (by omega) e hp
      · exact absurd hp (List.not_mem_nil)
def nrows (F : Nat → Int → Int) (N : Nat) (th : Int) : Nat → Nat → Option (Int × Int) → Option (Int × Int)
  | 0, _, o => o
  | n + 1, s, o => nrows F N th n (s + 1) ((mcd F N th s th 0 0).foldl mup o)
theorem mrows_n {I : zI} {th : Int} : ∀ (n s : Nat) (o : Option (Int × Int)), mrows I th n s o = nrows (mOne I) (I 2 2).toNat th n s o
  | 0, _, _ => rfl
  | n + 1, s, o => mrows_n n (s + 1) _
/-- the same best, with its size, and without -/
def nrl (s : Nat) (ok oo : Option (Int × Int)) : Prop := (ok = none ∧ oo = none) ∨ ∃ b dg sb : Int, 1 ≤ sb ∧ sb ≤ (s : Int) ∧ ok = some (4 * b + sb, dg) ∧ oo = some (b, dg)
theorem nrl_f {s : Nat} (h1 : 1 ≤ s) (h3 : s ≤ 3) : ∀ (L : List (Int × Int)) (ok oo : Option (Int × Int)), nrl s ok oo → nrl s ((L.map (fun e => (4 * e.1 + (s : Int), e.2))).foldl mup ok) (L.foldl mup oo)
  | [], _, _, h => h
  | e :: L, ok, oo, h => by
    rw [List.map_cons, List.foldl_cons, List.foldl_cons]
    refine nrl_f h1 h3 L _ _ ?_
    rcases h with ⟨rfl, rfl⟩ | ⟨b, dg, sb, a1, a2, rfl, rfl⟩
    · exact Or.inr ⟨e.1, e.2, (s : Int), by omega, Int.le_refl _, rfl, rfl⟩
    · rw [mup_i, mup_i]
      simp only
      by_cases q : e.1 < b
      · rw [if_pos q, if_pos (by omega)]
        exact Or.inr ⟨e.1, e.2, (s : Int), by omega, Int.le_refl _, rfl, rfl⟩
      · rw [if_neg q, if_neg (by omega)]
        exact Or.inr ⟨b, dg, sb, a1, a2, rfl, rfl⟩
theorem nrl_up {s : Nat} {ok oo : Option (Int × Int)} (h : nrl s ok oo) : nrl (s + 1) ok oo := by
  rcases h with h | ⟨b, dg, sb, a1, a2, a3, a4⟩
  · exact Or.inl h
  · exact Or.inr ⟨b, dg, sb, a1, by omega, a3, a4⟩
theorem nrw_rel {F : Nat → Int → Int} {N : Nat} {th : Int} {most : Nat} (h1 : 1 ≤ most) (h3 : most ≤ 3) : nrl 3 ((nrw F N th most 0 th 0 0).foldl mup none) (nrows F N th most 1 none) := by
  rw [mup_s _ (nrw_k most 0 th 0 0 (by omega))]
  have f1 : nfl 1 (nrw F N th most 0 th 0 0) = if 0 ≤ 1 ∧ 1 ≤ 0 + most then (mcd F N th (1 - 0) th 0 0).map (fun e => (4 * e.1 + ((1 : Nat) : Int), e.2)) else [] := nrw_f (t := 1) (by decide) (by decide) most 0 th 0 0 (by omega)
  have f2 : nfl 2 (nrw F N th most 0 th 0 0) = if 0 ≤ 2 ∧ 2 ≤ 0 + most then (mcd F N th (2 - 0) th 0 0).map (fun e => (4 * e.1 + ((2 : Nat) : Int), e.2)) else [] := nrw_f (t := 2) (by decide) (by decide) most 0 th 0 0 (by omega)
  have f3 : nfl 3 (nrw F N th most 0 th 0 0) = if 0 ≤ 3 ∧ 3 ≤ 0 + most then (mcd F N th (3 - 0) th 0 0).map (fun e => (4 * e.1 + ((3 : Nat) : Int), e.2)) else [] := nrw_f (t := 3) (by decide) (by decide) most 0 th 0 0 (by omega)
  rw [f1, f2, f3, if_pos (show 0 ≤ 1 ∧ 1 ≤ 0 + most by omega)]
  have r1 : nrl 1 (((mcd F N th (1 - 0) th 0 0).map (fun e => (4 * e.1 + ((1 : Nat) : Int), e.2))).foldl mup none) ((mcd F N th 1 th 0 0).foldl mup none) := nrl_f (s := 1) (by decide) (by decide) _ none none (Or.inl ⟨rfl, rfl⟩)
  have r2 := nrl_f (s := 2) (by decide) (by decide) (mcd F N th (2 - 0) th 0 0) _ _ (nrl_up r1)
  have r3 := nrl_f (s := 3) (by decide) (by decide) (mcd F N th (3 - 0) th 0 0) _ _ (nrl_up r2)
  rw [mup_f] at r2
  rw [mup_f] at r3
  rw [mup_f ((mcd F N th (2 - 0) th 0 0).map _)] at r3
  have hm : most = 1 ∨ most = 2 ∨ most = 3 := by omega
  rcases hm with rfl | rfl | rfl
  · rw [if_neg (by decide), if_neg (by decide)]
    exact nrl_up (nrl_up r1)
  · rw [if_pos (by decide), if_neg (by decide)]
    exact nrl_up r2
  · rw [if_pos (by decide), if_pos (by decide), ← mcb_a]
    exact r3
theorem mup_s1 : ∀ (L : List (Int × Int)) (b : Int × Int), ∃ e, L.foldl mup (some b) = some e
  | [], b => ⟨b, rfl⟩
  | a :: L, b => by
    rw [List.foldl_cons, mup_i]
    split
    · exact mup_s1 L a
    · exact mup_s1 L b
theorem nrows_s {F : Nat → Int → Int} {N : Nat} {th : Int} : ∀ (n s : Nat) (b : Int × Int), ∃ e, nrows F N th n s (some b) = some e
  | 0, _, b => ⟨b, rfl⟩
  | n + 1, s, b => by
    obtain ⟨e, he⟩ := mup_s1 (mcd F N th s th 0 0) b
    have h : nrows F N th (n + 1) s (some b) = nrows F N th n (s + 1) ((mcd F N th s th 0 0).foldl mup (some b)) := rfl
    rw [h, he]
    exact nrows_s n (s + 1) e
theorem nrows_1 {F : Nat → Int → Int} {N : Nat} {th : Int} (hN : 0 < N) {n : Nat} (hn : 0 < n) : ∃ e, nrows F N th n 1 none = some e := by
  obtain ⟨N, rfl⟩ : ∃ M, N = M + 1 := ⟨N - 1, by omega⟩
  obtain ⟨n, rfl⟩ : ∃ M, n = M + 1 := ⟨n - 1, by omega⟩
  have h : nrows F (N + 1) th (n + 1) 1 none = nrows F (N + 1) th n 2 ((mcd F (N + 1) th 1 th 0 0).foldl mup none) := rfl
  have e : mcd F (N + 1) th 1 th 0 0 = (mbc (zxor th (F 0 th)), mdg10 0 0) :: (List.range' 1 N).flatMap (fun p : Nat => if zand 0 (zshl 1 (p : Int)) = 0 then mcd F (N + 1) th 0 (F p th) (mdg10 0 p) (zor 0 (zshl 1 (p : Int))) else []) := by
    have e1 : mcd F (N + 1) th 1 th 0 0 = (List.range' 0 (N + 1)).flatMap (fun p : Nat => if zand 0 (zshl 1 (p : Int)) = 0 then mcd F (N + 1) th 0 (F p th) (mdg10 0 p) (zor 0 (zshl 1 (p : Int))) else []) := rfl
    have er : List.range' 0 (N + 1) = 0 :: List.range' 1 N := rfl
    rw [e1, er, List.flatMap_cons, if_pos (by decide)]
    rfl
  rw [h, e, List.foldl_cons]
  obtain ⟨b, hb⟩ := mup_s1 ((List.range' 1 N).flatMap (fun p : Nat => if zand 0 (zshl 1 (p : Int)) = 0 then mcd F (N + 1) th 0 (F p th) (mdg10 0 p) (zor 0 (zshl 1 (p : Int))) else [])) (mbc (zxor th (F 0 th)), mdg10 0 0)
  have hb2 : mup none (mbc (zxor th (F 0 th)), mdg10 0 0) = some (mbc (zxor th (F 0 th)), mdg10 0 0) := rfl
  rw [hb2, hb]
  exact nrows_s n 2 b
theorem nuse {tk : Int} {p : Nat} (ht : 0 ≤ tk ∧ tk < 32) (hp : p < 5) : zand (zshr tk (p : Int)) 1 = 0 ↔ zand tk (zshl 1 (p : Int)) = 0 := by
  have hh : p = 0 ∨ p = 1 ∨ p = 2 ∨ p = 3 ∨ p = 4 := by omega
  rcases hh with rfl | rfl | rfl | rfl | rfl
  · exact m_fin (P := fun x => zand (zshr x 0) 1 = 0 ↔ zand x (zshl 1 0) = 0) 32 (by decide +kernel) ht.1 (by omega)
  · exact m_fin (P := fun x => zand (zshr x 1) 1 = 0 ↔ zand x (zshl 1 1) = 0) 32 (by decide +kernel) ht.1 (by omega)
  · exact m_fin (P := fun x => zand (zshr x 2) 1 = 0 ↔ zand x (zshl 1 2) = 0) 32 (by decide +kernel) ht.1 (by omega)
  · exact m_fin (P := fun x => zand (zshr x 3) 1 = 0 ↔ zand x (zshl 1 3) = 0) 32 (by decide +kernel) ht.1 (by omega)
  · exact m_fin (P := fun x => zand (zshr x 4) 1 = 0 ↔ zand x (zshl 1 4) = 0) 32 (by decide +kernel) ht.1 (by omega)
/-- the reference's best so far -/
def nst (J : zI) : Option (Int × Int) → Prop
  | none => J 67 32 = 100
  | some b => ∃ f s : Int, (0 ≤ f ∧ f ≤ 10) ∧ (1 ≤ s ∧ s ≤ 3) ∧ b.1 = 4 * f + s ∧ J 67 31 = b.2 ∧ J 67 32 = f ∧ J 67 33 = s
theorem nst_e {J J1 : zI} (h1 : J1 67 31 = J 67 31) (h2 : J1 67 32 = J 67 32) (h3 : J1 67 33 = J 67 33) {o : Option (Int × Int)} (h : nst J o) : nst J1 o := by
  cases o with
  | none => unfold nst at h ⊢; rw [h2]; exact h
  | some b => unfold nst at h ⊢; rw [h1, h2, h3]; exact h
section
variable {c : Nat × Nat × Nat} {I : zI} {g : Nat}
set_option maxHeartbeats 1000000 in
theorem r179 (hW : nW I) {th : Int} (hth : mR th) {most : Nat} (h3 : most ≤ 3) : ∀ (m s e : Nat) (x dg tk : Int) (J : zI) (o : Option (Int × Int)) (Q : zQ), s + m = most → 54 + m ≤ e → mR x → (0 ≤ tk ∧ tk < 32) → nG I J → nst J o → (∀ J1, nG I J1 → nst J1 ((nrw (nOne I) (I 67 9).toNat th m s x dg tk).foldl mup o) → Q none (c, J1, zRg g)) → zcl e 179 0 0 [zr 67, zi th, zi x, zi (s : Nat), zi (most : Nat), zi tk, zi dg] (c, J, zRg g) Q := by
  have h9 := hW.n9
  intro m
  induction m with
  | zero =>
    intro s e x dg tk J o Q hs he hx htk hG ho H
    obtain ⟨d, rfl⟩ : ∃ d, e = d + 1 := ⟨e - 1, by omega⟩
    refine zen rfl rfl (fun B Q1 hQ => g_x12_rowsFrom_0 (r170 (by omega) hth hx (g_x12_rowsFrom_5 ?_)))
    have hb := mbc_r (zxor th x)
    have H : ∀ J1, nG I J1 → nst J1 ((if s = 0 then [] else [(4 * mbc (zxor th x) + (s : Int), dg)]).foldl mup o) → Q1 none (c, J1, zRg g) := fun J1 h1 h2 => hQ _ _ _ (H J1 h1 h2)
    generalize mbc (zxor th x) = v at H hb ⊢
    have out : ∀ J1, nG I J1 → nst J1 ((if s = 0 then [] else [(4 * v + (s : Int), dg)]).foldl mup o) → zRn (zcl d) 179 B Q1 57 [some (zr 67), some (zi th), some (zi x), some (zi (s : Nat)), some (zi (most : Nat)), some (zi tk), some (zi dg), some (zi v), some (zi 0)] [] (c, J1, zRg g) := by
      intro J1 h1 h2
      exact g_x12_rowsFrom_57 ⟨fun _ => H J1 h1 h2, fun _ => ⟨fun _ => H J1 h1 h2, fun q => absurd (by omega) q⟩⟩
    have put : nG I (z2 (z2 (z2 J 67 31 dg) 67 32 v) 67 33 (s : Nat)) := hG.tr ⟨fun y q _ => by rw [z2_r q, z2_r q, z2_r q], fun j q1 q2 q3 _ => by rw [z2_n (Or.inr q3), z2_n (Or.inr q2), z2_n (Or.inr q1)]⟩
    have pst : 1 ≤ s → nst (z2 (z2 (z2 J 67 31 dg) 67 32 v) 67 33 (s : Nat)) (some (4 * v + (s : Int), dg)) := fun q => ⟨v, (s : Int), by omega, by omega, rfl, by rw [z2_n (Or.inr (by decide)), z2_n (Or.inr (by decide)), z2_s], by rw [z2_n (Or.inr (by decide)), z2_s], z2_s⟩
    by_cases h0 : s = 0
    · rw [if_pos h0] at out
      refine ⟨fun _ => out J hG ho, fun q => absurd (by omega) q⟩
    · rw [if_neg h0] at out
      have out : ∀ J1, nG I J1 → nst J1 (mup o (4 * v + (s : Int), dg)) → zRn (zcl d) 179 B Q1 57 [some (zr 67), some (zi th), some (zi x), some (zi (s : Nat)), some (zi (most : Nat)), some (zi tk), some (zi dg), some (zi v), some (zi 0)] [] (c, J1, zRg g) := out
      refine ⟨fun q => absurd q (by omega), fun _ => ?_⟩
      cases o with
      | none =>
        have ho : J 67 32 = 100 := ho
        rw [ho]
        exact ⟨fun _ => out _ put (pst (by omega)), fun q => absurd (by omega) q⟩
      | some b =>
        obtain ⟨f, sz, f1, f2, f3, f4, f5, f6⟩ := ho
        rw [mup_i] at out
        simp only at out
        have old : ¬ (4 * v + (s : Int) < b.1) → zRn (zcl d) 179 B Q1 57 [some (zr 67), some (zi th), some (zi x), some (zi (s : Nat)), some (zi (most : Nat)), some (zi tk), some (zi dg), some (zi v), some (zi 0)] [] (c, J, zRg g) := fun q => by
          rw [if_neg q] at out
          exact out J hG ⟨f, sz, f1, f2, f3, f4, f5, f6⟩
        have new : (4 * v + (s : Int) < b.1) → zRn (zcl d) 179 B Q1 57 [some (zr 67), some (zi th), some (zi x), some (zi (s : Nat)), some (zi (most : Nat)), some (zi tk), some (zi dg), some (zi v), some (zi 0)] [] (c, z2 (z2 (z2 J 67 31 dg) 67 32 v) 67 33 (s : Nat), zRg g) := fun q => by
          rw [if_pos q] at out
          exact out _ put (pst (by omega))
        rw [f5, f6]
        exact ⟨fun q => new (by omega), fun q => ⟨fun q1 => old (by omega), fun q1 => ⟨fun q2 => old (by omega), fun q2 => new (by omega)⟩⟩⟩
  | succ m ihm =>
    intro s e x dg tk J o Q hs he hx htk hG ho H
    obtain ⟨d, rfl⟩ : ∃ d, e = d + 1 := ⟨e - 1, by omega⟩
    refine zen rfl rfl (fun B Q1 hQ => g_x12_rowsFrom_0 (r170 (by omega) hth hx (g_x12_rowsFrom_5 ?_)))
    have hb := mbc_r (zxor th x)
    have H : ∀ J1, nG I J1 → nst J1 (((if s = 0 then [] else [(4 * mbc (zxor th x) + (s : Int), dg)]) ++ (List.range' 0 (I 67 9).toNat).flatMap (fun p : Nat => if zand tk (zshl 1 (p : Int)) = 0 then nrw (nOne I) (I 67 9).toNat th m (s + 1) (nOne I p x) (mdg10 dg p) (zor tk (zshl 1 (p : Int))) else [])).foldl mup o) → Q1 none (c, J1, zRg g) := fun J1 h1 h2 => hQ _ _ _ (H J1 h1 h2)
    rw [List.foldl_append] at H
    generalize mbc (zxor th x) = v at H hb ⊢
    have loop : ∀ (n i : Nat) (J : zI) (o : Option (Int × Int)), ((i + n : Nat) : Int) = I 67 9 → nG I J → nst J o → (∀ J1, nG I J1 → nst J1 (((List.range' i n).flatMap (fun p : Nat => if zand tk (zshl 1 (p : Int)) = 0 then nrw (nOne I) (I 67 9).toNat th m (s + 1) (nOne I p x) (mdg10 dg p) (zor tk (zshl 1 (p : Int))) else [])).foldl mup o) → Q1 none (c, J1, zRg g)) → zRn (zcl d) 179 B Q1 57 [some (zr 67), some (zi th), some (zi x), some (zi (s : Nat)), some (zi (most : Nat)), some (zi tk), some (zi dg), some (zi v), some (zi (i : Nat))] [] (c, J, zRg g) := by
      intro n
      induction n with
      | zero =>
        intro i J o hi hG ho H
        have e9 : J 67 9 = I 67 9 := hG.2 9 (by decide) (by decide) (by decide) (by decide)
        exact g_x12_rowsFrom_57 ⟨fun _ => H J hG ho, fun q => absurd (by rw [e9]; omega) q⟩
      | succ n ih =>
        intro i J o hi hG ho H
        have e9 : J 67 9 = I 67 9 := hG.2 9 (by decide) (by decide) (by decide) (by decide)
        have hi5 : i < 5 := by omega
        have hp : (i : Int) < I 67 9 := by omega
        have er : List.range' i (n + 1) = i :: List.range' (i + 1) n := rfl
        rw [er, List.flatMap_cons, List.foldl_append] at H
        have hu := nuse htk hi5
        refine g_x12_rowsFrom_57 ⟨fun q => absurd q (by rw [e9]; omega), fun _ => ⟨fun q => absurd q (by omega), fun _ => ⟨fun q => ?_, fun q => ?_⟩⟩⟩
        · rw [if_neg (fun z => q (hu.mpr z))] at H
          refine g_x12_rowsFrom_116 ?_
          rw [z1p i (by omega)]
          exact ih (i + 1) J o (by omega) hG ho H
        · rw [if_pos (hu.mp (Decidable.not_not.mp q))] at H
          refine r_one (by omega) hW hG hp hx (fun J1 h1 _ g31 g32 g33 => g_x12_rowsFrom_91 ?_)
          have edg : zwr (zwr (zwr (10 * dg) + (i : Int)) + 1) = mdg10 dg i := by unfold mdg10; rw [Int.mul_comm]
          rw [edg]
          clear edg
          rw [z1p s (by omega)]
          refine ihm (s + 1) d (nOne I i x) (mdg10 dg i) _ J1 o _ (by omega) (by omega) (nOne_R hW hp hx) (m_or5 htk (m_shl5 hi5)) h1 (nst_e g31 g32 g33 ho) (fun J2 h2 h3 => g_x12_rowsFrom_116 ?_)
          rw [z1p i (by omega)]
          exact ih (i + 1) J2 _ (by omega) h2 h3 H
    have out : ∀ J1, nG I J1 → nst J1 ((if s = 0 then [] else [(4 * v + (s : Int), dg)]).foldl mup o) → zRn (zcl d) 179 B Q1 57 [some (zr 67), some (zi th), some (zi x), some (zi (s : Nat)), some (zi (most : Nat)), some (zi tk), some (zi dg), some (zi v), some (zi 0)] [] (c, J1, zRg g) := fun J1 h1 h2 => loop (I 67 9).toNat 0 J1 _ (by omega) h1 h2 H
    have put : nG I (z2 (z2 (z2 J 67 31 dg) 67 32 v) 67 33 (s : Nat)) := hG.tr ⟨fun y q _ => by rw [z2_r q, z2_r q, z2_r q], fun j q1 q2 q3 _ => by rw [z2_n (Or.inr q3), z2_n (Or.inr q2), z2_n (Or.inr q1)]⟩
    have pst : 1 ≤ s → nst (z2 (z2 (z2 J 67 31 dg) 67 32 v) 67 33 (s : Nat)) (some (4 * v + (s : Int), dg)) := fun q => ⟨v, (s : Int), by omega, by omega, rfl, by rw [z2_n (Or.inr (by decide)), z2_n (Or.inr (by decide)), z2_s], by rw [z2_n (Or.inr (by decide)), z2_s], z2_s⟩
    clear H loop
    by_cases h0 : s = 0
    · rw [if_pos h0] at out
      refine ⟨fun _ => out J hG ho, fun q => absurd (by omega) q⟩
    · rw [if_neg h0] at out
      have out : ∀ J1, nG I J1 → nst J1 (mup o (4 * v + (s : Int), dg)) → zRn (zcl d) 179 B Q1 57 [some (zr 67), some (zi th), some (zi x), some (zi (s : Nat)), some (zi (most : Nat)), some (zi tk), some (zi dg), some (zi v), some (zi 0)] [] (c, J1, zRg g) := out
      refine ⟨fun q => absurd q (by omega), fun _ => ?_⟩
      cases o with
      | none =>
        have ho : J 67 32 = 100 := ho
        rw [ho]
        exact ⟨fun _ => out _ put (pst (by omega)), fun q => absurd (by omega) q⟩
      | some b =>
        obtain ⟨f, sz, f1, f2, f3, f4, f5, f6⟩ := ho
        rw [mup_i] at out
        simp only at out
        have old : ¬ (4 * v + (s : Int) < b.1) → zRn (zcl d) 179 B Q1 57 [some (zr 67), some (zi th), some (zi x), some (zi (s : Nat)), some (zi (most : Nat)), some (zi tk), some (zi dg), some (zi v), some (zi 0)] [] (c, J, zRg g) := fun q => by
          rw [if_neg q] at out
          exact out J hG ⟨f, sz, f1, f2, f3, f4, f5, f6⟩
        have new : (4 * v + (s : Int) < b.1) → zRn (zcl d) 179 B Q1 57 [some (zr 67), some (zi th), some (zi x), some (zi (s : Nat)), some (zi (most : Nat)), some (zi tk), some (zi dg), some (zi v), some (zi 0)] [] (c, z2 (z2 (z2 J 67 31 dg) 67 32 v) 67 33 (s : Nat), zRg g) := fun q => by
          rw [if_pos q] at out
          exact out _ put (pst (by omega))
        rw [f5, f6]
        exact ⟨fun q => new (by omega), fun q => ⟨fun q1 => old (by omega), fun q1 => ⟨fun q2 => old (by omega), fun q2 => new (by omega)⟩⟩⟩
theorem y_row {e : Nat} (he : 60 ≤ e) {x1 x2 x3 : Int} {Q : zQ} (hW : nW I) (Hb : ¬ (mR x1 ∧ (1 ≤ x2 ∧ x2 ≤ 3) ∧ 0 ≤ x3 ∧ x3 ≤ 1) → Q (some (zi (-2))) (c, I, zRg g)) (H : mR x1 → 1 ≤ x2 → x2 ≤ 3 → 0 ≤ x3 → x3 ≤ 1 → ∀ J, nG I J → Q (some (zi (mrowv (nrows (nOne I) (I 67 9).toNat x1 x2.toNat 1 none) x3))) (c, J, zRg g)) : zcl e 180 0 0 [zr 67, zi x1, zi x2, zi x3] (c, I, zRg g) Q := by
  obtain ⟨d, rfl⟩ : ∃ d, e = d + 1 := ⟨e - 1, by omega⟩
  have h9 := hW.n9
  refine zen rfl rfl (fun B Q1 hQ => g_x12_row_0 (r130 (by omega) (g_x12_row_9 ⟨fun u => hQ _ _ _ (Hb (fun q => mbo_0.mp u (by omega))), fun u => r130 (by omega) (g_x12_row_21 ⟨fun v => hQ _ _ _ (Hb (fun q => mbo_0.mp v q.2.1)), fun v => r130 (by omega) (g_x12_row_31 ⟨fun w => ?_, fun w => hQ _ _ _ (Hb (fun q => mbo_0.mp (Decidable.not_not.mp w) q.2.2))⟩)⟩)⟩)))
  have u := mbo_n0.mp u
  have v := mbo_n0.mp v
  have w := mbo_n0.mp w
  have hx : mR x1 := by omega
  have H2 := fun J h => hQ _ _ _ (H hx v.1 v.2 w.1 w.2 J h)
  clear H Hb
  refine ⟨fun z => ?_, fun z => ?_⟩
  · have ex2 : x2 = ((x2.toNat : Nat) : Int) := by omega
    obtain ⟨b, hb⟩ := nrows_1 (F := nOne I) (N := (I 67 9).toNat) (th := x1) (by omega) (n := x2.toNat) (by omega)
    have hrel := nrw_rel (F := nOne I) (N := (I 67 9).toNat) (th := x1) (most := x2.toNat) (by omega) (by omega)
    rw [hb] at H2 hrel
    have h3 : x2.toNat ≤ 3 := by omega
    rw [ex2]
    generalize x2.toNat = most at *
    refine r179 hW hx h3 most 0 d x1 0 0 (z2 I 67 32 100) none _ (by omega) (by omega) hx (by decide) ⟨fun y q _ => z2_r q, fun j _ q _ _ => z2_n (Or.inr q)⟩ z2_s (fun J h1 h2 => g_x12_row_62 ?_)
    have H := H2 J h1
    rcases hrel with ⟨-, q⟩ | ⟨b0, dg, sb, s1, s2, s3, s4⟩
    · cases q
    · rw [s3] at h2
      cases s4
      obtain ⟨f, sz, f1, f2, f3, f4, f5, f6⟩ := h2
      have f3 : 4 * b0 + sb = 4 * f + sz := f3
      have f4 : J 67 31 = dg := f4
      have ef : f = b0 := by omega
      unfold mrowv at H
      simp only at H
      refine ⟨fun a => ?_, fun a => ?_⟩
      · rw [if_neg a] at H
        rw [f5, ef]; exact H
      · rw [if_pos (Decidable.not_not.mp a)] at H
        rw [f4]; exact H
  · have z := Decidable.not_not.mp z
    have e0 : (I 67 9).toNat = 0 := by omega
    rw [e0] at H2
    have en : ∀ (n s : Nat), 1 ≤ s → nrows (nOne I) 0 x1 n s none = none := by
      intro n
      induction n with
      | zero => exact fun s _ => rfl
      | succ n ih =>
        intro s hs
        obtain ⟨s, rfl⟩ : ∃ k, s = k + 1 := ⟨s - 1, by omega⟩
        exact ih (s + 1 + 1) (by omega)
    rw [en x2.toNat 1 (by decide)] at H2
    exact H2 I (nG.rf I)
end
end
