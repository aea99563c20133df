/-! tokens and texts, as they are read -/
def msc (p : Int → Bool) (b : Nat → Int) : Nat → Nat → Nat
  | 0, i => i
  | n + 1, i => match p (b i) with
    | true => msc p b n (i + 1)
    | false => i
theorem msc_le (p : Int → Bool) (b : Nat → Int) : ∀ n i, i ≤ msc p b n i ∧ msc p b n i ≤ i + n
  | 0, i => ⟨Nat.le_refl _, Nat.le_refl _⟩
  | n + 1, i => by
    unfold msc
    split
    · have := msc_le p b n (i + 1)
      omega
    · omega
theorem msc_at (p : Int → Bool) (b : Nat → Int) : ∀ n i, msc p b n i < i + n → p (b (msc p b n i)) = false
  | 0, i, h => absurd h (Nat.lt_irrefl _)
  | n + 1, i, h => by
    unfold msc at h ⊢
    split
    · rename_i q
      rw [q] at h
      exact msc_at p b n (i + 1) (by simp only at h; omega)
    · assumption
theorem msc_in (p : Int → Bool) (b : Nat → Int) : ∀ n i j, i ≤ j → j < msc p b n i → p (b j) = true
  | 0, i, j, h, h1 => absurd h1 (by unfold msc; omega)
  | n + 1, i, j, h, h1 => by
    unfold msc at h1
    split at h1
    · rename_i q
      by_cases e : i = j
      · rw [← e]; exact q
      · exact msc_in p b n (i + 1) j (by omega) h1
    · omega
theorem msc_un {p : Int → Bool} {b : Nat → Int} {n i : Nat} (h : p (b i) = true) (hi : i < n) : msc p b (n - i) i = msc p b (n - (i + 1)) (i + 1) := by
  rw [show n - i = (n - (i + 1)) + 1 by omega]
  conv => lhs; unfold msc
  rw [h]
theorem msc_st {p : Int → Bool} {b : Nat → Int} {n i : Nat} (h : p (b i) = false) : msc p b n i = i := by
  cases n with
  | zero => rfl
  | succ n => unfold msc; rw [h]
theorem msc_congr {p : Int → Bool} {b b1 : Nat → Int} : ∀ n i, (∀ j, i ≤ j → j < i + n → b j = b1 j) → msc p b n i = msc p b1 n i
  | 0, _, _ => rfl
  | n + 1, i, h => by
    unfold msc
    rw [h i (Nat.le_refl _) (by omega), msc_congr n (i + 1) (fun j h1 h2 => h j (by omega) (by omega))]
def mbl (c : Int) : Bool := decide (c = 32 ∨ c = 10)
def mlt (c : Int) : Bool := decide (97 ≤ c ∧ c ≤ 122)
def mdg (c : Int) : Bool := decide (48 ≤ c ∧ c ≤ 57)
def msg (c : Int) : Bool := decide (c = 40 ∨ c = 41 ∨ c = 59 ∨ c = 43 ∨ c = 45 ∨ c = 42 ∨ c = 60 ∨ c = 61)
def mwl (b : Nat → Int) (i e : Nat) : List Int := (List.range (e - i)).map (fun j => b (i + j))
/-- a word: what it is, its code -/
def mwd (l : List Int) : Int × Int :=
  if l = [119, 111, 114, 100, 115] then (-4, -1) else if l = [109, 101, 109, 111, 114, 121] then (-4, -2) else if l = [110, 117, 109, 98, 101, 114] then (-4, -3) else
  if l = [100, 97, 121] then (-4, -4) else if l = [112, 97, 114, 116, 115] then (-4, -5) else if l = [115, 97, 105, 100] then (-4, -6) else
  if l = [107, 101, 101, 112, 115] then (-5, 0) else if l = [116, 105, 114, 101, 115] then (-6, 0) else if l = [108, 101, 97, 114, 110, 115] then (-7, 0) else
  if l = [111, 114] then (-8, 0) else if l = [97, 110, 100] then (-9, 0) else if l = [110, 111, 116] then (-10, 0) else (-2, 0)
def mnu (b : Nat → Int) : Nat → Nat → Int → Int
  | 0, _, v => v
  | n + 1, i, v => mnu b n (i + 1) (10 * v + b i - 48)
/-- the token at i, where no blank is: what it is, its code or value, its place, where what is behind it begins -/
def mto (b : Nat → Int) (n i : Nat) : Int × Int × Nat × Nat :=
  if n ≤ i then (-1, 0, n, n)
  else if mlt (b i) = true then ((mwd (mwl b i (msc mlt b (n - i) i))).1, (mwd (mwl b i (msc mlt b (n - i) i))).2, i, msc mlt b (n - i) i)
  else if mdg (b i) = true then (if msc mdg b (n - i) i - i ≤ 4 then (-3, mnu b (msc mdg b (n - i) i - i) i 0, i, msc mdg b (n - i) i) else (-2, 0, i, msc mdg b (n - i) i))
  else if msg (b i) = true then (b i, 0, i, i + 1) else (-2, 0, i, i + 1)
def mlx (b : Nat → Int) (n h : Nat) : Int × Int × Nat × Nat := mto b n (msc mbl b (n - h) h)
/-- where token k is looked for -/
def mhh (b : Nat → Int) (n : Nat) : Nat → Nat
  | 0 => 0
  | k + 1 => (mlx b n (mhh b n k)).2.2.2
def mkd (b : Nat → Int) (n k : Nat) : Int := (mlx b n (mhh b n k)).1
def mvl (b : Nat → Int) (n k : Nat) : Int := (mlx b n (mhh b n k)).2.1
def mpl (b : Nat → Int) (n k : Nat) : Nat := (mlx b n (mhh b n k)).2.2.1
theorem mlx_bl {b : Nat → Int} {n h : Nat} (hb : mbl (b h) = true) (hh : h < n) : mlx b n h = mlx b n (h + 1) := by
  unfold mlx
  rw [msc_un hb hh]
theorem mite_ne {p : Prop} [Decidable p] {a b : Int × Int} (ha : a.1 ≠ -1) (hb : b.1 ≠ -1) : (if p then a else b).1 ≠ -1 := by
  by_cases h : p
  · rw [if_pos h]; exact ha
  · rw [if_neg h]; exact hb
theorem mwd_ne (l : List Int) : (mwd l).1 ≠ -1 :=
  mite_ne (by decide) (mite_ne (by decide) (mite_ne (by decide) (mite_ne (by decide) (mite_ne (by decide) (mite_ne (by decide) (mite_ne (by decide) (mite_ne (by decide) (mite_ne (by decide) (mite_ne (by decide) (mite_ne (by decide) (mite_ne (by decide) (by decide))))))))))))
theorem mto_lt {b : Nat → Int} {n i : Nat} (hi : i < n) : (mto b n i).1 ≠ -1 ∧ i < (mto b n i).2.2.2 ∧ (mto b n i).2.2.2 ≤ n ∧ (mto b n i).2.2.1 = i := by
  unfold mto
  rw [if_neg (by omega)]
  by_cases h1 : mlt (b i) = true
  · rw [if_pos h1]
    have q := msc_le mlt b (n - i) i
    have := msc_un h1 hi
    have q2 := msc_le mlt b (n - (i + 1)) (i + 1)
    refine ⟨mwd_ne _, ?_, ?_, rfl⟩ <;> simp only <;> omega
  · rw [if_neg h1]
    by_cases h2 : mdg (b i) = true
    · rw [if_pos h2]
      have q := msc_le mdg b (n - i) i
      have := msc_un h2 hi
      have q2 := msc_le mdg b (n - (i + 1)) (i + 1)
      split
      · refine ⟨fun q : (-3 : Int) = -1 => absurd q (by decide), ?_, ?_, rfl⟩ <;> simp only <;> omega
      · refine ⟨fun q : (-2 : Int) = -1 => absurd q (by decide), ?_, ?_, rfl⟩ <;> simp only <;> omega
    · rw [if_neg h2]
      split
      · rename_i h3
        refine ⟨fun e => ?_, ?_, ?_, rfl⟩
        · simp only at e
          rw [e] at h3
          exact absurd h3 (by decide)
        · simp only; omega
        · simp only; omega
      · refine ⟨fun q : (-2 : Int) = -1 => absurd q (by decide), ?_, ?_, rfl⟩ <;> simp only <;> omega
theorem mto_ge {b : Nat → Int} {n i : Nat} (hi : n ≤ i) : mto b n i = (-1, 0, n, n) := by
  unfold mto
  rw [if_pos hi]
theorem mlx_n {b : Nat → Int} {n h : Nat} (hh : n ≤ h) : mlx b n h = (-1, 0, n, n) := by
  unfold mlx
  exact mto_ge (by have := msc_le mbl b (n - h) h; omega)
theorem mlx_lt {b : Nat → Int} {n h : Nat} (hh : h ≤ n) (q : (mlx b n h).1 ≠ -1) : h < (mlx b n h).2.2.2 ∧ (mlx b n h).2.2.2 ≤ n ∧ h ≤ (mlx b n h).2.2.1 ∧ (mlx b n h).2.2.1 < n := by
  unfold mlx at q ⊢
  have q1 := msc_le mbl b (n - h) h
  by_cases h1 : msc mbl b (n - h) h < n
  · have := mto_lt (b := b) h1
    omega
  · exact absurd (by rw [mto_ge (by omega)]) q
theorem mlx_nx {b : Nat → Int} {n h : Nat} : (mlx b n h).2.2.2 ≤ n ∧ (mlx b n h).2.2.1 ≤ n := by
  unfold mlx
  by_cases h1 : msc mbl b (n - h) h < n
  · have := mto_lt (b := b) h1
    omega
  · rw [mto_ge (by omega)]
    exact ⟨Nat.le_refl _, Nat.le_refl _⟩
theorem mlx_end {b : Nat → Int} {n h : Nat} (q : (mlx b n h).1 = -1) : mlx b n h = (-1, 0, n, n) := by
  unfold mlx at q ⊢
  by_cases h1 : msc mbl b (n - h) h < n
  · exact absurd q (mto_lt h1).1
  · exact mto_ge (by omega)
theorem mhh_le {b : Nat → Int} {n : Nat} : ∀ k, mhh b n k ≤ n
  | 0 => Nat.zero_le _
  | k + 1 => mlx_nx.1
theorem mkd_st {b : Nat → Int} {n k : Nat} (h : mkd b n k = -1) : mkd b n (k + 1) = -1 := by
  unfold mkd at h ⊢
  have e : mhh b n (k + 1) = n := by
    show (mlx b n (mhh b n k)).2.2.2 = n
    rw [mlx_end h]
  rw [e, mlx_n (Nat.le_refl _)]
theorem mkd_dn {b : Nat → Int} {n : Nat} : ∀ {k j : Nat}, mkd b n k ≠ -1 → j ≤ k → mkd b n j ≠ -1
  | 0, j, h, hj => by obtain rfl : j = 0 := by omega
                      exact h
  | k + 1, j, h, hj => by
    by_cases e : j = k + 1
    · rw [e]; exact h
    · exact mkd_dn (k := k) (fun q => h (mkd_st q)) (by omega)
theorem mhh_k {b : Nat → Int} {n : Nat} : ∀ {k : Nat}, mkd b n k ≠ -1 → k ≤ mhh b n k ∧ mhh b n k < n
  | 0, h => ⟨Nat.zero_le _, by
      have := mlx_lt (b := b) (n := n) (h := mhh b n 0) (Nat.zero_le _) h
      omega⟩
  | k + 1, h => by
    have h1 := mkd_dn (j := k) h (by omega)
    have h2 := mhh_k (k := k) h1
    have h3 := mlx_lt (b := b) (n := n) (h := mhh b n k) (by omega) h1
    have h4 := mlx_lt (b := b) (n := n) (h := mhh b n (k + 1)) (mhh_le _) h
    have e : mhh b n (k + 1) = (mlx b n (mhh b n k)).2.2.2 := rfl
    omega
-- texts: what is read from token k on, codes that stand already; whether it goes, where it ends or fails, all codes then
abbrev mP : Type := Bool × Nat × List Int
abbrev mF : Type := Nat → List Int → mP
def mbind (r : mP) (f : mF) : mP := match r with
  | (true, k, cs) => f k cs
  | (false, k, cs) => (false, k, cs)
def mloop (kd : Nat → Int) (op : Int → Option Int) (sub : mF) : Nat → mF
  | 0 => fun k cs => (true, k, cs)
  | n + 1 => fun k cs => match op (kd k) with
    | none => (true, k, cs)
    | some c => mbind (sub (k + 1) cs) (fun k1 c1 => mloop kd op sub n k1 (c1 ++ [c]))
def mop1 (a c t : Int) : Option Int := if t = a then some c else none
def mop2 (t : Int) : Option Int := if t = 43 then some (-25) else if t = 45 then some (-26) else none
def mterm (kd : Nat → Int) (one : mF) : mF := fun k cs => mbind (one k cs) (mloop kd (mop1 42 (-27)) one 160)
def msum (kd : Nat → Int) (one : mF) : mF := fun k cs => mbind (mterm kd one k cs) (mloop kd mop2 (mterm kd one) 160)
def mcmp (kd : Nat → Int) (one : mF) : mF := fun k cs => mbind (msum kd one k cs) (fun k1 c1 => if kd k1 = 60 ∨ kd k1 = 61 then mbind (msum kd one (k1 + 1) c1) (fun k2 c2 => (true, k2, c2 ++ [if kd k1 = 60 then -23 else -24])) else (true, k1, c1))
def mnot (kd : Nat → Int) (one nt : mF) : mF := fun k cs => if kd k = -10 then mbind (nt (k + 1) cs) (fun k1 c1 => (true, k1, c1 ++ [-11])) else mcmp kd one k cs
def mands (kd : Nat → Int) (nt : mF) : mF := fun k cs => mbind (nt k cs) (mloop kd (mop1 (-9) (-22)) nt 160)
def mors (kd : Nat → Int) (nt : mF) : mF := fun k cs => mbind (mands kd nt k cs) (mloop kd (mop1 (-8) (-21)) (mands kd nt) 160)
def mone (kd vl : Nat → Int) (one nt : mF) : mF := fun k cs =>
  if kd k = -3 ∨ kd k = -4 then (true, k + 1, cs ++ [vl k])
  else if kd k = 45 then mbind (one (k + 1) cs) (fun k1 c1 => (true, k1, c1 ++ [-12]))
  else if kd k = 40 then mbind (mors kd nt (k + 1) cs) (fun k1 c1 => if kd k1 = 41 then (true, k1 + 1, c1) else (false, k1, c1))
  else (false, k, cs)
/-- by how many may be begun still, 1 more: ONE, NOT -/
def mlev (kd vl : Nat → Int) : Nat → mF × mF
  | 0 => (fun k cs => (false, k - 1, cs), fun k cs => (false, k - 1, cs))
  | r + 1 => (mone kd vl (mlev kd vl r).1 (mlev kd vl r).2, mnot kd (mone kd vl (mlev kd vl r).1 (mlev kd vl r).2) (mlev kd vl r).2)
def mE (kd vl : Nat → Int) : mF := mors kd (mlev kd vl 6).2
def mpart (kd vl : Nat → Int) (key : Int) (k : Nat) (cs : List Int) : mP := if kd k = key then mbind (mE kd vl (k + 1) cs) (fun k1 c1 => if kd k1 = 59 then (true, k1 + 1, c1) else (false, k1, c1)) else (false, k, cs)
/-- a text: whether it is one, else where the fault is; the codes of its parts -/
def mtext (kd vl : Nat → Int) : Bool × Nat × List Int × List Int × List Int := match mpart kd vl (-5) 0 [] with
  | (false, k, _) => (false, k, [], [], [])
  | (true, k, c0) => match mpart kd vl (-6) k [] with
    | (false, k, _) => (false, k, [], [], [])
    | (true, k, c1) => match mpart kd vl (-7) k [] with
      | (false, k, _) => (false, k, [], [], [])
      | (true, k, c2) => if kd k = -1 then (true, k, c0, c1, c2) else (false, k, [], [], [])
/-- of what is read: one value more; no more codes than tokens; no token behind the last -/
def mgd (kd : Nat → Int) (nm : Int → Int) (f : mF) : Prop := ∀ k cs k1 c1, f k cs = (true, k1, c1) → (∀ s, mrun nm cs = some s → ∃ v, mrun nm c1 = some (v :: s)) ∧ c1.length + k ≤ cs.length + k1 ∧ k < k1 ∧ ∀ j, k ≤ j → j < k1 → kd j ≠ -1
theorem mbind_t {r : mP} {f : mF} {k1 : Nat} {c1 : List Int} (h : mbind r f = (true, k1, c1)) : ∃ k cs, r = (true, k, cs) ∧ f k cs = (true, k1, c1) := by
  rcases r with ⟨b, k, cs⟩
  cases b with
  | true => exact ⟨k, cs, rfl, h⟩
  | false => exact absurd h (by simp [mbind])
def mop (op : Int → Option Int) : Prop := (∀ t c, op t = some c → c < -12) ∧ op (-1) = none
theorem mop_1 {a c : Int} (h : a ≠ -1) (hc : c < -12) : mop (mop1 a c) := by
  refine ⟨fun t c1 q => ?_, by unfold mop1; rw [if_neg (fun e => h e.symm)]⟩
  unfold mop1 at q
  split at q
  · cases q; exact hc
  · cases q
theorem mop_2 : mop mop2 := by
  refine ⟨fun t c1 q => ?_, rfl⟩
  unfold mop2 at q
  split at q
  · cases q; decide
  · split at q
    · cases q; decide
    · cases q
theorem mst_2 {nm : Int → Int} {s : List Int} {a b c : Int} (hc : c < -12) : mst nm (some (b :: a :: s)) c = some (mo2 c a b :: s) := by
  unfold mst
  simp only
  rw [if_neg (by omega), if_neg (by omega)]
theorem mst_1 {nm : Int → Int} {s : List Int} {a c : Int} (hc : c < -6) (h2 : -12 ≤ c) : mst nm (some (a :: s)) c = some (mo1 c a :: s) := by
  unfold mst
  simp only
  rw [if_neg (by omega), if_pos h2]
theorem mst_0 {nm : Int → Int} {s : List Int} {c : Int} (hc : -6 ≤ c) : mst nm (some s) c = some ((if 0 ≤ c then c else nm c) :: s) := by
  unfold mst
  simp only
  rw [if_pos hc]
theorem mgd_loop {kd : Nat → Int} {nm : Int → Int} {op : Int → Option Int} {sub : mF} (ho : mop op) (hs : mgd kd nm sub) : ∀ (n : Nat) (k : Nat) (cs : List Int) (k1 : Nat) (c1 : List Int), mloop kd op sub n k cs = (true, k1, c1) → (∀ v s, mrun nm cs = some (v :: s) → ∃ w, mrun nm c1 = some (w :: s)) ∧ c1.length + k ≤ cs.length + k1 ∧ k ≤ k1 ∧ ∀ j, k ≤ j → j < k1 → kd j ≠ -1
  | 0, k, cs, k1, c1, h => by
    cases h
    exact ⟨fun v s q => ⟨v, q⟩, Nat.le_refl _, Nat.le_refl _, fun j h1 h2 => absurd h2 (by omega)⟩
  | n + 1, k, cs, k1, c1, h => by
    unfold mloop at h
    cases hq : op (kd k) with
    | none =>
      rw [hq] at h
      cases h
      exact ⟨fun v s q => ⟨v, q⟩, Nat.le_refl _, Nat.le_refl _, fun j h1 h2 => absurd h2 (by omega)⟩
    | some c =>
      rw [hq] at h
      obtain ⟨k2, c2, e, h⟩ := mbind_t h
      obtain ⟨a1, a2, a3, a4⟩ := hs _ _ _ _ e
      obtain ⟨b1, b2, b3, b4⟩ := mgd_loop ho hs n _ _ _ _ h
      rw [List.length_append] at b2
      simp only [List.length_cons, List.length_nil] at b2
      refine ⟨fun v s q => ?_, by omega, by omega, fun j h1 h2 => ?_⟩
      · obtain ⟨w, hw⟩ := a1 _ q
        exact b1 (mo2 c v w) s (by rw [mrun_app, hw, mst_2 (ho.1 _ _ hq)])
      · by_cases e1 : j = k
        · rw [e1]; intro e2; rw [e2, ho.2] at hq; cases hq
        · by_cases e2 : j < k2
          · exact a4 j (by omega) e2
          · exact b4 j (by omega) h2
theorem mgd_chain {kd : Nat → Int} {nm : Int → Int} {op : Int → Option Int} {sub : mF} (ho : mop op) (hs : mgd kd nm sub) (n : Nat) : mgd kd nm (fun k cs => mbind (sub k cs) (mloop kd op sub n)) := by
  intro k cs k1 c1 h
  obtain ⟨k2, c2, e, h⟩ := mbind_t h
  obtain ⟨a1, a2, a3, a4⟩ := hs _ _ _ _ e
  obtain ⟨b1, b2, b3, b4⟩ := mgd_loop ho hs n _ _ _ _ h
  refine ⟨fun s q => ?_, by omega, by omega, fun j h1 h2 => ?_⟩
  · obtain ⟨w, hw⟩ := a1 _ q
    exact b1 w s hw
  · by_cases e2 : j < k2
    · exact a4 j (by omega) e2
    · exact b4 j (by omega) h2
theorem mgd_term {kd : Nat → Int} {nm : Int → Int} {one : mF} (h : mgd kd nm one) : mgd kd nm (mterm kd one) := mgd_chain (mop_1 (by decide) (by decide)) h 160
theorem mgd_sum {kd : Nat → Int} {nm : Int → Int} {one : mF} (h : mgd kd nm one) : mgd kd nm (msum kd one) := mgd_chain mop_2 (mgd_term h) 160
theorem mgd_ands {kd : Nat → Int} {nm : Int → Int} {nt : mF} (h : mgd kd nm nt) : mgd kd nm (mands kd nt) := mgd_chain (mop_1 (by decide) (by decide)) h 160
theorem mgd_ors {kd : Nat → Int} {nm : Int → Int} {nt : mF} (h : mgd kd nm nt) : mgd kd nm (mors kd nt) := mgd_chain (mop_1 (by decide) (by decide)) (mgd_ands h) 160
theorem mgd_cmp {kd : Nat → Int} {nm : Int → Int} {one : mF} (h : mgd kd nm one) : mgd kd nm (mcmp kd one) := by
  intro k cs k1 c1 q
  obtain ⟨k2, c2, e, q⟩ := mbind_t q
  obtain ⟨a1, a2, a3, a4⟩ := mgd_sum h _ _ _ _ e
  split at q
  · rename_i hk
    obtain ⟨k3, c3, e3, q⟩ := mbind_t q
    obtain ⟨b1, b2, b3, b4⟩ := mgd_sum h _ _ _ _ e3
    cases q
    rw [List.length_append]
    simp only [List.length_cons, List.length_nil]
    refine ⟨fun s hs => ?_, by omega, by omega, fun j h1 h2 => ?_⟩
    · obtain ⟨v, hv⟩ := a1 s hs
      obtain ⟨w, hw⟩ := b1 _ hv
      exact ⟨_, by rw [mrun_app, hw, mst_2 (by split <;> decide)]⟩
    · by_cases e4 : j < k2
      · exact a4 j h1 e4
      · by_cases e5 : j = k2
        · rw [e5]; omega
        · exact b4 j (by omega) h2
  · cases q
    exact ⟨a1, a2, a3, a4⟩
theorem mgd_not {kd : Nat → Int} {nm : Int → Int} {one nt : mF} (h : mgd kd nm one) (h2 : mgd kd nm nt) : mgd kd nm (mnot kd one nt) := by
  intro k cs k1 c1 q
  unfold mnot at q
  split at q
  · rename_i hk
    obtain ⟨k3, c3, e3, q⟩ := mbind_t q
    obtain ⟨b1, b2, b3, b4⟩ := h2 _ _ _ _ e3
    cases q
    rw [List.length_append]
    simp only [List.length_cons, List.length_nil]
    refine ⟨fun s hs => ?_, by omega, by omega, fun j g1 g2 => ?_⟩
    · obtain ⟨w, hw⟩ := b1 _ hs
      exact ⟨_, by rw [mrun_app, hw, mst_1 (by decide) (by decide)]⟩
    · by_cases e5 : j = k
      · rw [e5]; omega
      · exact b4 j (by omega) g2
  · exact mgd_cmp h _ _ _ _ q
theorem mgd_one {kd vl : Nat → Int} {nm : Int → Int} {one nt : mF} (hv : ∀ k, kd k = -3 ∨ kd k = -4 → -6 ≤ vl k) (h : mgd kd nm one) (h2 : mgd kd nm nt) : mgd kd nm (mone kd vl one nt) := by
  intro k cs k1 c1 q
  unfold mone at q
  split at q
  · rename_i hk
    cases q
    rw [List.length_append]
    simp only [List.length_cons, List.length_nil]
    refine ⟨fun s hs => ⟨_, by rw [mrun_app, hs, mst_0 (hv k hk)]⟩, by omega, by omega, fun j g1 g2 => ?_⟩
    obtain rfl : j = k := by omega
    omega
  · split at q
    · rename_i hk
      obtain ⟨k3, c3, e3, q⟩ := mbind_t q
      obtain ⟨b1, b2, b3, b4⟩ := h _ _ _ _ e3
      cases q
      rw [List.length_append]
      simp only [List.length_cons, List.length_nil]
      refine ⟨fun s hs => ?_, by omega, by omega, fun j g1 g2 => ?_⟩
      · obtain ⟨w, hw⟩ := b1 _ hs
        exact ⟨_, by rw [mrun_app, hw, mst_1 (by decide) (by decide)]⟩
      · by_cases e5 : j = k
        · rw [e5]; omega
        · exact b4 j (by omega) g2
    · split at q
      · rename_i hk
        obtain ⟨k3, c3, e3, q⟩ := mbind_t q
        obtain ⟨b1, b2, b3, b4⟩ := mgd_ors h2 _ _ _ _ e3
        split at q
        · rename_i hk3
          cases q
          refine ⟨b1, by omega, by omega, fun j g1 g2 => ?_⟩
          by_cases e5 : j = k
          · rw [e5]; omega
          · by_cases e6 : j = k3
            · rw [e6]; omega
            · exact b4 j (by omega) (by omega)
        · cases q
      · cases q
theorem mgd_lev {kd vl : Nat → Int} {nm : Int → Int} (hv : ∀ k, kd k = -3 ∨ kd k = -4 → -6 ≤ vl k) : ∀ r, mgd kd nm (mlev kd vl r).1 ∧ mgd kd nm (mlev kd vl r).2
  | 0 => ⟨(fun _ _ _ _ h => by cases h), (fun _ _ _ _ h => by cases h)⟩
  | r + 1 => by
    obtain ⟨h1, h2⟩ := mgd_lev hv r
    exact ⟨mgd_one hv h1 h2, mgd_not (mgd_one hv h1 h2) h2⟩
theorem mgd_E {kd vl : Nat → Int} {nm : Int → Int} (hv : ∀ k, kd k = -3 ∨ kd k = -4 → -6 ≤ vl k) : mgd kd nm (mE kd vl) := mgd_ors (mgd_lev hv 6).2
theorem mgd_part {kd vl : Nat → Int} {nm : Int → Int} (hv : ∀ k, kd k = -3 ∨ kd k = -4 → -6 ≤ vl k) {key : Int} (hk : key ≠ -1) : mgd kd nm (mpart kd vl key) := by
  intro k cs k1 c1 q
  unfold mpart at q
  split at q
  · rename_i h1
    obtain ⟨k3, c3, e3, q⟩ := mbind_t q
    obtain ⟨b1, b2, b3, b4⟩ := mgd_E hv _ _ _ _ e3
    split at q
    · rename_i hk3
      cases q
      refine ⟨b1, by omega, by omega, fun j g1 g2 => ?_⟩
      by_cases e5 : j = k
      · rw [e5]; omega
      · by_cases e6 : j = k3
        · rw [e6]; omega
        · exact b4 j (by omega) (by omega)
    · cases q
  · cases q
theorem mtext_t {kd vl : Nat → Int} {k : Nat} {c0 c1 c2 : List Int} (h : mtext kd vl = (true, k, c0, c1, c2)) : ∃ k0 k1, mpart kd vl (-5) 0 [] = (true, k0, c0) ∧ mpart kd vl (-6) k0 [] = (true, k1, c1) ∧ mpart kd vl (-7) k1 [] = (true, k, c2) ∧ kd k = -1 := by
  unfold mtext at h
  split at h
  · cases h
  · rename_i ka ca ea
    split at h
    · cases h
    · rename_i kb cb eb
      split at h
      · cases h
      · rename_i kc cc ec
        split at h
        · rename_i hk
          cases h
          exact ⟨ka, kb, ea, eb, ec, hk⟩
        · cases h

