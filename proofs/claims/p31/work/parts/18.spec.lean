/-! the words of the proof: bits of small numbers, what one keeps and tells, codes and what they are worth, tokens and texts -/
abbrev zI : Type := Nat → Nat → Int
abbrev mR (x : Int) : Prop := 0 ≤ x ∧ x < 1024
theorem m_bv {x : Int} (h0 : 0 ≤ x) (h1 : x < 2147483648) : (zo x).toBitVec.toNat = x.toNat := by
  have e : (zo x).toBitVec = BitVec.ofInt 32 x := Int32.toBitVec_ofInt x
  have q : ((2 ^ 32 : Nat) : Int) = 4294967296 := rfl
  rw [e, BitVec.toNat_ofInt, q, Int.emod_eq_of_lt h0 (by omega)]
theorem m_ti (b : BitVec 32) (h : b.toNat < 2147483648) : b.toInt = (b.toNat : Int) := BitVec.toInt_eq_toNat_of_lt (by omega)
theorem m_and {x y : Int} (hx : mR x) : zand x y = ((x.toNat &&& (zo y).toBitVec.toNat : Nat) : Int) := by
  have h1 := m_bv hx.1 (by omega)
  have h2 : ((zo x).toBitVec &&& (zo y).toBitVec).toNat = x.toNat &&& (zo y).toBitVec.toNat := by rw [BitVec.toNat_and, h1]
  have e : zand x y = ((zo x).toBitVec &&& (zo y).toBitVec).toInt := rfl
  have h3 : x.toNat &&& (zo y).toBitVec.toNat ≤ x.toNat := Nat.and_le_left
  rw [e, m_ti _ (by omega), h2]
theorem m_andR {x y : Int} (hx : mR x) : mR (zand x y) := by
  rw [m_and hx]
  have h3 : x.toNat &&& (zo y).toBitVec.toNat ≤ x.toNat := Nat.and_le_left
  omega
theorem m_andL {x y : Int} (hx : mR x) : zand x y ≤ x := by
  rw [m_and hx]
  have h3 : x.toNat &&& (zo y).toBitVec.toNat ≤ x.toNat := Nat.and_le_left
  omega
theorem m_andC (x y : Int) : zand x y = zand y x := by unfold zand; rw [Int32.and_comm]
theorem m_andR2 {x y : Int} (hy : mR y) : mR (zand x y) := by rw [m_andC]; exact m_andR hy
theorem m_or {x y : Int} (hx : mR x) (hy : mR y) : zor x y = ((x.toNat ||| y.toNat : Nat) : Int) := by
  have h1 := m_bv hx.1 (by omega)
  have h2 := m_bv hy.1 (by omega)
  have h3 : ((zo x).toBitVec ||| (zo y).toBitVec).toNat = x.toNat ||| y.toNat := by rw [BitVec.toNat_or, h1, h2]
  have e : zor x y = ((zo x).toBitVec ||| (zo y).toBitVec).toInt := rfl
  have h4 : x.toNat ||| y.toNat < 2 ^ 10 := Nat.or_lt_two_pow (by omega) (by omega)
  rw [e, m_ti _ (by omega), h3]
theorem m_orR {x y : Int} (hx : mR x) (hy : mR y) : mR (zor x y) := by
  have h4 : x.toNat ||| y.toNat < 2 ^ 10 := Nat.or_lt_two_pow (by omega) (by omega)
  rw [m_or hx hy]
  omega
theorem m_xor {x y : Int} (hx : mR x) (hy : mR y) : zxor x y = ((x.toNat ^^^ y.toNat : Nat) : Int) := by
  have h1 := m_bv hx.1 (by omega)
  have h2 := m_bv hy.1 (by omega)
  have h3 : ((zo x).toBitVec ^^^ (zo y).toBitVec).toNat = x.toNat ^^^ y.toNat := by rw [BitVec.toNat_xor, h1, h2]
  have e : zxor x y = ((zo x).toBitVec ^^^ (zo y).toBitVec).toInt := rfl
  have h4 : x.toNat ^^^ y.toNat < 2 ^ 10 := Nat.xor_lt_two_pow (by omega) (by omega)
  rw [e, m_ti _ (by omega), h3]
theorem m_xorR {x y : Int} (hx : mR x) (hy : mR y) : mR (zxor x y) := by
  have h4 : x.toNat ^^^ y.toNat < 2 ^ 10 := Nat.xor_lt_two_pow (by omega) (by omega)
  rw [m_xor hx hy]
  omega
theorem m_xorC (x y : Int) : zxor x y = zxor y x := by unfold zxor; rw [Int32.xor_comm]
theorem mR0 : mR 0 := by omega
theorem m_or0 {x : Int} (hx : mR x) : zor x 0 = x := by
  rw [m_or hx mR0]
  show ((x.toNat ||| 0 : Nat) : Int) = x
  rw [Nat.or_zero]
  omega
theorem m_and0 (y : Int) : zand 0 y = 0 := by
  rw [m_and mR0]
  show ((0 &&& (zo y).toBitVec.toNat : Nat) : Int) = 0
  rw [Nat.zero_and]
  rfl
def mN : Nat → Nat → Nat
  | 0, _ => 0
  | n + 1, x => x % 2 + mN n (x / 2)
/-- how many bits -/
def mbc (x : Int) : Int := (mN 10 x.toNat : Nat)
theorem mN_le : ∀ n x, mN n x ≤ n
  | 0, _ => Nat.le_refl _
  | n + 1, x => by
    have := mN_le n (x / 2)
    have e : mN (n + 1) x = x % 2 + mN n (x / 2) := rfl
    omega
theorem mbc_r (x : Int) : 0 ≤ mbc x ∧ mbc x ≤ 10 := by
  have := mN_le 10 x.toNat
  unfold mbc
  omega
theorem mbc_0 : mbc 0 = 0 := by decide
theorem m_all {P : Int → Prop} [∀ x, Decidable (P x)] (h : (List.range 1024).all (fun n => decide (P (n : Int))) = true) {x : Int} (hx : mR x) : P x := by
  have := of_decide_eq_true (List.all_eq_true.mp h x.toNat (List.mem_range.mpr (by omega)))
  rwa [Int.toNat_of_nonneg hx.1] at this
theorem m_low {x : Int} (hx : mR x) : x = 0 ∨ (zand x (zwr (x - 1)) < x ∧ mbc (zand x (zwr (x - 1))) = mbc x - 1) := m_all (P := fun x => x = 0 ∨ (zand x (zwr (x - 1)) < x ∧ mbc (zand x (zwr (x - 1))) = mbc x - 1)) (by decide +kernel) hx
theorem m_low2 {x : Int} (hx : mR x) : zand x (zxor (zand x (zwr (-x))) (-1)) = zand x (zwr (x - 1)) := m_all (P := fun x => zand x (zxor (zand x (zwr (-x))) (-1)) = zand x (zwr (x - 1))) (by decide +kernel) hx
theorem m_fin {P : Int → Prop} [∀ x, Decidable (P x)] (n : Nat) (h : (List.range n).all (fun n => decide (P (n : Int))) = true) {x : Int} (h0 : 0 ≤ x) (h1 : x < n) : P x := by
  have := of_decide_eq_true (List.all_eq_true.mp h x.toNat (List.mem_range.mpr (by omega)))
  rwa [Int.toNat_of_nonneg h0] at this
theorem m_shl {x : Int} (h0 : 0 ≤ x) (h1 : x < 10) : mR (zshl 1 x) := m_fin (P := fun x => mR (zshl 1 x)) 10 (by decide +kernel) h0 h1
/-- the first n of its PARTS, beside r -/
def mfst : Nat → Int → Int → Int
  | 0, _, r => r
  | n + 1, a, r => mfst n (zand a (zwr (a - 1))) (zor r (zand a (zwr (-a))))
theorem mfst_R : ∀ (n : Nat) {a r : Int}, mR a → mR r → mR (mfst n a r)
  | 0, _, _, _, hr => hr
  | n + 1, _, _, ha, hr => mfst_R n (m_andR ha) (m_orR hr (m_andR ha))
theorem mfst_0 : ∀ (n : Nat) {r : Int}, mR r → mfst n 0 r = r
  | 0, _, _ => rfl
  | n + 1, r, hr => by
    show mfst n (zand 0 (zwr (0 - 1))) (zor r (zand 0 (zwr (-0)))) = r
    rw [m_and0, m_and0, m_or0 hr]
    exact mfst_0 n hr
def mlow (a : Int) : Int := zand a (zwr (-a))
def mlv (w e : Int) : Int := if e = 0 then 0 else zor e (zand w (zwr (zand e (zwr (-e)) - 1)))
/-- what one of a kind, with number and words, makes of s of a thing -/
def mke (k num w th s : Int) : Int :=
  if k = 1 then zor s (zshl 1 num) else if k = 3 then zxor (zor s (zshl 1 num)) (zshl 1 (zwr (9 - num))) else
  if k = 2 then zor s (zand (zshl s 1) th) else if k = 4 then mlv w (zor s (zand (zshl s 1) th)) else if k = 5 then zand s 31 else s
def mtk (k num w th kp : Int) : Int := mke k num w th (mfst kp.toNat (zand th w) 0)
theorem mtk_R {k num w th kp : Int} (hn : 0 ≤ num ∧ num < 10) (hw : mR w) (ht : mR th) : mR (mtk k num w th kp) := by
  unfold mtk
  generalize hs : mfst kp.toNat (zand th w) 0 = s
  have h : mR s := by rw [← hs]; exact mfst_R _ (m_andR ht) mR0
  have h1 := m_shl hn.1 hn.2
  have h2 : mR (zor s (zand (zshl s 1) th)) := m_orR h (m_andR2 ht)
  have e9 : zwr (9 - num) = 9 - num := zwr_eq (by omega)
  have h3 : mR (zshl 1 (zwr (9 - num))) := by rw [e9]; exact m_shl (by omega) (by omega)
  unfold mke mlv
  split
  · exact m_orR h h1
  · split
    · exact m_xorR (m_orR h h1) h3
    · split
      · exact h2
      · split
        · split
          · exact mR0
          · exact m_orR h2 (m_andR hw)
        · split
          · exact m_andR h
          · exact h
def mcl (v lo hi : Int) : Int := if v < lo then lo else if hi < v then hi else v
def mkp (k v day : Int) : Int :=
  mcl (if k = 1 ∨ k = 3 then v + 1 else if k = 2 then 2 * v else if k = 4 then (if day % 4 = 0 then 10 else 2 * v) else if k = 5 then v / 2 else v) 0 10
-- codes
def mo1 (c a : Int) : Int := if c = -11 then (if a = 0 then 1 else 0) else zwr (-a)
def mo2 (c a b : Int) : Int :=
  if c = -21 then (if a ≠ 0 ∨ b ≠ 0 then 1 else 0) else if c = -22 then (if a ≠ 0 ∧ b ≠ 0 then 1 else 0) else
  if c = -23 then (if a < b then 1 else 0) else if c = -24 then (if a = b then 1 else 0) else
  if c = -25 then zwr (a + b) else if c = -26 then zwr (a - b) else zwr (a * b)
def mst (nm : Int → Int) : Option (List Int) → Int → Option (List Int)
  | none, _ => none
  | some s, c => if -6 ≤ c then some ((if 0 ≤ c then c else nm c) :: s) else match s with
    | [] => none
    | a :: r => if -12 ≤ c then some (mo1 c a :: r) else match r with
      | [] => none
      | b :: r => some (mo2 c b a :: r)
def mrun (nm : Int → Int) (cs : List Int) : Option (List Int) := cs.foldl (mst nm) (some [])
theorem mrun_app (nm : Int → Int) (cs : List Int) (c : Int) : mrun nm (cs ++ [c]) = mst nm (mrun nm cs) c := by
  unfold mrun
  rw [List.foldl_append]
  rfl
/-- a name's value -/
def mnm (w m nu dy th sa c : Int) : Int := if c = -1 then mbc w else if c = -2 then m else if c = -3 then nu else if c = -4 then dy else if c = -5 then mbc th else sa
def mwo (nm : Int → Int) (cs : List Int) : Int := match mrun nm cs with
  | some (v :: _) => mcl v 0 99
  | _ => 0
theorem mwo_r (nm : Int → Int) (cs : List Int) : 0 ≤ mwo nm cs ∧ mwo nm cs ≤ 99 := by
  unfold mwo mcl
  split
  · split
    · omega
    · split <;> omega
  · omega
-- one of PEOPLE (number p) in a world K: K 0 2 there, 3 things, 4 day, 5 come, 6 rule; K 2 the jetty; K (3 + p): kind, number, words, memory, said
def mnk (K : zI) (p : Nat) (th : Int) : Int → Int := mnm (K (3 + p) 2) (K (3 + p) 3) (K (3 + p) 1) (K 0 4) th (K (3 + p) 4)
/-- what part q of THE RULE says -/
def msay (T : Nat → Nat → List Int) (K : zI) (q p : Nat) (th : Int) : Int := mwo (mnk K p th) (T (K 0 6).toNat q)
def mkeep (T : Nat → Nat → List Int) (K : zI) (p : Nat) (th : Int) : Int := mkp (K (3 + p) 0) (msay T K 0 p th) (K 0 4)
def mtell (T : Nat → Nat → List Int) (K : zI) (p : Nat) (th : Int) : Int := mtk (K (3 + p) 0) (K (3 + p) 1) (K (3 + p) 2) th (mkeep T K p th)
def mti (k num said v : Int) : Int := if k = 1 then 0 else if k = 3 then num else if k = 2 then v + 1 else if k = 4 then (v + 1) / 2 else if k = 5 then (if said % 2 = 0 then v else 0) else v
def mtire (T : Nat → Nat → List Int) (K : zI) (p : Nat) (th : Int) : Int := mti (K (3 + p) 0) (K (3 + p) 1) (K (3 + p) 4) (msay T K 1 p th)
def mle (k v th : Int) : Int := if k = 1 ∨ k = 5 then 0 else if v ≠ 0 ∨ ((k = 2 ∨ k = 4) ∧ mbc th = 1) then 1 else 0
def mlearn (T : Nat → Nat → List Int) (K : zI) (p : Nat) (th : Int) : Int := mle (K (3 + p) 0) (msay T K 2 p th) th
/-- told by n of PEOPLE from number p on -/
def mall (T : Nat → Nat → List Int) (K : zI) : Nat → Nat → Int → Int
  | 0, _, x => x
  | n + 1, p, x => mall T K n (p + 1) (mtell T K p x)
/-- PEOPLE of a world as they may be -/
def mok (K : zI) : Prop := (0 ≤ K 0 2 ∧ K 0 2 ≤ 5) ∧ ∀ p : Nat, (p : Int) < K 0 2 → (0 ≤ K (3 + p) 0 ∧ K (3 + p) 0 ≤ 5) ∧ (0 ≤ K (3 + p) 1 ∧ K (3 + p) 1 ≤ 9) ∧ mR (K (3 + p) 2) ∧ (0 ≤ K (3 + p) 3 ∧ K (3 + p) 3 ≤ 99) ∧ (0 ≤ K (3 + p) 4 ∧ K (3 + p) 4 ≤ 99)
theorem mtell_R {T : Nat → Nat → List Int} {K : zI} (hK : mok K) {p : Nat} (hp : (p : Int) < K 0 2) {x : Int} (hx : mR x) : mR (mtell T K p x) := by
  obtain ⟨-, h⟩ := hK
  obtain ⟨-, h1, h2, -⟩ := h p hp
  exact mtk_R ⟨h1.1, by omega⟩ h2 hx
theorem mall_R {T : Nat → Nat → List Int} {K : zI} (hK : mok K) : ∀ (n p : Nat) {x : Int}, ((p + n : Nat) : Int) ≤ K 0 2 → mR x → mR (mall T K n p x)
  | 0, _, _, _, hx => hx
  | n + 1, p, x, hp, hx => mall_R hK n (p + 1) (by omega) (mtell_R hK (by omega) hx)
/-- alike as far as anybody is there -/
def mlk (K K1 : zI) : Prop := (∀ j, 2 ≤ j → j ≤ 6 → K 0 j = K1 0 j) ∧ (∀ j : Nat, (j : Int) < K 0 3 → K 2 j = K1 2 j) ∧ ∀ p : Nat, (p : Int) < K 0 2 → ∀ j, j < 5 → K (3 + p) j = K1 (3 + p) j
theorem mlk.rf (K : zI) : mlk K K := ⟨fun _ _ _ => rfl, fun _ _ => rfl, fun _ _ _ _ => rfl⟩
theorem mlk.sy {K K1 : zI} (h : mlk K K1) : mlk K1 K := ⟨fun j a b => (h.1 j a b).symm, fun j hj => (h.2.1 j (by rw [h.1 3 (by omega) (by omega)]; exact hj)).symm, fun p hp j hj => (h.2.2 p (by rw [h.1 2 (by omega) (by omega)]; exact hp) j hj).symm⟩
theorem mlk.tr {K K1 K2 : zI} (h : mlk K K1) (g : mlk K1 K2) : mlk K K2 := ⟨fun j a b => (h.1 j a b).trans (g.1 j a b), fun j hj => (h.2.1 j hj).trans (g.2.1 j (by rw [← h.1 3 (by omega) (by omega)]; exact hj)), fun p hp j hj => (h.2.2 p hp j hj).trans (g.2.2 p (by rw [← h.1 2 (by omega) (by omega)]; exact hp) j hj)⟩
theorem mok.lk {K K1 : zI} (h : mlk K K1) (hK : mok K) : mok K1 := by
  have e := h.1 2 (by omega) (by omega)
  refine ⟨by rw [← e]; exact hK.1, fun p hp => ?_⟩
  rw [← e] at hp
  have := hK.2 p hp
  rw [← h.2.2 p hp 0 (by omega), ← h.2.2 p hp 1 (by omega), ← h.2.2 p hp 2 (by omega), ← h.2.2 p hp 3 (by omega), ← h.2.2 p hp 4 (by omega)]
  exact this
theorem msay_lk {T T1 : Nat → Nat → List Int} {K K1 : zI} (h : mlk K K1) (hT : ∀ q, T (K 0 6).toNat q = T1 (K 0 6).toNat q) {p : Nat} (hp : (p : Int) < K 0 2) (q : Nat) (x : Int) : msay T K q p x = msay T1 K1 q p x := by
  unfold msay mnk
  rw [← h.2.2 p hp 1 (by omega), ← h.2.2 p hp 2 (by omega), ← h.2.2 p hp 3 (by omega), ← h.2.2 p hp 4 (by omega), ← h.1 4 (by omega) (by omega), ← h.1 6 (by omega) (by omega), hT q]
theorem mkeep_lk {T T1 : Nat → Nat → List Int} {K K1 : zI} (h : mlk K K1) (hT : ∀ q, T (K 0 6).toNat q = T1 (K 0 6).toNat q) {p : Nat} (hp : (p : Int) < K 0 2) (x : Int) : mkeep T K p x = mkeep T1 K1 p x := by
  unfold mkeep
  rw [← h.2.2 p hp 0 (by omega), ← h.1 4 (by omega) (by omega), msay_lk h hT hp]
theorem mtell_lk {T T1 : Nat → Nat → List Int} {K K1 : zI} (h : mlk K K1) (hT : ∀ q, T (K 0 6).toNat q = T1 (K 0 6).toNat q) {p : Nat} (hp : (p : Int) < K 0 2) (x : Int) : mtell T K p x = mtell T1 K1 p x := by
  unfold mtell
  rw [← h.2.2 p hp 0 (by omega), ← h.2.2 p hp 1 (by omega), ← h.2.2 p hp 2 (by omega), mkeep_lk h hT hp]
theorem mtire_lk {T T1 : Nat → Nat → List Int} {K K1 : zI} (h : mlk K K1) (hT : ∀ q, T (K 0 6).toNat q = T1 (K 0 6).toNat q) {p : Nat} (hp : (p : Int) < K 0 2) (x : Int) : mtire T K p x = mtire T1 K1 p x := by
  unfold mtire
  rw [← h.2.2 p hp 0 (by omega), ← h.2.2 p hp 1 (by omega), ← h.2.2 p hp 4 (by omega), msay_lk h hT hp]
theorem mlearn_lk {T T1 : Nat → Nat → List Int} {K K1 : zI} (h : mlk K K1) (hT : ∀ q, T (K 0 6).toNat q = T1 (K 0 6).toNat q) {p : Nat} (hp : (p : Int) < K 0 2) (x : Int) : mlearn T K p x = mlearn T1 K1 p x := by
  unfold mlearn
  rw [← h.2.2 p hp 0 (by omega), msay_lk h hT hp]
theorem mall_lk {T T1 : Nat → Nat → List Int} {K K1 : zI} (h : mlk K K1) (hT : ∀ q, T (K 0 6).toNat q = T1 (K 0 6).toNat q) : ∀ (n p : Nat) (x : Int), ((p + n : Nat) : Int) ≤ K 0 2 → mall T K n p x = mall T1 K1 n p x
  | 0, _, _, _ => rfl
  | n + 1, p, x, hp => by
    show mall T K n (p + 1) (mtell T K p x) = mall T1 K1 n (p + 1) (mtell T1 K1 p x)
    rw [mtell_lk h hT (by omega)]
    exact mall_lk h hT n (p + 1) _ (by omega)
theorem mke_r {v : Int} (k d : Int) (h : 0 ≤ v) : 0 ≤ mkp k v d ∧ mkp k v d ≤ 10 := by
  unfold mkp mcl
  split
  · omega
  · split <;> omega

