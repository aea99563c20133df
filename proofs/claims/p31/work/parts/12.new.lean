/-! new cells; written out of wip/whole/14.src -/
theorem zEv_ext {ad ad1 : Nat → Nat} {N : Nat} (ea : ∀ y, (y < N ∨ 1000 ≤ y) → ad1 y = ad y) {v : zV} (h : zVd N v) : zEv ad1 v = zEv ad v := by
  rcases v with x | x | r
  · rfl
  · rfl
  · cases r with
    | none => rfl
    | some y => exact congrArg Value.ref (ea y (h y rfl))
theorem zVd_up {N N1 : Nat} (hN : N ≤ N1) {v : zV} (h : zVd N v) : zVd N1 v := by
  rcases v with x | x | r
  · exact h
  · exact h
  · exact fun y hy => by rcases h y hy with q | q; exact Or.inl (by omega); exact Or.inr q
theorem zst_ext {ad ad1 : Nat → Nat} {N : Nat} (ea : ∀ y, (y < N ∨ 1000 ≤ y) → ad1 y = ad y) : ∀ {st : List zV}, (∀ v ∈ st, zVd N v) → st.map (zEv ad1) = st.map (zEv ad)
  | [], _ => rfl
  | v :: st, h => by
    rw [List.map_cons, List.map_cons, zEv_ext ea (h v List.mem_cons_self), zst_ext ea (fun w hw => h w (List.mem_cons_of_mem _ hw))]
theorem zLo.ext {ad ad1 : Nat → Nat} {N N1 nL : Nat} {ls : zLv} {A : Array Slot} (ea : ∀ y, (y < N ∨ 1000 ≤ y) → ad1 y = ad y) (hN : N ≤ N1) (h : zLo ad N nL ls A) : zLo ad1 N1 nL ls A :=
  ⟨h.1, h.2.1, fun i v hv => ⟨zVd_up hN (h.2.2 i v hv).1, by rw [zEv_ext ea (h.2.2 i v hv).1]; exact (h.2.2 i v hv).2⟩⟩
theorem zopt_ext {ad ad1 : Nat → Nat} {N : Nat} (ea : ∀ y, (y < N ∨ 1000 ≤ y) → ad1 y = ad y) {r : Option Nat} (h : ∀ y, r = some y → y < N ∨ 1000 ≤ y) : r.map ad1 = r.map ad := by
  cases r with
  | none => rfl
  | some y => exact congrArg some (ea y (h y rfl))
theorem zCe_ext {dA : Nat → ClassId} {ad ad1 : Nat → Nat} {h h1 : zH} {x : Nat} (hv : zVal h) (hx : x < h.1.1) (e1 : h1.2.1 x = h.2.1 x) (e2 : h1.2.2 x = h.2.2 x) (ea : ∀ y, (y < h.1.1 ∨ 1000 ≤ y) → ad1 y = ad y) : zCe dA ad1 h1 x = zCe dA ad h x := by
  have hr : ∀ j, j < (zSh x).2 → (h.2.2 x j).map ad1 = (h.2.2 x j).map ad := fun j hj => zopt_ext ea (fun y hy => hv.2.2 x hx j hj y hy)
  unfold zCe
  rw [e1, e2]
  have a1 : (List.range (zSh x).2).map (zFv ad1 h1 x (zSh x).1) = (List.range (zSh x).2).map (zFv ad h x (zSh x).1) := by
    apply List.map_congr_left
    intro j hj
    unfold zFv
    rw [e1, e2, hr j (List.mem_range.mp hj)]
  have a2 : (fun j => if j < (zSh x).2 then (h.2.2 x j).map ad1 else none) = (fun j => if j < (zSh x).2 then (h.2.2 x j).map ad else none) := by
    funext j
    by_cases q : j < (zSh x).2
    · rw [if_pos q, if_pos q, hr j q]
    · rw [if_neg q, if_neg q]
  rw [a1, a2]
def znh (h : zH) (n : Nat) : zH := ((h.1.1 + 1, h.1.2.1 + n, h.1.2.2), z1 h.2.1 h.1.1 0, z1 h.2.2 h.1.1 none)
def zna (ad : Nat → Nat) (N q : Nat) : Nat → Nat := fun y => if y = N then q else ad y
theorem zna_ext {ad : Nat → Nat} {N q : Nat} (hN : N < 1000) : ∀ y, (y < N ∨ 1000 ≤ y) → zna ad N q y = ad y := fun y hy => by
  unfold zna
  rw [if_neg (by omega)]
theorem z1_ne {α : Type} {f : Nat → Nat → α} {a y : Nat} {v : α} (h : y ≠ a) : z1 f a v y = f y := by
  funext k
  unfold z1
  rw [if_neg h]
theorem z1_eq {α : Type} {f : Nat → Nat → α} {a j : Nat} {v : α} : z1 f a v a j = v := by
  unfold z1
  rw [if_pos rfl]
theorem zWs_push {dA : Nat → ClassId} {ad : Nat → Nat} {h : zH} {n q : Nat} (hv : zVal h) (hN : h.1.1 < 1000) : zWs dA (zna ad h.1.1 q) (znh h n) = zWs dA ad h ++ [(q, zCe dA (zna ad h.1.1 q) (znh h n) h.1.1)] := by
  unfold zWs
  show (List.range (h.1.1 + 1)).map _ = _
  rw [List.range_succ, List.map_append]
  congr 1
  · apply List.map_congr_left
    intro x hx
    have hx := List.mem_range.mp hx
    rw [zna_ext hN x (Or.inl hx), zCe_ext hv hx (z1_ne (by omega)) (z1_ne (by omega)) (zna_ext hN)]
  · show [(zna ad h.1.1 q h.1.1, _)] = _
    rw [show zna ad h.1.1 q h.1.1 = q from if_pos rfl]
theorem zVal.push {h : zH} {n : Nat} (hv : zVal h) (hN : h.1.1 < 1000) : zVal (znh h n) := by
  refine ⟨by show h.1.1 + 1 ≤ 1000; omega, fun x hx j => ?_, fun x hx j hj y hy => ?_⟩
  · have hx : x < h.1.1 + 1 := hx
    show match zIl x j with | true => zIm (z1 h.2.1 h.1.1 0 x j) | false => zIn (z1 h.2.1 h.1.1 0 x j)
    by_cases q : x = h.1.1
    · rw [q, z1_eq]
      cases zIl h.1.1 j
      · exact zIn0
      · exact zIm0
    · rw [z1_ne q]
      exact hv.2.1 x (by omega) j
  · have hx : x < h.1.1 + 1 := hx
    have hy : z1 h.2.2 h.1.1 none x j = some y := hy
    by_cases q : x = h.1.1
    · rw [q, z1_eq] at hy
      cases hy
    · rw [z1_ne q] at hy
      rcases hv.2.2 x (by omega) j hj y hy with z | z
      · exact Or.inl (by show y < h.1.1 + 1; omega)
      · exact Or.inr z
section
variable {p : Program} {l : Launch} {e : Env} {R : Room} {s : State} {m : MethodId} {args : Array Value} {below : List Frame} {meth : Method} {c : Code} {Qf : State → Prop} {D : va_G} {dA : Nat → ClassId} {A : Nat → Prop} {aC aV : Nat → Nat} {L : Nat} {xs : Nat → Int32} {N0 S0 M0 M1 k : Nat}
theorem zSt.push {ad : Nat → Nat} {h : zH} {H H1 : Heap} {locs : List Loc} {cells slots n q : Nat} (hS : zSt D dA A aC L xs s N0 S0 M0 M1 R ad h H locs cells slots) (hN : h.1.1 < 1000) (hc : cells + 1 ≤ R.cells) (hs : slots + n ≤ R.slots)
    {ce : va_E} (hce : zCe dA (zna ad h.1.1 q) (znh h n) h.1.1 = ce) (p1 : va_P D zvCl (zWs dA ad h ++ [(q, ce)]) H1) (d1 : va_D A (zWs dA ad h ++ [(q, ce)])) (s1 : va_S A s.heap H1 locs) : zSt D dA A aC L xs s N0 S0 M0 M1 R (zna ad h.1.1 q) (znh h n) H1 locs (cells + 1) (slots + n) := by
  obtain ⟨-, -, -, a4, a5, a6, a7, a8, a9⟩ := hS
  rw [← hce, ← zWs_push a4 hN] at p1 d1
  refine ⟨p1, d1, s1, a4.push hN, fun i hi => by rw [zna_ext hN i (by omega)]; exact a5 i hi, ⟨by show h.1.1 + 1 + M0 = _; omega, by show h.1.2.1 + n + M1 = _; omega, by show N0 ≤ h.1.1 + 1; omega⟩, ⟨hc, hs⟩, a8, fun j hj => ?_⟩
  · show z1 h.2.1 h.1.1 0 2000 j = _
    rw [z1_ne (by omega)]
    exact a9 j hj
theorem zs_newgo {ad : Nat → Nat} {h : zH} {H H1 : Heap} {locs : List Loc} {cells slots n q pc1 : Nat} {ls : zLv} {st : List zV} {lsA : Array Slot} (hS : zSt D dA A aC L xs s N0 S0 M0 M1 R ad h H locs cells slots) (hL : zLo ad h.1.1 (zL k) ls lsA) (hst : ∀ v ∈ st, zVd h.1.1 v) (hN : h.1.1 < 1000) (hc : cells + 1 ≤ R.cells) (hs : slots + n ≤ R.slots)
    {ce : va_E} (hce : zCe dA (zna ad h.1.1 q) (znh h n) h.1.1 = ce) (p1 : va_P D zvCl (zWs dA ad h ++ [(q, ce)]) H1) (d1 : va_D A (zWs dA ad h ++ [(q, ce)])) (s1 : va_S A s.heap H1 locs) (HP : zPp p l e R s m args below meth c Qf D dA A aC L xs N0 S0 M0 M1 k pc1 ls (.inr (.inr (some h.1.1)) :: st) (znh h n)) : W p l e R s m args below meth c H1 locs (cells + 1) (slots + n) Qf (F0 m pc1 lsA (.ref q :: st.map (zEv ad))) := by
  have := HP (zna ad h.1.1 q) H1 lsA locs (cells + 1) (slots + n) (hS.push hN hc hs hce p1 d1 s1) (hL.ext (zna_ext hN) (Nat.le_succ _)) (zst_mk (fun y hy => by cases hy; exact Or.inl (Nat.lt_succ_self _)) (fun v hv => zVd_up (Nat.le_succ _) (hst v hv)))
  rw [List.map_cons, zst_ext (zna_ext hN) hst, show zEv (zna ad h.1.1 q) (.inr (.inr (some h.1.1))) = .ref q from congrArg Value.ref (if_pos rfl)] at this
  exact this
theorem zs_new {i a pc : Nat} {B : Nat × Nat} {ls : zLv} {st : List zV} {h : zH} (hx : p.tables.exec = Jvm.exec) (hb : c.code = zB k) (hts : ∀ w ∈ zGL, w.before args s = true) (hown : s.vm.findClass (zR (zO k)) = some m.cls) (hK : va_K D zvCl (zTys dA) s) (hA : ∀ q, s.heap.size ≤ q → A q) (hB : B.1 + M0 ≤ N0 + R.cells ∧ B.2 + M1 ≤ S0 + R.slots) (hd : decode (zB k) pc = .ok (.new i, 3)) (hct : (zO k, i, a) ∈ zCT) (ha : a < 13) (H : zo_new a (zNF a) B (zPp p l e R s m args below meth c Qf D dA A aC L xs N0 S0 M0 M1 k) (pc + 3) ls st h) : zPp p l e R s m args below meth c Qf D dA A aC L xs N0 S0 M0 M1 k pc ls st h := by
  unfold zo_new at H
  obtain ⟨g1, g2, g3, hN, HP⟩ := H
  intro ad Hp lsA locs cells slots hS hL hst
  obtain ⟨c1, c2, c3⟩ := zCT_ok _ hct
  have hcnt := hS.2.2.2.2.2.1
  have hfs : ∀ j, j < zNF a → defaultValue (zTy a j) = vp_V ((List.range (zNF a)).map (fun j => match zKd a j with | 1 => Value.long (zp 0) | 2 => va_rf none | _ => .int (zo 0))) j := by
    intro j hj
    unfold vp_V
    rw [List.getD_eq_getElem?_getD, List.getElem?_map, List.getElem?_range hj]
    show _ = (match zKd a j with | 1 => Value.long (zp 0) | 2 => va_rf none | _ => .int (zo 0))
    have hk := zKc_ok ha hj
    generalize zTy a j = t at hk
    generalize zKd a j = kd at hk
    unfold zKc at hk
    split at hk
    · rfl
    · rfl
    · rfl
    · rfl
    · rfl
    · cases hk
  refine va_new hx hb hts (zWS_ok a ha) (zTy a) (zty_ok a ha) hown (hts _ c1) (hts _ c2) (hts _ c3) hK hS.1 hS.2.1 hS.2.2.1 hA (zcl_ok a ha) hfs (by omega) (by omega) hd (fun q H1 p1 d1 s1 => ?_)
  refine zs_newgo hS hL hst hN (by omega) (by omega) ?_ p1 d1 s1 HP
  rw [zCe_obj g1 (by omega)]
  refine congrArg (fun z => Sum.inr (a, z)) (List.map_congr_left (fun j _ => ?_))
  unfold zFv
  show (match zKd a j with | 1 => Value.long (zp (z1 h.2.1 h.1.1 0 h.1.1 j)) | 2 => va_rf ((z1 h.2.2 h.1.1 none h.1.1 j).map _) | _ => .int (zo (z1 h.2.1 h.1.1 0 h.1.1 j))) = _
  rw [z1_eq, z1_eq]
  rfl
theorem zRA_eq {s : State} {cA cB : ClassId} {t : FieldType} (h1 : va_RA s cA t) (h2 : va_RA s cB t) (ht : t = .int ∨ t = .boolean ∨ ∃ C, t = .object C) : cA = cB := by
  rcases ht with rfl | rfl | ⟨C, rfl⟩
  · exact Option.some.inj (Eq.trans (Eq.symm h1) h2)
  · exact Option.some.inj (Eq.trans (Eq.symm h1) h2)
  · obtain ⟨_, _, _, _, _, a⟩ := h1
    obtain ⟨_, _, _, _, _, b⟩ := h2
    exact Option.some.inj (a.symm.trans b)
theorem zs_newa {a pc : Nat} {at1 : ArrayType} {B : Nat × Nat} {ls : zLv} {st : List zV} {h : zH} (hx : p.tables.exec = Jvm.exec) (hb : c.code = zB k) (hts : ∀ w ∈ zGL, w.before args s = true) (hK : va_K D zvCl (zTys dA) s) (hA : ∀ q, s.heap.size ≤ q → A q) (hB : B.1 + M0 ≤ N0 + R.cells ∧ B.2 + M1 ≤ S0 + R.slots) (hd : decode (zB k) pc = .ok (.newarray at1, 2)) (ht : (at1 = .int ∧ a = 0) ∨ False) (H : zo_newa a B (zPp p l e R s m args below meth c Qf D dA A aC L xs N0 S0 M0 M1 k) (pc + 2) ls st h) : zPp p l e R s m args below meth c Qf D dA A aC L xs N0 S0 M0 M1 k pc ls st h := by
  unfold zo_newa at H
  split at H
  · rename_i n r
    obtain ⟨hn, H⟩ := H
    unfold zo_new at H
    obtain ⟨g1, g2, g3, hN, HP⟩ := H
    intro ad Hp lsA locs cells slots hS hL hst
    obtain ⟨h0, hr⟩ := zst_cons hst
    have hcnt := hS.2.2.2.2.2.1
    have hn0 : ¬ zo n < 0 := fun q => by have := (zo_lt h0 zIn0).mp q; omega
    rcases ht with ⟨rfl, rfl⟩ | hfa
    · refine va_newa (atype := .int) hx hb (hts _ zAI_ok.1) (ty := .int) rfl hK hS.1 hS.2.1 hS.2.2.1 hA (N' := n.toNat) (a0 := (n.toNat, .inl (fun _ => 0))) (fun _ => rfl) hn0 (zn_cl h0) (by show n.toNat * 4 ≤ _; omega) (by omega) (by omega) hd (fun q cA H1 k1 p1 d1 s1 => ?_)
      have e : cA = dA 0 := zRA_eq (k1.2 6 (cA, .int) rfl).2 (hK.2 0 (dA 0, .int) (zTys_at dA (by omega))).2 (Or.inl rfl)
      subst e
      refine zs_newgo hS hL hr hN (by omega) (by omega) ?_ p1 d1 s1 HP
      rw [zCe_ia g1]
      refine congrArg (fun z => Sum.inl (dA 0, n.toNat, Sum.inl z)) ?_
      funext j
      show zo (z1 h.2.1 h.1.1 0 h.1.1 j) = 0
      rw [z1_eq]
      rfl
    · exact hfa.elim
  · exact H.elim
theorem zAc_mem {a : Nat} (h : 2 ≤ a ∧ a ≤ 5) : zAc a ∈ [5, 8, 9, 10] := by
  match a, h with
  | 2, _ => decide
  | 3, _ => decide
  | 4, _ => decide
  | 5, _ => decide
  | 0, h => exact absurd h (by omega)
  | 1, h => exact absurd h (by omega)
  | a + 6, h => exact absurd h (by omega)
theorem zs_newq {i a pc : Nat} {B : Nat × Nat} {ls : zLv} {st : List zV} {h : zH} (hx : p.tables.exec = Jvm.exec) (hb : c.code = zB k) (hts : ∀ w ∈ zGL, w.before args s = true) (hown : s.vm.findClass (zR (zO k)) = some m.cls) (hK : va_K D zvCl (zTys dA) s) (hO : ∀ c ∈ [5, 8, 9, 10], va_AO (zR c) s) (hA : ∀ q, s.heap.size ≤ q → A q) (hB : B.1 + M0 ≤ N0 + R.cells ∧ B.2 + M1 ≤ S0 + R.slots) (hd : decode (zB k) pc = .ok (.anewarray i, 3)) (hct : (zO k, i, a) ∈ zAT) (ha : 2 ≤ a ∧ a ≤ 5) (H : zo_newa a B (zPp p l e R s m args below meth c Qf D dA A aC L xs N0 S0 M0 M1 k) (pc + 3) ls st h) : zPp p l e R s m args below meth c Qf D dA A aC L xs N0 S0 M0 M1 k pc ls st h := by
  unfold zo_newa at H
  split at H
  · rename_i n r
    obtain ⟨hn, H⟩ := H
    unfold zo_new at H
    obtain ⟨g1, g2, g3, hN, HP⟩ := H
    intro ad Hp lsA locs cells slots hS hL hst
    obtain ⟨h0, hr⟩ := zst_cons hst
    have hcnt := hS.2.2.2.2.2.1
    have hn0 : ¬ zo n < 0 := fun q => by have := (zo_lt h0 zIn0).mp q; omega
    refine va_newq hx hb hown (hts _ (zAT_ok _ hct)) (hO _ (zAc_mem ha)) hK hS.1 hS.2.1 hS.2.2.1 hA (N' := n.toNat) hn0 (zn_cl h0) (by omega) (by omega) (by omega) hd (fun q cA H1 k1 p1 d1 s1 => ?_)
    have e : cA = dA a := zRA_eq (k1.2 6 (cA, .object (zR (zAc a))) rfl).2 (hK.2 a (dA a, .object (zR (zAc a))) (by rw [zTys_at dA (by omega), zTy_ref ha.1 ha.2])).2 (Or.inr (Or.inr ⟨_, rfl⟩))
    subst e
    refine zs_newgo hS hL hr hN (by omega) (by omega) ?_ p1 d1 s1 HP
    rw [zCe_ra g1 (by omega), show 100 + a - 100 = a by omega]
    refine congrArg (fun z => Sum.inl (dA a, n.toNat, Sum.inr (Sum.inr (Sum.inr (Sum.inr z))))) ?_
    funext j
    show (if j < n.toNat then (z1 h.2.2 h.1.1 none h.1.1 j).map _ else none) = none
    rw [z1_eq]
    split <;> rfl
  · exact H.elim
theorem zcs_sum (ad : Nat → Nat) : ∀ r : List zV, ((r.map (zEv ad)).map fun v => v.category).sum = zcs r
  | [] => rfl
  | .inl x :: r => by
    rw [List.map_cons, List.map_cons, List.sum_cons, zcs_sum ad r]
    show 1 + _ = zcs r + 1
    omega
  | .inr (.inl x) :: r => by
    rw [List.map_cons, List.map_cons, List.sum_cons, zcs_sum ad r]
    show 2 + _ = zcs r + 2
    omega
  | .inr (.inr x) :: r => by
    rw [List.map_cons, List.map_cons, List.sum_cons, zcs_sum ad r, zEv_cat1 _ (fun _ q => by cases q)]
    show 1 + _ = zcs r + 1
    omega
theorem znfw : nativeFrameWords "java/lang/System" "arraycopy" 5 ≤ 30 := by decide +kernel
end
