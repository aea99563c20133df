/-! each operation is the machine's; written out of wip/whole/12.src -/
section
variable {p : Program} {l : Launch} {e : Env} {R : Room} {s : State} {m : MethodId} {args : Array Value} {below : List Frame} {meth : Method} {c : Code} {Qf : State → Prop} {D : va_G} {dA : Nat → ClassId} {A : Nat → Prop} {aC aV : Nat → Nat} {L : Nat} {xs : Nat → Int32} {N0 S0 M0 M1 k : Nat}
def zPp (p : Program) (l : Launch) (e : Env) (R : Room) (s : State) (m : MethodId) (args : Array Value) (below : List Frame) (meth : Method) (c : Code) (Qf : State → Prop) (D : va_G) (dA : Nat → ClassId) (A : Nat → Prop) (aC : Nat → Nat) (L : Nat) (xs : Nat → Int32) (N0 S0 M0 M1 k : Nat) : zK := fun pc ls st h =>
  ∀ (ad : Nat → Nat) (H : Heap) (lsA : Array Slot) (locs : List Loc) (cells slots : Nat), zSt D dA A aC L xs s N0 S0 M0 M1 R ad h H locs cells slots → zLo ad h.1.1 (zL k) ls lsA → (∀ v ∈ st, zVd h.1.1 v) → W p l e R s m args below meth c H locs cells slots Qf (F0 m pc lsA (st.map (zEv ad)))
theorem zst_cons {N : Nat} {v : zV} {st : List zV} (h : ∀ w ∈ v :: st, zVd N w) : zVd N v ∧ ∀ w ∈ st, zVd N w := List.forall_mem_cons.mp h
theorem zst_mk {N : Nat} {v : zV} {st : List zV} (h1 : zVd N v) (h : ∀ w ∈ st, zVd N w) : ∀ w ∈ v :: st, zVd N w := List.forall_mem_cons.mpr ⟨h1, h⟩
theorem zs_push {v : zV} {pc pc1 : Nat} {ls : zLv} {st : List zV} {h : zH} (hv : zVd h.1.1 v) (row : ∀ {ad : Nat → Nat} {H : Heap} {lsA : Array Slot} {rest : List Value} {locs : List Loc} {cells slots : Nat}, (∀ i, 1000 ≤ i → ad i = aC i) → W p l e R s m args below meth c H locs cells slots Qf (F0 m pc1 lsA (zEv ad v :: rest)) → W p l e R s m args below meth c H locs cells slots Qf (F0 m pc lsA rest)) (H : zPp p l e R s m args below meth c Qf D dA A aC L xs N0 S0 M0 M1 k pc1 ls (v :: st) h) : zPp p l e R s m args below meth c Qf D dA A aC L xs N0 S0 M0 M1 k pc ls st h := by
  intro ad Hp lsA locs cells slots hS hL hst
  exact row (fun i hi => hS.2.2.2.2.1 i (Or.inr hi)) (H ad Hp lsA locs cells slots hS hL (zst_mk hv hst))
theorem zs_i2 {f : Int → Int → Int} {g : Int32 → Int32 → Int32} (hf : ∀ x y, zIn x → zIn y → zIn (f x y) ∧ zo (f x y) = g (zo x) (zo y)) {pc : Nat} (row : ∀ {x y : Int32} {H : Heap} {lsA : Array Slot} {rest : List Value} {locs : List Loc} {cells slots : Nat}, W p l e R s m args below meth c H locs cells slots Qf (F0 m (pc + 1) lsA (.int (g x y) :: rest)) → W p l e R s m args below meth c H locs cells slots Qf (F0 m pc lsA (.int y :: .int x :: rest))) {ls : zLv} {st : List zV} {h : zH} (H : zo_i2 f (zPp p l e R s m args below meth c Qf D dA A aC L xs N0 S0 M0 M1 k) pc ls st h) : zPp p l e R s m args below meth c Qf D dA A aC L xs N0 S0 M0 M1 k pc ls st h := by
  unfold zo_i2 at H
  split at H
  · rename_i y x r
    intro ad Hp lsA locs cells slots hS hL hst
    obtain ⟨hy, hst⟩ := zst_cons hst
    obtain ⟨hx, hst⟩ := zst_cons hst
    obtain ⟨f1, f2⟩ := hf x y hx hy
    refine row ?_
    have := H ad Hp lsA locs cells slots hS hL (zst_mk f1 hst)
    rw [show (.inl (f x y) :: r : List zV).map (zEv ad) = .int (zo (f x y)) :: r.map (zEv ad) from rfl, f2] at this
    exact this
  · exact H.elim
theorem zs_i2n {f : Int → Int → Int} {g : Int32 → Int32 → Int32} (hf : ∀ x y, zIn x → zIn y → zIn (f x y) ∧ zo (f x y) = g (zo x) (zo y)) {pc : Nat} (row : ∀ {x y : Int32} {H : Heap} {lsA : Array Slot} {rest : List Value} {locs : List Loc} {cells slots : Nat}, ¬ y = 0 → W p l e R s m args below meth c H locs cells slots Qf (F0 m (pc + 1) lsA (.int (g x y) :: rest)) → W p l e R s m args below meth c H locs cells slots Qf (F0 m pc lsA (.int y :: .int x :: rest))) {ls : zLv} {st : List zV} {h : zH} (H : zo_i2n f (zPp p l e R s m args below meth c Qf D dA A aC L xs N0 S0 M0 M1 k) pc ls st h) : zPp p l e R s m args below meth c Qf D dA A aC L xs N0 S0 M0 M1 k pc ls st h := by
  unfold zo_i2n at H
  split at H
  · rename_i y x r
    intro ad Hp lsA locs cells slots hS hL hst
    obtain ⟨hy, hst⟩ := zst_cons hst
    obtain ⟨hx, hst⟩ := zst_cons hst
    obtain ⟨f1, f2⟩ := hf x y hx hy
    refine row (fun q => H.1 ((zo_inj hy zIn0).mp q)) ?_
    have := H.2 ad Hp lsA locs cells slots hS hL (zst_mk f1 hst)
    rw [show (.inl (f x y) :: r : List zV).map (zEv ad) = .int (zo (f x y)) :: r.map (zEv ad) from rfl, f2] at this
    exact this
  · exact H.elim
theorem zs_i1 {f : Int → Int} {g : Int32 → Int32} (hf : ∀ x, zIn x → zIn (f x) ∧ zo (f x) = g (zo x)) {pc : Nat} (row : ∀ {x : Int32} {H : Heap} {lsA : Array Slot} {rest : List Value} {locs : List Loc} {cells slots : Nat}, W p l e R s m args below meth c H locs cells slots Qf (F0 m (pc + 1) lsA (.int (g x) :: rest)) → W p l e R s m args below meth c H locs cells slots Qf (F0 m pc lsA (.int x :: rest))) {ls : zLv} {st : List zV} {h : zH} (H : zo_i1 f (zPp p l e R s m args below meth c Qf D dA A aC L xs N0 S0 M0 M1 k) pc ls st h) : zPp p l e R s m args below meth c Qf D dA A aC L xs N0 S0 M0 M1 k pc ls st h := by
  unfold zo_i1 at H
  split at H
  · rename_i x r
    intro ad Hp lsA locs cells slots hS hL hst
    obtain ⟨hx, hst⟩ := zst_cons hst
    obtain ⟨f1, f2⟩ := hf x hx
    refine row ?_
    have := H ad Hp lsA locs cells slots hS hL (zst_mk f1 hst)
    rw [show (.inl (f x) :: r : List zV).map (zEv ad) = .int (zo (f x)) :: r.map (zEv ad) from rfl, f2] at this
    exact this
  · exact H.elim
theorem zs_l2 {f : Int → Int → Int} {g : Int64 → Int64 → Int64} (hf : ∀ x y, zIm x → zIm y → zIm (f x y) ∧ zp (f x y) = g (zp x) (zp y)) {pc : Nat} (row : ∀ {x y : Int64} {H : Heap} {lsA : Array Slot} {rest : List Value} {locs : List Loc} {cells slots : Nat}, W p l e R s m args below meth c H locs cells slots Qf (F0 m (pc + 1) lsA (.long (g x y) :: rest)) → W p l e R s m args below meth c H locs cells slots Qf (F0 m pc lsA (.long y :: .long x :: rest))) {ls : zLv} {st : List zV} {h : zH} (H : zo_l2 f (zPp p l e R s m args below meth c Qf D dA A aC L xs N0 S0 M0 M1 k) pc ls st h) : zPp p l e R s m args below meth c Qf D dA A aC L xs N0 S0 M0 M1 k pc ls st h := by
  unfold zo_l2 at H
  split at H
  · rename_i y x r
    intro ad Hp lsA locs cells slots hS hL hst
    obtain ⟨hy, hst⟩ := zst_cons hst
    obtain ⟨hx, hst⟩ := zst_cons hst
    obtain ⟨f1, f2⟩ := hf x y hx hy
    refine row ?_
    have := H ad Hp lsA locs cells slots hS hL (zst_mk f1 hst)
    rw [show (.inr (.inl (f x y)) :: r : List zV).map (zEv ad) = .long (zp (f x y)) :: r.map (zEv ad) from rfl, f2] at this
    exact this
  · exact H.elim
theorem zs_l2n {f : Int → Int → Int} {g : Int64 → Int64 → Int64} (hf : ∀ x y, zIm x → zIm y → zIm (f x y) ∧ zp (f x y) = g (zp x) (zp y)) {pc : Nat} (row : ∀ {x y : Int64} {H : Heap} {lsA : Array Slot} {rest : List Value} {locs : List Loc} {cells slots : Nat}, ¬ y = 0 → W p l e R s m args below meth c H locs cells slots Qf (F0 m (pc + 1) lsA (.long (g x y) :: rest)) → W p l e R s m args below meth c H locs cells slots Qf (F0 m pc lsA (.long y :: .long x :: rest))) {ls : zLv} {st : List zV} {h : zH} (H : zo_l2n f (zPp p l e R s m args below meth c Qf D dA A aC L xs N0 S0 M0 M1 k) pc ls st h) : zPp p l e R s m args below meth c Qf D dA A aC L xs N0 S0 M0 M1 k pc ls st h := by
  unfold zo_l2n at H
  split at H
  · rename_i y x r
    intro ad Hp lsA locs cells slots hS hL hst
    obtain ⟨hy, hst⟩ := zst_cons hst
    obtain ⟨hx, hst⟩ := zst_cons hst
    obtain ⟨f1, f2⟩ := hf x y hx hy
    refine row (fun q => H.1 ((zp_inj hy zIm0).mp q)) ?_
    have := H.2 ad Hp lsA locs cells slots hS hL (zst_mk f1 hst)
    rw [show (.inr (.inl (f x y)) :: r : List zV).map (zEv ad) = .long (zp (f x y)) :: r.map (zEv ad) from rfl, f2] at this
    exact this
  · exact H.elim
theorem zs_lcmp {pc : Nat} {ls : zLv} {st : List zV} {h : zH} (hx : p.tables.exec = Jvm.exec) (hb : c.code = zB k) (hd : decode (zB k) pc = .ok (.lcmp, 1)) (H : zo_lcmp (zPp p l e R s m args below meth c Qf D dA A aC L xs N0 S0 M0 M1 k) pc ls st h) : zPp p l e R s m args below meth c Qf D dA A aC L xs N0 S0 M0 M1 k pc ls st h := by
  unfold zo_lcmp at H
  split at H
  · rename_i y x r
    intro ad Hp lsA locs cells slots hS hL hst
    obtain ⟨hy, hst⟩ := zst_cons hst
    obtain ⟨hx', hst⟩ := zst_cons hst
    refine W.lcmp hx hb hd ?_
    rw [zcmp_lg hx' hy]
    exact H ad Hp lsA locs cells slots hS hL (zst_mk (v := .inl _) (by show zIn _; unfold zcmp; split <;> first | omega | (split <;> omega)) hst)
  · exact H.elim
theorem zs_i2l {pc : Nat} {ls : zLv} {st : List zV} {h : zH} (hx : p.tables.exec = Jvm.exec) (hb : c.code = zB k) (hd : decode (zB k) pc = .ok (.i2l, 1)) (H : zo_i2l (zPp p l e R s m args below meth c Qf D dA A aC L xs N0 S0 M0 M1 k) pc ls st h) : zPp p l e R s m args below meth c Qf D dA A aC L xs N0 S0 M0 M1 k pc ls st h := by
  unfold zo_i2l at H
  split at H
  · rename_i x r
    intro ad Hp lsA locs cells slots hS hL hst
    obtain ⟨hx', hst⟩ := zst_cons hst
    exact lv_i2l hx hb hd (zn_i2l hx') (H ad Hp lsA locs cells slots hS hL (zst_mk (v := .inr (.inl _)) (zIn_m hx') hst))
  · exact H.elim
theorem zs_l2i {pc : Nat} {ls : zLv} {st : List zV} {h : zH} (hx : p.tables.exec = Jvm.exec) (hb : c.code = zB k) (hd : decode (zB k) pc = .ok (.l2i, 1)) (H : zo_l2i (zPp p l e R s m args below meth c Qf D dA A aC L xs N0 S0 M0 M1 k) pc ls st h) : zPp p l e R s m args below meth c Qf D dA A aC L xs N0 S0 M0 M1 k pc ls st h := by
  unfold zo_l2i at H
  split at H
  · rename_i x r
    intro ad Hp lsA locs cells slots hS hL hst
    obtain ⟨hx', hst⟩ := zst_cons hst
    exact lv_l2i hx hb hd (zn_l2i hx') (H ad Hp lsA locs cells slots hS hL (zst_mk (v := .inl _) (zwr_in x) hst))
  · exact H.elim
theorem zs_dup {pc : Nat} {ls : zLv} {st : List zV} {h : zH} (hx : p.tables.exec = Jvm.exec) (hb : c.code = zB k) (hd : decode (zB k) pc = .ok (.dup, 1)) (H : zo_dup (zPp p l e R s m args below meth c Qf D dA A aC L xs N0 S0 M0 M1 k) pc ls st h) : zPp p l e R s m args below meth c Qf D dA A aC L xs N0 S0 M0 M1 k pc ls st h := by
  unfold zo_dup at H
  split at H
  · intro ad Hp lsA locs cells slots hS hL hst
    obtain ⟨h1, hst⟩ := zst_cons hst
    exact lv_dup hx hb hd rfl (H ad Hp lsA locs cells slots hS hL (zst_mk h1 (zst_mk h1 hst)))
  · intro ad Hp lsA locs cells slots hS hL hst
    obtain ⟨h1, hst⟩ := zst_cons hst
    exact lv_dup hx hb hd (zEv_cat1 _ (fun _ q => by cases q)) (H ad Hp lsA locs cells slots hS hL (zst_mk h1 (zst_mk h1 hst)))
  · exact H.elim
theorem zs_dup2 {pc : Nat} {ls : zLv} {st : List zV} {h : zH} (hx : p.tables.exec = Jvm.exec) (hb : c.code = zB k) (hd : decode (zB k) pc = .ok (.dup2, 1)) (H : zo_dup2 (zPp p l e R s m args below meth c Qf D dA A aC L xs N0 S0 M0 M1 k) pc ls st h) : zPp p l e R s m args below meth c Qf D dA A aC L xs N0 S0 M0 M1 k pc ls st h := by
  unfold zo_dup2 at H
  split at H
  · intro ad Hp lsA locs cells slots hS hL hst
    obtain ⟨h1, hst⟩ := zst_cons hst
    obtain ⟨h2, hst⟩ := zst_cons hst
    exact lv_dup2_11 hx hb hd rfl (zEv_cat1 _ (fun _ q => by cases q)) (H ad Hp lsA locs cells slots hS hL (zst_mk h1 (zst_mk h2 (zst_mk h1 (zst_mk h2 hst)))))
  · exact H.elim
theorem zs_dupx {pc : Nat} {ls : zLv} {st : List zV} {h : zH} (hx : p.tables.exec = Jvm.exec) (hb : c.code = zB k) (hd : decode (zB k) pc = .ok (.dup_x1, 1)) (H : zo_dupx (zPp p l e R s m args below meth c Qf D dA A aC L xs N0 S0 M0 M1 k) pc ls st h) : zPp p l e R s m args below meth c Qf D dA A aC L xs N0 S0 M0 M1 k pc ls st h := by
  unfold zo_dupx at H
  split at H
  · intro ad Hp lsA locs cells slots hS hL hst
    obtain ⟨h1, hst⟩ := zst_cons hst
    obtain ⟨h2, hst⟩ := zst_cons hst
    exact lv_dup_x1 hx hb hd rfl (zEv_cat1 _ (fun _ q => by cases q)) (H ad Hp lsA locs cells slots hS hL (zst_mk h1 (zst_mk h2 (zst_mk h1 hst))))
  · intro ad Hp lsA locs cells slots hS hL hst
    obtain ⟨h1, hst⟩ := zst_cons hst
    obtain ⟨h2, hst⟩ := zst_cons hst
    exact lv_dup_x1 hx hb hd rfl rfl (H ad Hp lsA locs cells slots hS hL (zst_mk h1 (zst_mk h2 (zst_mk h1 hst))))
  · exact H.elim
theorem zs_pop {pc : Nat} {ls : zLv} {st : List zV} {h : zH} (hx : p.tables.exec = Jvm.exec) (hb : c.code = zB k) (hd : decode (zB k) pc = .ok (.pop, 1)) (H : zo_pop (zPp p l e R s m args below meth c Qf D dA A aC L xs N0 S0 M0 M1 k) pc ls st h) : zPp p l e R s m args below meth c Qf D dA A aC L xs N0 S0 M0 M1 k pc ls st h := by
  unfold zo_pop at H
  split at H
  · intro ad Hp lsA locs cells slots hS hL hst
    obtain ⟨h1, hst⟩ := zst_cons hst
    exact lv_pop hx hb hd rfl (H ad Hp lsA locs cells slots hS hL hst)
  · intro ad Hp lsA locs cells slots hS hL hst
    obtain ⟨h1, hst⟩ := zst_cons hst
    exact lv_pop hx hb hd (zEv_cat1 _ (fun _ q => by cases q)) (H ad Hp lsA locs cells slots hS hL hst)
  · exact H.elim
theorem zs_goto {pc t : Nat} {o : Int} {ls : zLv} {st : List zV} {h : zH} (hx : p.tables.exec = Jvm.exec) (hb : c.code = zB k) (hd : decode (zB k) pc = .ok (.goto o, 3)) (ht : (pc : Int) + o = (t : Int)) (H : zPp p l e R s m args below meth c Qf D dA A aC L xs N0 S0 M0 M1 k t ls st h) : zPp p l e R s m args below meth c Qf D dA A aC L xs N0 S0 M0 M1 k pc ls st h := by
  intro ad Hp lsA locs cells slots hS hL hst
  exact lv_goto hx hb hd ht (H ad Hp lsA locs cells slots hS hL hst)
theorem zs_c1 {cn : Jvm.ClassFile.Cond} {pc t : Nat} {o : Int} {ls : zLv} {st : List zV} {h : zH} (hx : p.tables.exec = Jvm.exec) (hb : c.code = zB k) (hd : decode (zB k) pc = .ok (.ifCond cn o, 3)) (ht : (pc : Int) + o = (t : Int)) (H : zo_c1 cn t (zPp p l e R s m args below meth c Qf D dA A aC L xs N0 S0 M0 M1 k) pc ls st h) : zPp p l e R s m args below meth c Qf D dA A aC L xs N0 S0 M0 M1 k pc ls st h := by
  unfold zo_c1 at H
  split at H
  · rename_i x r
    intro ad Hp lsA locs cells slots hS hL hst
    obtain ⟨h1, hst⟩ := zst_cons hst
    have go : ∀ {c1 : Prop} {pc1 : Nat}, (c1 → zPp p l e R s m args below meth c Qf D dA A aC L xs N0 S0 M0 M1 k pc1 ls r h) → c1 → W p l e R s m args below meth c Hp locs cells slots Qf (F0 m pc1 lsA (r.map (zEv ad))) := fun h q => h q ad Hp lsA locs cells slots hS hL hst
    cases cn
    · exact lv_if_eq hx hb hd ht (fun q => go H.1 ((zo_inj h1 zIn0).mp q)) (fun q => go H.2 (fun z => q ((zo_inj h1 zIn0).mpr z)))
    · exact lv_if_ne hx hb hd ht (fun q => go H.1 (fun z => q ((zo_inj h1 zIn0).mpr z))) (fun q => go H.2 (fun z => z ((zo_inj h1 zIn0).mp q)))
    · exact lv_if_lt hx hb hd ht (fun q => go H.1 ((zo_lt h1 zIn0).mp q)) (fun q => go H.2 (fun z => q ((zo_lt h1 zIn0).mpr z)))
    · exact lv_if_ge hx hb hd ht (fun q => go H.1 ((zo_le zIn0 h1).mp q)) (fun q => go H.2 (fun z => q ((zo_le zIn0 h1).mpr z)))
    · exact lv_if_gt hx hb hd ht (fun q => go H.1 ((zo_lt zIn0 h1).mp q)) (fun q => go H.2 (fun z => q ((zo_lt zIn0 h1).mpr z)))
    · exact lv_if_le hx hb hd ht (fun q => go H.1 ((zo_le h1 zIn0).mp q)) (fun q => go H.2 (fun z => q ((zo_le h1 zIn0).mpr z)))
  · exact H.elim
theorem zs_c2 {cn : Jvm.ClassFile.Cond} {pc t : Nat} {o : Int} {ls : zLv} {st : List zV} {h : zH} (hx : p.tables.exec = Jvm.exec) (hb : c.code = zB k) (hd : decode (zB k) pc = .ok (.if_icmp cn o, 3)) (ht : (pc : Int) + o = (t : Int)) (H : zo_c2 cn t (zPp p l e R s m args below meth c Qf D dA A aC L xs N0 S0 M0 M1 k) pc ls st h) : zPp p l e R s m args below meth c Qf D dA A aC L xs N0 S0 M0 M1 k pc ls st h := by
  unfold zo_c2 at H
  split at H
  · rename_i y x r
    intro ad Hp lsA locs cells slots hS hL hst
    obtain ⟨h2, hst⟩ := zst_cons hst
    obtain ⟨h1, hst⟩ := zst_cons hst
    have go : ∀ {c1 : Prop} {pc1 : Nat}, (c1 → zPp p l e R s m args below meth c Qf D dA A aC L xs N0 S0 M0 M1 k pc1 ls r h) → c1 → W p l e R s m args below meth c Hp locs cells slots Qf (F0 m pc1 lsA (r.map (zEv ad))) := fun h q => h q ad Hp lsA locs cells slots hS hL hst
    cases cn
    · exact lv_icmp_eq hx hb hd ht (fun q => go H.1 ((zo_inj h1 h2).mp q)) (fun q => go H.2 (fun z => q ((zo_inj h1 h2).mpr z)))
    · exact lv_icmp_ne hx hb hd ht (fun q => go H.1 (fun z => q ((zo_inj h1 h2).mpr z))) (fun q => go H.2 (fun z => z ((zo_inj h1 h2).mp q)))
    · exact lv_icmp_lt hx hb hd ht (fun q => go H.1 ((zo_lt h1 h2).mp q)) (fun q => go H.2 (fun z => q ((zo_lt h1 h2).mpr z)))
    · exact lv_icmp_ge hx hb hd ht (fun q => go H.1 ((zo_le h2 h1).mp q)) (fun q => go H.2 (fun z => q ((zo_le h2 h1).mpr z)))
    · exact lv_icmp_gt hx hb hd ht (fun q => go H.1 ((zo_lt h2 h1).mp q)) (fun q => go H.2 (fun z => q ((zo_lt h2 h1).mpr z)))
    · exact lv_icmp_le hx hb hd ht (fun q => go H.1 ((zo_le h1 h2).mp q)) (fun q => go H.2 (fun z => q ((zo_le h1 h2).mpr z)))
  · exact H.elim
theorem zs_li {i n pc : Nat} {ls : zLv} {st : List zV} {h : zH} (row : ∀ {x : Int32} {H : Heap} {lsA : Array Slot} {rest : List Value} {locs : List Loc} {cells slots : Nat}, lsA[i]? = some (.val (.int x)) → W p l e R s m args below meth c H locs cells slots Qf (F0 m (pc + n) lsA (.int x :: rest)) → W p l e R s m args below meth c H locs cells slots Qf (F0 m pc lsA rest)) (H : zo_li i n (zPp p l e R s m args below meth c Qf D dA A aC L xs N0 S0 M0 M1 k) pc ls st h) : zPp p l e R s m args below meth c Qf D dA A aC L xs N0 S0 M0 M1 k pc ls st h := by
  unfold zo_li at H
  split at H
  · rename_i x hv
    intro ad Hp lsA locs cells slots hS hL hst
    exact row (hL.at hv) (H ad Hp lsA locs cells slots hS hL (zst_mk (hL.2.2 _ _ hv).1 hst))
  · exact H.elim
theorem zs_ll {i n pc : Nat} {ls : zLv} {st : List zV} {h : zH} (row : ∀ {x : Int64} {H : Heap} {lsA : Array Slot} {rest : List Value} {locs : List Loc} {cells slots : Nat}, lsA[i]? = some (.val (.long x)) → W p l e R s m args below meth c H locs cells slots Qf (F0 m (pc + n) lsA (.long x :: rest)) → W p l e R s m args below meth c H locs cells slots Qf (F0 m pc lsA rest)) (H : zo_ll i n (zPp p l e R s m args below meth c Qf D dA A aC L xs N0 S0 M0 M1 k) pc ls st h) : zPp p l e R s m args below meth c Qf D dA A aC L xs N0 S0 M0 M1 k pc ls st h := by
  unfold zo_ll at H
  split at H
  · rename_i x hv
    intro ad Hp lsA locs cells slots hS hL hst
    exact row (hL.at hv) (H ad Hp lsA locs cells slots hS hL (zst_mk (hL.2.2 _ _ hv).1 hst))
  · exact H.elim
theorem zs_lr {i n pc : Nat} {ls : zLv} {st : List zV} {h : zH} (row : ∀ {x : Nat} {H : Heap} {lsA : Array Slot} {rest : List Value} {locs : List Loc} {cells slots : Nat}, lsA[i]? = some (.val (.ref x)) → W p l e R s m args below meth c H locs cells slots Qf (F0 m (pc + n) lsA (.ref x :: rest)) → W p l e R s m args below meth c H locs cells slots Qf (F0 m pc lsA rest)) (H : zo_lr i n (zPp p l e R s m args below meth c Qf D dA A aC L xs N0 S0 M0 M1 k) pc ls st h) : zPp p l e R s m args below meth c Qf D dA A aC L xs N0 S0 M0 M1 k pc ls st h := by
  unfold zo_lr at H
  split at H
  · rename_i x hv
    intro ad Hp lsA locs cells slots hS hL hst
    exact row (x := ad x) (hL.at hv) (H ad Hp lsA locs cells slots hS hL (zst_mk (hL.2.2 _ _ hv).1 hst))
  · exact H.elim
theorem zs_si {i n pc : Nat} {ls : zLv} {st : List zV} {h : zH} (hi : i < zL k) (row : ∀ {x : Int32} {H : Heap} {lsA : Array Slot} {rest : List Value} {locs : List Loc} {cells slots : Nat} {lv : List (Nat × Value)}, lv_has lsA (zL k) lv → i < zL k → (∀ ls', lv_has ls' (zL k) ((i, Value.int x) :: lv.filter (fun q => !(q.1 == i) && !(q.1 + 1 == i && q.2.category == 2))) → W p l e R s m args below meth c H locs cells slots Qf (F0 m (pc + n) ls' rest)) → W p l e R s m args below meth c H locs cells slots Qf (F0 m pc lsA (.int x :: rest))) (H : zo_si i n (zPp p l e R s m args below meth c Qf D dA A aC L xs N0 S0 M0 M1 k) pc ls st h) : zPp p l e R s m args below meth c Qf D dA A aC L xs N0 S0 M0 M1 k pc ls st h := by
  unfold zo_si at H
  split at H
  · rename_i x r
    split at H
    · exact H.elim
    · rename_i hg
      intro ad Hp lsA locs cells slots hS hL hst
      obtain ⟨h1, hst⟩ := zst_cons hst
      exact row hL.list hi (fun ls' h' => H ad Hp ls' locs cells slots hS (hL.st1 (v := .inl x) hg h1 h') hst)
  · exact H.elim
theorem zs_sr {i n pc : Nat} {ls : zLv} {st : List zV} {h : zH} (hi : i < zL k) (row : ∀ {x : Nat} {H : Heap} {lsA : Array Slot} {rest : List Value} {locs : List Loc} {cells slots : Nat} {lv : List (Nat × Value)}, lv_has lsA (zL k) lv → i < zL k → (∀ ls', lv_has ls' (zL k) ((i, Value.ref x) :: lv.filter (fun q => !(q.1 == i) && !(q.1 + 1 == i && q.2.category == 2))) → W p l e R s m args below meth c H locs cells slots Qf (F0 m (pc + n) ls' rest)) → W p l e R s m args below meth c H locs cells slots Qf (F0 m pc lsA (.ref x :: rest))) (H : zo_sr i n (zPp p l e R s m args below meth c Qf D dA A aC L xs N0 S0 M0 M1 k) pc ls st h) : zPp p l e R s m args below meth c Qf D dA A aC L xs N0 S0 M0 M1 k pc ls st h := by
  unfold zo_sr at H
  split at H
  · rename_i x r
    split at H
    · exact H.elim
    · rename_i hg
      intro ad Hp lsA locs cells slots hS hL hst
      obtain ⟨h1, hst⟩ := zst_cons hst
      exact row (x := ad x) hL.list hi (fun ls' h' => H ad Hp ls' locs cells slots hS (hL.st1 (v := .inr (.inr (some x))) hg h1 h') hst)
  · exact H.elim
theorem zs_sl {i n pc : Nat} {ls : zLv} {st : List zV} {h : zH} (hi : i + 1 < zL k) (row : ∀ {x : Int64} {H : Heap} {lsA : Array Slot} {rest : List Value} {locs : List Loc} {cells slots : Nat} {lv : List (Nat × Value)}, lv_has lsA (zL k) lv → i + 1 < zL k → (∀ ls', lv_has ls' (zL k) ((i, Value.long x) :: lv.filter (fun q => !(q.1 == i) && (!(q.1 == i + 1) && !(q.1 + 1 == i && q.2.category == 2)))) → W p l e R s m args below meth c H locs cells slots Qf (F0 m (pc + n) ls' rest)) → W p l e R s m args below meth c H locs cells slots Qf (F0 m pc lsA (.long x :: rest))) (H : zo_sl i n (zPp p l e R s m args below meth c Qf D dA A aC L xs N0 S0 M0 M1 k) pc ls st h) : zPp p l e R s m args below meth c Qf D dA A aC L xs N0 S0 M0 M1 k pc ls st h := by
  unfold zo_sl at H
  split at H
  · rename_i x r
    split at H
    · exact H.elim
    · rename_i hg
      intro ad Hp lsA locs cells slots hS hL hst
      obtain ⟨h1, hst⟩ := zst_cons hst
      exact row hL.list hi (fun ls' h' => H ad Hp ls' locs cells slots hS (hL.st2 hg h1 h') hst)
  · exact H.elim
theorem zs_inc {i pc : Nat} {d : Int} {ls : zLv} {st : List zV} {h : zH} (hx : p.tables.exec = Jvm.exec) (hb : c.code = zB k) (hd : decode (zB k) pc = .ok (.iinc i d, 3)) (hi : i < zL k) (H : zo_inc i d (zPp p l e R s m args below meth c Qf D dA A aC L xs N0 S0 M0 M1 k) pc ls st h) : zPp p l e R s m args below meth c Qf D dA A aC L xs N0 S0 M0 M1 k pc ls st h := by
  unfold zo_inc at H
  split at H
  · rename_i x hv
    split at H
    · exact H.elim
    · rename_i hg
      intro ad Hp lsA locs cells slots hS hL hst
      obtain ⟨j, hj⟩ := List.getElem?_of_mem (List.mem_filterMap.mpr ⟨i, List.mem_range.mpr (zgt_lt hv), by rw [hv]; rfl⟩ : (i, zEv ad (.inl x)) ∈ (List.range ls.length).filterMap (fun i => (zgt none ls i).map (fun v => (i, zEv ad v))))
      exact lv_iinc hx hb hd hL.list (k := j) hj (v := zo (zwr (x + d))) (zo_add x d).symm hi rfl (fun ls' h' => H ad Hp ls' locs cells slots hS (hL.st1 (v := .inl _) hg (zwr_in _) h') hst)
  · exact H.elim
theorem zsw_out {x : Int} {d : Nat} {K : Nat → Prop} : ∀ {l : List (Int × Nat)}, zsw x d K l → (∃ (i t : Nat), l[i]? = some (x, t) ∧ K t ∧ ∀ (j : Nat) (q : Int × Nat), j < i → l[j]? = some q → q.1 ≠ x) ∨ ((∀ q ∈ l, q.1 ≠ x) ∧ K d)
  | [], h => Or.inr ⟨fun _ q => absurd q (by simp), h⟩
  | (a, t) :: l, h => by
    by_cases e : x = a
    · exact Or.inl ⟨0, t, by rw [e]; rfl, h.1 e, fun j q hj => absurd hj (Nat.not_lt_zero j)⟩
    · rcases zsw_out (h.2 e) with ⟨i, u, h1, h2, h3⟩ | ⟨h1, h2⟩
      · refine Or.inl ⟨i + 1, u, h1, h2, fun j q hj hq => ?_⟩
        cases j with
        | zero => cases hq; exact fun z => e z.symm
        | succ j => exact h3 j q (by omega) hq
      · exact Or.inr ⟨fun q hq => by rcases List.mem_cons.mp hq with rfl | hq; exact fun z => e z.symm; exact h1 q hq, h2⟩
theorem zswT_at {pc : Nat} : ∀ {os : List Int} {l : List (Int × Nat)} {lo : Int}, zswT pc lo os l = true → l.length = os.length ∧ ∀ (i : Nat) (q : Int × Nat), l[i]? = some q → q.1 = lo + i ∧ ∃ o, os[i]? = some o ∧ (pc : Int) + o = (q.2 : Int)
  | [], [], lo, _ => ⟨rfl, fun i q h => by simp at h⟩
  | o :: os, (a, t) :: l, lo, h => by
    simp only [zswT, Bool.and_eq_true, decide_eq_true_eq] at h
    obtain ⟨h1, h2, h3⟩ := h
    obtain ⟨g1, g2⟩ := zswT_at h3
    refine ⟨by simp [g1], fun i q hq => ?_⟩
    cases i with
    | zero => cases hq; exact ⟨by show a = _; omega, o, rfl, h2⟩
    | succ i =>
      obtain ⟨e1, o', e2, e3⟩ := g2 i q hq
      exact ⟨by rw [e1]; omega, o', e2, e3⟩
  | [], _ :: _, _, h => by simp [zswT] at h
  | _ :: _, [], _, h => by simp [zswT] at h
theorem zs_tsw {pc t len : Nat} {d lo hi : Int} {offs : Array Int} {lz : List (Int × Nat)} {ls : zLv} {st : List zV} {h : zH} (hx : p.tables.exec = Jvm.exec) (hb : c.code = zB k) (hd : decode (zB k) pc = .ok (.tableswitch d lo hi offs, len)) (ht : (pc : Int) + d = (t : Int)) (hhi : hi = lo + (offs.toList.length : Int) - 1) (hz : zswT pc lo offs.toList lz = true) (H : zo_sw t lz (zPp p l e R s m args below meth c Qf D dA A aC L xs N0 S0 M0 M1 k) ls st h) : zPp p l e R s m args below meth c Qf D dA A aC L xs N0 S0 M0 M1 k pc ls st h := by
  unfold zo_sw at H
  split at H
  · rename_i x r
    intro ad Hp lsA locs cells slots hS hL hst
    obtain ⟨h1, hst⟩ := zst_cons hst
    obtain ⟨g1, g2⟩ := zswT_at hz
    rcases zsw_out H with ⟨i, u, a1, a2, -⟩ | ⟨a1, a2⟩
    · obtain ⟨b1, o, b2, b3⟩ := g2 i _ a1
      have b1 : x = lo + i := b1
      have hil : i < offs.toList.length := (List.getElem?_eq_some_iff.mp b2).1
      refine lv_tableIn hx hb hd (by rw [zto h1]; omega) (by rw [zto h1]; omega) (off := o) (tgt := u) (by rw [zto h1, show (x - lo).toNat = i by omega, ← Array.getElem?_toList]; exact b2) b3 (a2 ad Hp lsA locs cells slots hS hL hst)
    · refine lv_tableOut hx hb hd ?_ ht (a2 ad Hp lsA locs cells slots hS hL hst)
      rw [zto h1]
      by_cases q1 : x < lo
      · exact Or.inl q1
      · refine Or.inr ?_
        apply Int.not_le.mp
        intro q2
        have hlt : (x - lo).toNat < lz.length := by omega
        have hg : lz[(x - lo).toNat]? = some lz[(x - lo).toNat] := List.getElem?_eq_getElem hlt
        have e1 := (g2 _ _ hg).1
        exact a1 _ (List.mem_of_getElem? hg) (by rw [e1]; omega)
  · exact H.elim
theorem zswL_off {pc t : Nat} {d x : Int} {K : Nat → Prop} (hd : (pc : Int) + d = (t : Int)) : ∀ {ps : List (Int × Int)} {l : List (Int × Nat)}, zswL pc ps l = true → zsw x t K l → ∃ u : Nat, (pc : Int) + Op.lookupswitch.offset ps d x = (u : Int) ∧ K u
  | [], [], _, h => ⟨t, hd, h⟩
  | (a, o) :: ps, (b, u) :: l, hz, h => by
    simp only [zswL, Bool.and_eq_true, decide_eq_true_eq] at hz
    obtain ⟨h1, h2, h3⟩ := hz
    subst h1
    rw [Op.lookupswitch.offset_cons]
    by_cases e : x = b
    · rw [if_pos e.symm]
      exact ⟨u, h2, h.1 e⟩
    · rw [if_neg (fun q => e q.symm)]
      exact zswL_off hd h3 (h.2 e)
  | [], _ :: _, hz, _ => by simp [zswL] at hz
  | _ :: _, [], hz, _ => by simp [zswL] at hz
theorem zs_lsw {pc t len : Nat} {d : Int} {ps : Array (Int × Int)} {lz : List (Int × Nat)} {ls : zLv} {st : List zV} {h : zH} (hx : p.tables.exec = Jvm.exec) (hb : c.code = zB k) (hd : decode (zB k) pc = .ok (.lookupswitch d ps, len)) (ht : (pc : Int) + d = (t : Int)) (hso : (ps.toList.zip (ps.toList.drop 1)).all (fun (a, next) => a.1 < next.1) = true) (hz : zswL pc ps.toList lz = true) (H : zo_sw t lz (zPp p l e R s m args below meth c Qf D dA A aC L xs N0 S0 M0 M1 k) ls st h) : zPp p l e R s m args below meth c Qf D dA A aC L xs N0 S0 M0 M1 k pc ls st h := by
  unfold zo_sw at H
  split at H
  · rename_i x r
    intro ad Hp lsA locs cells slots hS hL hst
    obtain ⟨h1, hst⟩ := zst_cons hst
    obtain ⟨u, a1, a2⟩ := zswL_off ht hz H
    exact lv_lookup hx hb hd hso (off := Op.lookupswitch.offset ps.toList d x) (by rw [zto h1]) a1 (a2 ad Hp lsA locs cells slots hS hL hst)
  · exact H.elim
end
