/-! every step is the machine's; written out of wip/whole/15.src -/
def zRk (i : Instr) (v : Option zV) (ty : Option FieldType) : Prop :=
  (i = .ireturn ∧ ∃ x, v = some (.inl x) ∧ (ty = some .int ∨ (ty = some .boolean ∧ (x = 0 ∨ x = 1)))) ∨ (i = .lreturn ∧ (∃ x, v = some (.inr (.inl x))) ∧ ty = some .long) ∨ (i = .areturn ∧ (∃ x, v = some (.inr (.inr (some x)))) ∧ ∃ n, ty = some (.object n)) ∨ (i = .return_ ∧ v = none ∧ ty = none)
section
variable {p : Program} {l : Launch} {e : Env} {R : Room} {s : State} {m : MethodId} {args : Array Value} {below : List Frame} {meth : Method} {c : Code} {Qf : State → Prop} {D : va_G} {dA : Nat → ClassId} {A : Nat → Prop} {aC aV : Nat → Nat} {L : Nat} {xs : Nat → Int32} {N0 S0 M0 M1 k : Nat}
theorem zb2 {a b : Bool} (h : (a && b) = true) : a = true ∧ b = true := by simpa using h
theorem zct {α : Type} [BEq α] [LawfulBEq α] {l : List α} {a : α} (h : l.contains a = true) : a ∈ l := by simpa using h
theorem zdw_d {k pc : Nat} {i : Instr} (h : zdw k pc i = true) : ∃ n, decode (zB k) pc = .ok (i, n) := by
  unfold zdw at h
  split at h
  · rename_i q hq
    obtain ⟨q1, q2⟩ := q
    have := of_decide_eq_true h
    exact ⟨q2, by rw [hq]; exact congrArg (fun z => Except.ok (z, q2)) this⟩
  · cases h
theorem zs_mm {f : Int → Int → Int} {g : Int32 → Int32 → Int32} (hf : ∀ x y, zIn x → zIn y → zIn (f x y) ∧ zo (f x y) = g (zo x) (zo y)) {pc : Nat} (row : ∀ {x y : Int32} {H : Heap} {lsA : Array Slot} {rest : List Value} {locs : List Loc} {cells slots : Nat}, lsA.size = zL k → (rest.map fun v => v.category).sum ≤ 8 → cells ≤ R.cells → slots ≤ R.slots → W p l e R s m args below meth c H locs cells slots Qf (F0 m (pc + 3) lsA (.int (g x y) :: rest)) → W p l e R s m args below meth c H locs cells slots Qf (F0 m pc lsA (.int y :: .int x :: rest))) {ls : zLv} {st : List zV} {h : zH} (H : zo_mm f (zPp p l e R s m args below meth c Qf D dA A aC L xs N0 S0 M0 M1 k) pc ls st h) : zPp p l e R s m args below meth c Qf D dA A aC L xs N0 S0 M0 M1 k pc ls st h := by
  unfold zo_mm at H
  split at H
  · rename_i y x r
    intro ad Hp lsA locs cells slots hS hL hst
    obtain ⟨hy, hst1⟩ := zst_cons hst
    obtain ⟨hx, hr⟩ := zst_cons hst1
    obtain ⟨f1, f2⟩ := hf x y hx hy
    have s7 := hS.2.2.2.2.2.2.1
    refine row hL.1 (by rw [zcs_sum]; exact H.1) s7.1 s7.2 ?_
    have := H.2 ad Hp lsA locs cells slots hS hL (zst_mk f1 hr)
    rw [show (.inl (f x y) :: r : List zV).map (zEv ad) = .int (zo (f x y)) :: r.map (zEv ad) from rfl, f2] at this
    exact this
  · exact H.elim
theorem zm_is {C : zCt} {B : Nat × Nat} {Q : zQ} {K : zK} {i a b : Nat} {lz : List (Int × Nat)} {pc : Nat} {ls : zLv} {st : List zV} {h : zH} (ha : a ≠ 1000) (ha4 : a ≠ 1004) (ha5 : a ≠ 1005) : zstep C B Q K (.invokestatic i, a, b, lz) pc ls st h = zo_stat C B a b K pc ls st h ∧ zokB k pc (.invokestatic i, a, b, lz) = (zdc k pc (.invokestatic i) 3 && (zpn a b && (zST.contains (zO k, i, a, b) || zSN.contains (zO k, i, a, b)))) := by
  unfold zstep zokB
  dsimp only
  constructor
  · revert ha ha4 ha5
    split
    · exact fun h _ _ => absurd rfl h
    · exact fun _ h _ => absurd rfl h
    · exact fun _ _ h => absurd rfl h
    · exact fun _ _ _ => rfl
  · revert ha ha4 ha5
    split
    · exact fun h _ _ => absurd rfl h
    · exact fun _ h _ => absurd rfl h
    · exact fun _ _ h => absurd rfl h
    · exact fun _ _ _ => rfl
theorem zm_sp {C : zCt} {B : Nat × Nat} {Q : zQ} {K : zK} {i a b : Nat} {lz : List (Int × Nat)} {pc : Nat} {ls : zLv} {st : List zV} {h : zH} (ha : a ≠ 1003) : zstep C B Q K (.invokespecial i, a, b, lz) pc ls st h = zo_spec C B a b K pc ls st h ∧ zokB k pc (.invokespecial i, a, b, lz) = (zdc k pc (.invokespecial i) 3 && (zpn a b && (((zIT.contains (zO k, i, a, b) || zIN.contains (zO k, i, a, b)) && (decide ((zY a).name = "<init>") && decide (zTr a = none))) || (zUT.contains (zO k, i, a, b) && decide ((zY a).name ≠ "<init>"))))) := by
  unfold zstep zokB
  dsimp only
  constructor
  · revert ha
    split
    · exact fun h => absurd rfl h
    · exact fun _ => rfl
  · revert ha
    split
    · exact fun h => absurd rfl h
    · exact fun _ => rfl
theorem zm_vi {C : zCt} {B : Nat × Nat} {Q : zQ} {K : zK} {i a b : Nat} {lz : List (Int × Nat)} {pc : Nat} {ls : zLv} {st : List zV} {h : zH} (ha : a ≠ 1001) (ha2 : a ≠ 1002) : zstep C B Q K (.invokevirtual i, a, b, lz) pc ls st h = zo_virt C B lz b K pc ls st h ∧ zokB k pc (.invokevirtual i, a, b, lz) = (zdc k pc (.invokevirtual i) 3 && lz.all (zokV k i b)) := by
  unfold zstep zokB
  dsimp only
  constructor
  · revert ha ha2
    split
    · exact fun h _ => absurd rfl h
    · exact fun _ h => absurd rfl h
    · exact fun _ _ => rfl
  · revert ha ha2
    split
    · exact fun h _ => absurd rfl h
    · exact fun _ h => absurd rfl h
    · exact fun _ _ => rfl
set_option maxHeartbeats 4000000 in
theorem zstep_snd {C : zCt} {B : Nat × Nat} {Q : zQ} (hk : k < 206) (hx : p.tables.exec = Jvm.exec) (hb : c.code = zB k) (hml : c.maxLocals = zL k) (hts : ∀ w ∈ zGL, w.before args s = true) (hown : s.vm.findClass (zR (zO k)) = some m.cls) (hnm : (zY k).name = "<init>" → meth.name = "<init>") (hA : ∀ q, s.heap.size ≤ q → A q) (hG : zGb D dA A aC aV L xs s s.heap) (hB : B.1 + M0 ≤ N0 + R.cells ∧ B.2 + M1 ≤ S0 + R.slots) (hR : 5 ≤ R.frames ∧ 300 ≤ R.locals) (hLL : L ≤ 3072) (hC : zHC l R D dA aC aV L xs C)
    (hret : ∀ (ad : Nat → Nat) (h : zH) (H : Heap) (lsA : Array Slot) (locs : List Loc) (cells slots pc : Nat) (v : Option zV) (i : Instr), zSt D dA A aC L xs s N0 S0 M0 M1 R ad h H locs cells slots → Q v h → (∀ w, v = some w → zVd h.1.1 w) → decode (zB k) pc = .ok (i, 1) → zRk i v (zTr k) → W p l e R s m args below meth c H locs cells slots Qf (F0 m pc lsA (v.map (zEv ad)).toList))
    {pc : Nat} {ls : zLv} {st : List zV} {h : zH} (H : zstep C B Q (zPp p l e R s m args below meth c Qf D dA A aC L xs N0 S0 M0 M1 k) (zF k pc) pc ls st h) : zPp p l e R s m args below meth c Qf D dA A aC L xs N0 S0 M0 M1 k pc ls st h := by
  have hok := zok_all hk pc
  revert H hok
  generalize zF k pc = en
  obtain ⟨i, a, b, lz⟩ := en
  intro H hok
  have hK := hG.1
  obtain ⟨hX, hbl, hbA, -⟩ := hG.2.2.2.2.2.2
  cases i with
  | iconst n =>
    obtain ⟨hd, hn⟩ := zb2 hok
    have hn := of_decide_eq_true hn
    exact zs_push (v := .inl n) (by show zIn n; omega) (fun _ kk => lv_iconst hx hb (zdc_d hd) rfl kk) H
  | bipush n =>
    obtain ⟨hd, hn⟩ := zb2 hok
    have hn := of_decide_eq_true hn
    exact zs_push (v := .inl n) (by show zIn n; omega) (fun _ kk => lv_bipush hx hb (zdc_d hd) (Int8.toInt32_ofInt (by have : Int8.minValue.toInt = -128 := by decide
                                                                                                                       omega) (by have : Int8.maxValue.toInt = 127 := by decide
                                                                                                                                  omega)) kk) H
  | sipush n =>
    obtain ⟨hd, hn⟩ := zb2 hok
    have hn := of_decide_eq_true hn
    exact zs_push (v := .inl n) (by show zIn n; omega) (fun _ kk => lv_sipush hx hb (zdc_d hd) (Int16.toInt32_ofInt (by have : Int16.minValue.toInt = -32768 := by decide
                                                                                                                        omega) (by have : Int16.maxValue.toInt = 32767 := by decide
                                                                                                                                   omega)) kk) H
  | lconst n =>
    exact zs_push (v := .inr (.inl (n.val : Nat))) (by show zIm _; have := n.isLt; omega) (fun _ kk => lv_lconst hx hb (zdc_d hok) (Int64.ofInt_eq_ofNat).symm kk) H
  | ldc i =>
    obtain ⟨hd, hn⟩ := zb2 hok
    cases a with
    | zero =>
      have hm := zct hn
      exact zs_push (v := .inl (zhd lz)) (zKTr _ hm) (fun _ kk => lv_ldc hx hb hown (hts _ (zKT_ok _ hm)) (zdc_d hd) kk) H
    | succ a =>
      have hm := zct hn
      obtain ⟨g1, g2⟩ := zGTs _ hm
      refine zs_push (v := .inr (.inr (some (1000 + b)))) (fun y hy => by cases hy; exact Or.inr (Nat.le_add_right _ _)) (fun hc kk => ?_) H
      have hz := hG.2.2.2.2.1 b g1
      rw [← g2] at hz
      refine va_ldcS (q := aC (1000 + b)) hx hb hown hz (zdc_d hd) ?_
      rw [← hc _ (Nat.le_add_right _ _)]
      exact kk
  | ldc_w i =>
    obtain ⟨hd, hn⟩ := zb2 hok
    have hm := zct hn
    exact zs_push (v := .inl (zhd lz)) (zKTr _ hm) (fun _ kk => lv_ldcw hx hb hown (hts _ (zKT_ok _ hm)) (zdc_d hd) kk) H
  | ldc2_w i =>
    obtain ⟨hd, hn⟩ := zb2 hok
    have hm := zct hn
    exact zs_push (v := .inr (.inl (zhd lz))) (zLTr _ hm) (fun _ kk => lv_ldc2 hx hb hown (hts _ (zLT_ok _ hm)) (zdc_d hd) kk) H
  | iload_n f =>
    obtain ⟨hd, hn⟩ := zb2 hok
    exact zs_li (fun hl kk => lv_iload_n hx hb (zdc_d hd) (of_decide_eq_true hn) hl kk) H
  | iload f =>
    obtain ⟨hd, hn⟩ := zb2 hok
    have hn := of_decide_eq_true hn
    subst hn
    exact zs_li (fun hl kk => lv_iload hx hb (zdc_d hd) hl kk) H
  | lload_n f =>
    obtain ⟨hd, hn⟩ := zb2 hok
    exact zs_ll (fun hl kk => lv_lload_n hx hb (zdc_d hd) (of_decide_eq_true hn) hl kk) H
  | lload f =>
    obtain ⟨hd, hn⟩ := zb2 hok
    have hn := of_decide_eq_true hn
    subst hn
    exact zs_ll (fun hl kk => lv_lload hx hb (zdc_d hd) hl kk) H
  | aload_n f =>
    obtain ⟨hd, hn⟩ := zb2 hok
    exact zs_lr (fun hl kk => lv_aload_n hx hb (zdc_d hd) (of_decide_eq_true hn) hl kk) H
  | aload f =>
    obtain ⟨hd, hn⟩ := zb2 hok
    have hn := of_decide_eq_true hn
    subst hn
    exact zs_lr (fun hl kk => lv_aload hx hb (zdc_d hd) hl kk) H
  | istore_n f =>
    obtain ⟨hd, hn⟩ := zb2 hok
    obtain ⟨hn, hi⟩ := zb2 hn
    exact zs_si (of_decide_eq_true hi) (fun hl hi kk => lv_istore_n hx hb (zdc_d hd) (of_decide_eq_true hn) hl hi rfl kk) H
  | istore f =>
    obtain ⟨hd, hn⟩ := zb2 hok
    obtain ⟨hn, hi⟩ := zb2 hn
    have hn := of_decide_eq_true hn
    subst hn
    exact zs_si (of_decide_eq_true hi) (fun hl hi kk => lv_istore hx hb (zdc_d hd) hl hi rfl kk) H
  | lstore_n f =>
    obtain ⟨hd, hn⟩ := zb2 hok
    obtain ⟨hn, hi⟩ := zb2 hn
    exact zs_sl (of_decide_eq_true hi) (fun hl hi kk => lv_lstore_n hx hb (zdc_d hd) (of_decide_eq_true hn) hl hi rfl kk) H
  | lstore f =>
    obtain ⟨hd, hn⟩ := zb2 hok
    obtain ⟨hn, hi⟩ := zb2 hn
    have hn := of_decide_eq_true hn
    subst hn
    exact zs_sl (of_decide_eq_true hi) (fun hl hi kk => lv_lstore hx hb (zdc_d hd) hl hi rfl kk) H
  | astore_n f =>
    obtain ⟨hd, hn⟩ := zb2 hok
    obtain ⟨hn, hi⟩ := zb2 hn
    exact zs_sr (of_decide_eq_true hi) (fun hl hi kk => lv_astore_n hx hb (zdc_d hd) (of_decide_eq_true hn) hl hi rfl kk) H
  | astore f =>
    obtain ⟨hd, hn⟩ := zb2 hok
    obtain ⟨hn, hi⟩ := zb2 hn
    have hn := of_decide_eq_true hn
    subst hn
    exact zs_sr (of_decide_eq_true hi) (fun hl hi kk => lv_astore hx hb (zdc_d hd) hl hi rfl kk) H
  | iinc f d =>
    obtain ⟨hd, hn⟩ := zb2 hok
    obtain ⟨hn, hi⟩ := zb2 hn
    have hn := of_decide_eq_true hn
    subst hn
    exact zs_inc hx hb (zdc_d hd) (of_decide_eq_true hi) H
  | iadd => exact zs_i2 (fun x y _ _ => ⟨zwr_in _, zo_add x y⟩) (fun kk => lv_iadd hx hb (zdc_d hok) kk) H
  | isub => exact zs_i2 (fun x y _ _ => ⟨zwr_in _, zo_sub x y⟩) (fun kk => lv_isub hx hb (zdc_d hok) kk) H
  | imul => exact zs_i2 (fun x y _ _ => ⟨zwr_in _, zo_mul x y⟩) (fun kk => lv_imul hx hb (zdc_d hok) kk) H
  | idiv => exact zs_i2n (fun x y h1 h2 => ⟨zwr_in _, zo_div h1 h2⟩) (fun hne kk => lv_idiv hx hb (zdc_d hok) hne kk) H
  | irem => exact zs_i2n (g := fun x y => x - x / y * y) (fun x y h1 h2 => ⟨zwr_in _, zo_rem h1 h2⟩) (fun hne kk => lv_irem hx hb (zdc_d hok) hne kk) H
  | ineg => exact zs_i1 (fun x _ => ⟨zwr_in _, zo_neg x⟩) (fun kk => lv_ineg hx hb (zdc_d hok) kk) H
  | iand => exact zs_i2 (fun x y _ _ => ⟨ztI _, zoI _⟩) (fun kk => lv_iand hx hb (zdc_d hok) kk) H
  | ior => exact zs_i2 (fun x y _ _ => ⟨ztI _, zoI _⟩) (fun kk => lv_ior hx hb (zdc_d hok) kk) H
  | ixor => exact zs_i2 (fun x y _ _ => ⟨ztI _, zoI _⟩) (fun kk => lv_ixor hx hb (zdc_d hok) kk) H
  | ishl => exact zs_i2 (g := fun x y => x <<< (y &&& 31)) (fun x y _ _ => ⟨ztI _, zoI _⟩) (fun kk => lv_ishl hx hb (zdc_d hok) kk) H
  | ishr => exact zs_i2 (g := fun x y => x >>> (y &&& 31)) (fun x y _ _ => ⟨ztI _, zoI _⟩) (fun kk => lv_ishr hx hb (zdc_d hok) kk) H
  | iushr => exact zs_i2 (g := fun x y => (x.toUInt32 >>> (y.toUInt32 &&& Int32.toUInt32 31)).toInt32) (fun x y _ _ => ⟨ztI _, zoI _⟩) (fun kk => lv_iushr hx hb (zdc_d hok) rfl kk) H
  | i2b => exact zs_i1 (g := fun x => x.toInt8.toInt32) (fun x _ => ⟨ztI _, zoI _⟩) (fun kk => lv_i2b hx hb (zdc_d hok) rfl kk) H
  | i2s => exact zs_i1 (g := fun x => x.toInt16.toInt32) (fun x _ => ⟨ztI _, zoI _⟩) (fun kk => lv_i2s hx hb (zdc_d hok) rfl kk) H
  | i2l => exact zs_i2l hx hb (zdc_d hok) H
  | l2i => exact zs_l2i hx hb (zdc_d hok) H
  | ladd => exact zs_l2 (fun x y _ _ => ⟨zwl_in _, zp_add x y⟩) (fun kk => lv_ladd hx hb (zdc_d hok) kk) H
  | lsub => exact zs_l2 (fun x y _ _ => ⟨zwl_in _, zp_sub x y⟩) (fun kk => lv_lsub hx hb (zdc_d hok) kk) H
  | lmul => exact zs_l2 (fun x y _ _ => ⟨zwl_in _, zp_mul x y⟩) (fun kk => lv_lmul hx hb (zdc_d hok) kk) H
  | ldiv => exact zs_l2n (fun x y h1 h2 => ⟨zwl_in _, zp_div h1 h2⟩) (fun hne kk => lv_ldiv hx hb (zdc_d hok) hne kk) H
  | lrem => exact zs_l2n (g := fun x y => x - x / y * y) (fun x y h1 h2 => ⟨zwl_in _, zp_rem h1 h2⟩) (fun hne kk => lv_lrem hx hb (zdc_d hok) hne kk) H
  | lcmp => exact zs_lcmp hx hb (zdc_d hok) H
  | dup => exact zs_dup hx hb (zdc_d hok) H
  | dup2 => exact zs_dup2 hx hb (zdc_d hok) H
  | dup_x1 => exact zs_dupx hx hb (zdc_d hok) H
  | pop => exact zs_pop hx hb (zdc_d hok) H
  | ifCond cn d =>
    obtain ⟨hd, hn⟩ := zb2 hok
    exact zs_c1 hx hb (zdc_d hd) (of_decide_eq_true hn) H
  | if_icmp cn d =>
    obtain ⟨hd, hn⟩ := zb2 hok
    exact zs_c2 hx hb (zdc_d hd) (of_decide_eq_true hn) H
  | goto d =>
    obtain ⟨hd, hn⟩ := zb2 hok
    exact zs_goto hx hb (zdc_d hd) (of_decide_eq_true hn) H
  | tableswitch d lo hi offs =>
    obtain ⟨hd, hn⟩ := zb2 hok
    obtain ⟨hn, h3⟩ := zb2 hn
    obtain ⟨h3, h4⟩ := zb2 h3
    obtain ⟨n, hd⟩ := zdw_d hd
    exact zs_tsw hx hb hd (of_decide_eq_true hn) (of_decide_eq_true h3) h4 H
  | lookupswitch d ps =>
    obtain ⟨hd, hn⟩ := zb2 hok
    obtain ⟨hn, h3⟩ := zb2 hn
    obtain ⟨h3, h4⟩ := zb2 h3
    obtain ⟨n, hd⟩ := zdw_d hd
    exact zs_lsw hx hb hd (of_decide_eq_true hn) h3 h4 H
  | getfield i =>
    obtain ⟨hd, hn⟩ := zb2 hok
    obtain ⟨hn, h3⟩ := zb2 hn
    obtain ⟨h3, h4⟩ := zb2 h3
    exact zs_gf hx hb hts hown hK (zdc_d hd) (zct hn) (of_decide_eq_true h3) (of_decide_eq_true h4) H
  | putfield i =>
    obtain ⟨hd, hn⟩ := zb2 hok
    obtain ⟨hn, h3⟩ := zb2 hn
    obtain ⟨h3, h4⟩ := zb2 h3
    obtain ⟨h4, h5⟩ := zb2 h4
    refine zs_pf hx hb hts hown hK hnm (zdc_d hd) (zct hn) (of_decide_eq_true h3) (of_decide_eq_true h4) ?_ H
    rcases Bool.or_eq_true_iff.mp h5 with q | q
    · exact Or.inl (by simpa using q)
    · obtain ⟨q1, q2⟩ := zb2 q
      exact Or.inr ⟨of_decide_eq_true q1, of_decide_eq_true q2⟩
  | iaload =>
    cases a with
    | zero => exact zs_ild hx hb hK (Or.inl ⟨rfl, zdc_d hok⟩) H
    | succ a => exact zs_sld hx hb hX hbl hbA (zdc_d hok) H
  | baload => exact Bool.noConfusion (show false = true from hok)
  | aaload => exact zs_ald hx hb hK (zdc_d hok) H
  | iastore => exact zs_ist hx hb hK (zdc_d hok) H
  | bastore => exact Bool.noConfusion (show false = true from hok)
  | aastore => exact zs_ast hx hb hK hG.2.2.1 (zdc_d hok) H
  | arraylength =>
    cases a with
    | zero => exact zs_len hx hb hK (zdc_d hok) H
    | succ a => exact zs_slen hx hb hX hbl hbA hLL (zdc_d hok) H
  | new i =>
    obtain ⟨hd, hn⟩ := zb2 hok
    obtain ⟨hn, h3⟩ := zb2 hn
    exact zs_new hx hb hts hown hK hA hB (zdc_d hd) (zct hn) (of_decide_eq_true h3) H
  | newarray t =>
    obtain ⟨hd, hn⟩ := zb2 hok
    refine zs_newa hx hb hts hK hA hB (zdc_d hd) ?_ H
    rcases Bool.or_eq_true_iff.mp hn with q | q
    · obtain ⟨q1, q2⟩ := zb2 q
      exact Or.inl ⟨of_decide_eq_true q1, of_decide_eq_true q2⟩
    · exact Bool.noConfusion (show false = true from q)
  | anewarray i =>
    obtain ⟨hd, hn⟩ := zb2 hok
    obtain ⟨hn, h3⟩ := zb2 hn
    exact zs_newq hx hb hts hown hK hG.2.2.2.1 hA hB (zdc_d hd) (zct hn) (of_decide_eq_true h3) H
  | invokestatic i =>
    by_cases ha : a = 1000
    · subst ha
      obtain ⟨hd, hn⟩ := zb2 hok
      exact Bool.noConfusion (show false = true from hn)
    by_cases ha4 : a = 1004
    · subst ha4
      obtain ⟨hd, hn⟩ := zb2 hok
      exact zs_mm (g := fun x y => if x < y then y else x) (fun x y h1 h2 => by unfold zmx; by_cases q : x < y; rw [if_pos q, if_pos ((zo_lt h1 h2).mpr q)]; exact ⟨h2, rfl⟩; rw [if_neg q, if_neg (fun z => q ((zo_lt h1 h2).mp z))]; exact ⟨h1, rfl⟩) (fun {x y H lsA r locs cells slots} hl hz hc hs kk => va_mmax hx hb (hml.trans hl.symm) hown (hts _ (zXM_ok _ (zct hn))) (hts _ zMM_ok.1.1) (hts _ zMM_ok.2.2) (hts _ zMM_ok.1.2) (by omega) (by omega) hc hs (zdc_d hd) kk) H
    by_cases ha5 : a = 1005
    · subst ha5
      obtain ⟨hd, hn⟩ := zb2 hok
      exact zs_mm (g := fun x y => if y < x then y else x) (fun x y h1 h2 => by unfold zmn; by_cases q : y < x; rw [if_pos q, if_pos ((zo_lt h2 h1).mpr q)]; exact ⟨h2, rfl⟩; rw [if_neg q, if_neg (fun z => q ((zo_lt h2 h1).mp z))]; exact ⟨h1, rfl⟩) (fun {x y H lsA r locs cells slots} hl hz hc hs kk => va_mmin hx hb (hml.trans hl.symm) hown (hts _ (zXN_ok _ (zct hn))) (hts _ zMM_ok.2.1.1) (hts _ zMM_ok.2.2) (hts _ zMM_ok.2.1.2) (by omega) (by omega) hc hs (zdc_d hd) kk) H
    · rw [(zm_is (k := k) ha ha4 ha5).1] at H
      rw [(zm_is (C := C) (B := B) (Q := Q) (K := (zPp p l e R s m args below meth c Qf D dA A aC L xs N0 S0 M0 M1 k)) (k := k) (ls := ls) (st := st) (h := h) ha ha4 ha5).2] at hok
      obtain ⟨hd, hn⟩ := zb2 hok
      obtain ⟨h1, h2⟩ := zb2 hn
      exact zs_stat hx hb hml hts hown hA hG hB hC (zdc_d hd) h1 ((Bool.or_eq_true_iff.mp h2).imp zct zct) H
  | invokespecial i =>
    by_cases ha : a = 1003
    · subst ha
      obtain ⟨hd, hn⟩ := zb2 hok
      have hm := zct hn
      change zo_oi (zPp p l e R s m args below meth c Qf D dA A aC L xs N0 S0 M0 M1 k) pc ls st h at H
      unfold zo_oi at H
      split at H
      · rename_i x r
        intro ad Hp lsA locs cells slots hS hL hst
        obtain ⟨h1, hr⟩ := zst_cons hst
        refine W.objInit hx hb hown (hts _ (zOT_ok _ hm)) (hts _ zOI_ok.1) (hts _ zOI_ok.2) (g := F0 m pc lsA (.ref (ad x) :: r.map (zEv ad))) rfl (hL.1.trans hml.symm) rfl (zdc_d hd) (by omega) ?_ (H.2 ad Hp lsA locs cells slots hS hL hr)
        rw [zcs_sum]
        show 2 * 0 + _ + 12 ≤ _
        omega
      · exact H.elim
    · rw [(zm_sp (k := k) ha).1] at H
      rw [(zm_sp (C := C) (B := B) (Q := Q) (K := (zPp p l e R s m args below meth c Qf D dA A aC L xs N0 S0 M0 M1 k)) (k := k) (ls := ls) (st := st) (h := h) ha).2] at hok
      obtain ⟨hd, hn⟩ := zb2 hok
      obtain ⟨h1, h2⟩ := zb2 hn
      refine zs_spec hx hb hml hts hown hA hG hB hC (zdc_d hd) h1 ?_ H
      rcases Bool.or_eq_true_iff.mp h2 with q | q
      · obtain ⟨q1, q2⟩ := zb2 q
        obtain ⟨q2, q3⟩ := zb2 q2
        exact Or.inl ⟨(Bool.or_eq_true_iff.mp q1).imp zct zct, of_decide_eq_true q2, of_decide_eq_true q3⟩
      · obtain ⟨q1, q2⟩ := zb2 q
        exact Or.inr ⟨zct q1, of_decide_eq_true q2⟩
  | invokevirtual i =>
    by_cases ha : a = 1001
    · subst ha
      obtain ⟨hd, hn⟩ := zb2 hok
      exact zs_slenS hx hb hml hts hown hA hG hR (zdc_d hd) (zct hn) H
    · by_cases ha2 : a = 1002
      · subst ha2
        obtain ⟨hd, hn⟩ := zb2 hok
        exact zs_satS hx hb hml hts hown hA hG hR (zdc_d hd) (zct hn) H
      · rw [(zm_vi (k := k) ha ha2).1] at H
        rw [(zm_vi (C := C) (B := B) (Q := Q) (K := (zPp p l e R s m args below meth c Qf D dA A aC L xs N0 S0 M0 M1 k)) (k := k) (ls := ls) (st := st) (h := h) ha ha2).2] at hok
        obtain ⟨hd, hn⟩ := zb2 hok
        exact zs_virt hx hb hml hts hown hA hG hB hC (zdc_d hd) hn H
  | ireturn =>
    obtain ⟨hd, hn⟩ := zb2 hok
    cases a with
    | zero =>
      change zo_ri Q st h at H
      unfold zo_ri at H
      split at H
      · rename_i x
        intro ad Hp lsA locs cells slots hS hL hst
        exact hret ad h Hp lsA locs cells slots pc (some (.inl x)) .ireturn hS H (fun w hw => by cases hw; exact hst _ List.mem_cons_self) (zdc_d hd) (Or.inl ⟨rfl, x, rfl, Or.inl (of_decide_eq_true hn)⟩)
      · exact H.elim
    | succ a =>
      change zo_rz Q st h at H
      unfold zo_rz at H
      split at H
      · rename_i x
        intro ad Hp lsA locs cells slots hS hL hst
        exact hret ad h Hp lsA locs cells slots pc (some (.inl x)) .ireturn hS H.2 (fun w hw => by cases hw; exact hst _ List.mem_cons_self) (zdc_d hd) (Or.inl ⟨rfl, x, rfl, Or.inr ⟨of_decide_eq_true hn, H.1⟩⟩)
      · exact H.elim
  | lreturn =>
    obtain ⟨hd, hn⟩ := zb2 hok
    change zo_rl Q st h at H
    unfold zo_rl at H
    split at H
    · rename_i x
      intro ad Hp lsA locs cells slots hS hL hst
      exact hret ad h Hp lsA locs cells slots pc (some (.inr (.inl x))) .lreturn hS H (fun w hw => by cases hw; exact hst _ List.mem_cons_self) (zdc_d hd) (Or.inr (Or.inl ⟨rfl, ⟨x, rfl⟩, of_decide_eq_true hn⟩))
    · exact H.elim
  | areturn =>
    obtain ⟨hd, hn⟩ := zb2 hok
    change zo_rr Q st h at H
    unfold zo_rr at H
    split at H
    · rename_i x
      intro ad Hp lsA locs cells slots hS hL hst
      refine hret ad h Hp lsA locs cells slots pc (some (.inr (.inr (some x)))) .areturn hS H (fun w hw => by cases hw; exact hst _ List.mem_cons_self) (zdc_d hd) (Or.inr (Or.inr (Or.inl ⟨rfl, ⟨x, rfl⟩, ?_⟩)))
      revert hn
      split
      · rename_i n hn
        exact fun _ => ⟨n, hn⟩
      · exact fun q => by cases q
    · exact H.elim
  | return_ =>
    obtain ⟨hd, hn⟩ := zb2 hok
    change zo_rv Q st h at H
    unfold zo_rv at H
    split at H
    · intro ad Hp lsA locs cells slots hS hL hst
      exact hret ad h Hp lsA locs cells slots pc none .return_ hS H (fun w hw => by cases hw) (zdc_d hd) (Or.inr (Or.inr (Or.inr ⟨rfl, rfl, of_decide_eq_true hn⟩)))
    · exact H.elim
  | _ => exact False.elim H
end
