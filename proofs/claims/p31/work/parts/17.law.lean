/-! the law: the start; written out of wip/p31/law17.py, 17b.txt -/
/-! THE CLAIM OUT OF ONE WALK OF THE LAW'S BODY. Your part is whole_start (and what it stands on); all else here is the same for every law, but numbers. -/
def R_law : String := "FerriedInWordsLaw"
def lw_P (b : Addr) (xs : List Int32) (args : Array Value) (s : State) : Prop := args = #[.ref b] ∧ s.IntsAt b xs ∧ xs.length ≤ 260 ∧ (Jvm.Cond.and given_1 narrow_1).before args s = true
def lw_Q (_ : Array Value) (s : State) (o : Outcome) (t : State) : Prop := o = .returned (some (.int 1)) ∧ Framed s o t [] 600000 7302250
def lw_Z (below : List Frame) (a : Array Value) (s : State) : State → Prop := fun t => ∃ o, t.status = .running ∧ Ended t below o ∧ lw_Q a s o t
/-- the law's own end, with 1 on the stack, nothing written that was there before, its room as the claim has it -/
theorem lw_ret {p : Program} {l : Launch} {e : Env} {s : State} {m : MethodId} {below : List Frame} {meth : Method} {c : Code} {b : Nat} (hx : p.tables.exec = Jvm.exec) (hb : c.code = code) (hr : meth.sig.returnType = ret) (hlocks : meth.locks = false) {pc : Nat} {H : Heap} {ls : Array Slot} (hdg : decode code pc = .ok (.ireturn, 1)) : W p l e room_1 s m #[Value.ref b] below meth c H [] 600000 7302250 (lw_Z below #[Value.ref b] s) (F0 m pc ls [.int 1]) := by
  intro T hT X
  obtain ⟨fs, hret, hrun, hended, hW, hframe⟩ := X.leave (v := some (.int 1)) (hlocks := hlocks) (fun h => by rw [hr] at h; cases h)
  have hmeth' : T.vm.method? m = some meth := X.method'
  refine ⟨T.setFrames fs, ?_, .returned (some (.int 1)), hrun, hended, rfl, ⟨_, rfl⟩, hW, hframe⟩
  jvm_step X.here [X.here.top, hx, hb, hdg, hmeth', hr, ret, narrow_b1]
  (try refine ⟨rfl, ?_⟩); (try refine ⟨rfl, ?_⟩)
  first | (intro acts; rw [hret _ acts rfl rfl rfl]) | rw [hret _ _ rfl rfl rfl]
  exact Steps.refl _
/-- what holds at the law's entry: the machine, the code, the tables' words (any of lw_tbl by 'hts w (by decide +kernel)'), the script of L ints xs at the cell b, what the Statement gives of the start (any of its parts by flat_of_before) -/
def lw_At (p : Program) (s : State) (m : MethodId) (meth : Method) (c : Code) (b L : Nat) (xs : Nat → Int32) : Prop :=
  p.tables.exec = Jvm.exec ∧ c.code = code ∧ meth.sig.returnType = ret ∧ c.maxLocals = 11 ∧ s.vm.findClass R_law = some m.cls ∧ (∀ w ∈ lw_tbl, w.before #[Value.ref b] s = true) ∧ va_X b L xs s s.heap ∧ b < s.heap.size ∧ meth.locks = false ∧ (Jvm.Cond.and given_1 narrow_1).before #[Value.ref b] s = true
-- ===== YOUR PART BEGINS =====
def zTm (i : Nat) : Term := Term.string (zR (zgt (0, 0) zSK i).1) (zgt (0, 0) zSK i).2
def zFl : List Cond := flatC (Jvm.Cond.and given_1 narrow_1)
theorem zfl_1 : (List.range 13).all (fun i => decide (Cond.exactly (zTm i) "java/lang/String" ∈ zFl ∧ Cond.eq (.field (zTm i) "java/lang/String" "coder" "B") (.int 0) ∈ zFl ∧ Cond.arrayOf (.field (zTm i) "java/lang/String" "value" "[B") .byte ∈ zFl ∧ Cond.eq (.length (.field (zTm i) "java/lang/String" "value" "[B")) (.int (Int32.ofNat ((zVS.map List.length).getD i 0))) ∈ zFl)) = true := by decide +kernel
theorem zfl_2 : (List.range 13).all (fun i => (List.range ((zVS.map List.length).getD i 0)).all (fun j => decide (Cond.eq (.elem (.field (zTm i) "java/lang/String" "value" "[B") (.int (Int32.ofNat j))) (.int (((zVS.map (List.map zo)).getD i []).getD j 0)) ∈ zFl))) = true := by decide +kernel
def zPI : List (Nat × Nat × Nat) := [(0, 1, 57), (0, 2, 68), (1, 2, 69), (0, 3, 80), (1, 3, 81), (2, 3, 82), (0, 4, 90), (1, 4, 91), (2, 4, 92), (3, 4, 93), (0, 5, 103), (1, 5, 104), (2, 5, 105), (3, 5, 106), (4, 5, 107), (0, 6, 116), (1, 6, 117), (2, 6, 118), (3, 6, 119), (4, 6, 120), (5, 6, 121), (0, 7, 131), (1, 7, 132), (2, 7, 133), (3, 7, 134), (4, 7, 135), (5, 7, 136), (6, 7, 137), (0, 8, 147), (1, 8, 148), (2, 8, 149), (3, 8, 150), (4, 8, 151), (5, 8, 152), (6, 8, 153), (7, 8, 154), (0, 9, 165), (1, 9, 166), (2, 9, 167), (3, 9, 168), (4, 9, 169), (5, 9, 170), (6, 9, 171), (7, 9, 172), (8, 9, 173), (0, 10, 180), (1, 10, 181), (2, 10, 182), (3, 10, 183), (4, 10, 184), (5, 10, 185), (6, 10, 186), (7, 10, 187), (8, 10, 188), (9, 10, 189), (0, 11, 197), (1, 11, 198), (2, 11, 199), (3, 11, 200), (4, 11, 201), (5, 11, 202), (6, 11, 203), (7, 11, 204), (8, 11, 205), (9, 11, 206), (10, 11, 207), (0, 12, 215), (1, 12, 216), (2, 12, 217), (3, 12, 218), (4, 12, 219), (5, 12, 220), (6, 12, 221), (7, 12, 222), (8, 12, 223), (9, 12, 224), (10, 12, 225), (11, 12, 226)]
theorem zPI_ok : ∀ q ∈ zPI, zFl[q.2.2]? = some (Cond.not (Cond.eq (zTm q.1) (zTm q.2.1))) := by
  unfold zPI
  refine List.forall_mem_cons.mpr ⟨by decide +kernel, ?_⟩
  refine List.forall_mem_cons.mpr ⟨by decide +kernel, ?_⟩
  refine List.forall_mem_cons.mpr ⟨by decide +kernel, ?_⟩
  refine List.forall_mem_cons.mpr ⟨by decide +kernel, ?_⟩
  refine List.forall_mem_cons.mpr ⟨by decide +kernel, ?_⟩
  refine List.forall_mem_cons.mpr ⟨by decide +kernel, ?_⟩
  refine List.forall_mem_cons.mpr ⟨by decide +kernel, ?_⟩
  refine List.forall_mem_cons.mpr ⟨by decide +kernel, ?_⟩
  refine List.forall_mem_cons.mpr ⟨by decide +kernel, ?_⟩
  refine List.forall_mem_cons.mpr ⟨by decide +kernel, ?_⟩
  refine List.forall_mem_cons.mpr ⟨by decide +kernel, ?_⟩
  refine List.forall_mem_cons.mpr ⟨by decide +kernel, ?_⟩
  refine List.forall_mem_cons.mpr ⟨by decide +kernel, ?_⟩
  refine List.forall_mem_cons.mpr ⟨by decide +kernel, ?_⟩
  refine List.forall_mem_cons.mpr ⟨by decide +kernel, ?_⟩
  refine List.forall_mem_cons.mpr ⟨by decide +kernel, ?_⟩
  refine List.forall_mem_cons.mpr ⟨by decide +kernel, ?_⟩
  refine List.forall_mem_cons.mpr ⟨by decide +kernel, ?_⟩
  refine List.forall_mem_cons.mpr ⟨by decide +kernel, ?_⟩
  refine List.forall_mem_cons.mpr ⟨by decide +kernel, ?_⟩
  refine List.forall_mem_cons.mpr ⟨by decide +kernel, ?_⟩
  refine List.forall_mem_cons.mpr ⟨by decide +kernel, ?_⟩
  refine List.forall_mem_cons.mpr ⟨by decide +kernel, ?_⟩
  refine List.forall_mem_cons.mpr ⟨by decide +kernel, ?_⟩
  refine List.forall_mem_cons.mpr ⟨by decide +kernel, ?_⟩
  refine List.forall_mem_cons.mpr ⟨by decide +kernel, ?_⟩
  refine List.forall_mem_cons.mpr ⟨by decide +kernel, ?_⟩
  refine List.forall_mem_cons.mpr ⟨by decide +kernel, ?_⟩
  refine List.forall_mem_cons.mpr ⟨by decide +kernel, ?_⟩
  refine List.forall_mem_cons.mpr ⟨by decide +kernel, ?_⟩
  refine List.forall_mem_cons.mpr ⟨by decide +kernel, ?_⟩
  refine List.forall_mem_cons.mpr ⟨by decide +kernel, ?_⟩
  refine List.forall_mem_cons.mpr ⟨by decide +kernel, ?_⟩
  refine List.forall_mem_cons.mpr ⟨by decide +kernel, ?_⟩
  refine List.forall_mem_cons.mpr ⟨by decide +kernel, ?_⟩
  refine List.forall_mem_cons.mpr ⟨by decide +kernel, ?_⟩
  refine List.forall_mem_cons.mpr ⟨by decide +kernel, ?_⟩
  refine List.forall_mem_cons.mpr ⟨by decide +kernel, ?_⟩
  refine List.forall_mem_cons.mpr ⟨by decide +kernel, ?_⟩
  refine List.forall_mem_cons.mpr ⟨by decide +kernel, ?_⟩
  refine List.forall_mem_cons.mpr ⟨by decide +kernel, ?_⟩
  refine List.forall_mem_cons.mpr ⟨by decide +kernel, ?_⟩
  refine List.forall_mem_cons.mpr ⟨by decide +kernel, ?_⟩
  refine List.forall_mem_cons.mpr ⟨by decide +kernel, ?_⟩
  refine List.forall_mem_cons.mpr ⟨by decide +kernel, ?_⟩
  refine List.forall_mem_cons.mpr ⟨by decide +kernel, ?_⟩
  refine List.forall_mem_cons.mpr ⟨by decide +kernel, ?_⟩
  refine List.forall_mem_cons.mpr ⟨by decide +kernel, ?_⟩
  refine List.forall_mem_cons.mpr ⟨by decide +kernel, ?_⟩
  refine List.forall_mem_cons.mpr ⟨by decide +kernel, ?_⟩
  refine List.forall_mem_cons.mpr ⟨by decide +kernel, ?_⟩
  refine List.forall_mem_cons.mpr ⟨by decide +kernel, ?_⟩
  refine List.forall_mem_cons.mpr ⟨by decide +kernel, ?_⟩
  refine List.forall_mem_cons.mpr ⟨by decide +kernel, ?_⟩
  refine List.forall_mem_cons.mpr ⟨by decide +kernel, ?_⟩
  refine List.forall_mem_cons.mpr ⟨by decide +kernel, ?_⟩
  refine List.forall_mem_cons.mpr ⟨by decide +kernel, ?_⟩
  refine List.forall_mem_cons.mpr ⟨by decide +kernel, ?_⟩
  refine List.forall_mem_cons.mpr ⟨by decide +kernel, ?_⟩
  refine List.forall_mem_cons.mpr ⟨by decide +kernel, ?_⟩
  refine List.forall_mem_cons.mpr ⟨by decide +kernel, ?_⟩
  refine List.forall_mem_cons.mpr ⟨by decide +kernel, ?_⟩
  refine List.forall_mem_cons.mpr ⟨by decide +kernel, ?_⟩
  refine List.forall_mem_cons.mpr ⟨by decide +kernel, ?_⟩
  refine List.forall_mem_cons.mpr ⟨by decide +kernel, ?_⟩
  refine List.forall_mem_cons.mpr ⟨by decide +kernel, ?_⟩
  refine List.forall_mem_cons.mpr ⟨by decide +kernel, ?_⟩
  refine List.forall_mem_cons.mpr ⟨by decide +kernel, ?_⟩
  refine List.forall_mem_cons.mpr ⟨by decide +kernel, ?_⟩
  refine List.forall_mem_cons.mpr ⟨by decide +kernel, ?_⟩
  refine List.forall_mem_cons.mpr ⟨by decide +kernel, ?_⟩
  refine List.forall_mem_cons.mpr ⟨by decide +kernel, ?_⟩
  refine List.forall_mem_cons.mpr ⟨by decide +kernel, ?_⟩
  refine List.forall_mem_cons.mpr ⟨by decide +kernel, ?_⟩
  refine List.forall_mem_cons.mpr ⟨by decide +kernel, ?_⟩
  refine List.forall_mem_cons.mpr ⟨by decide +kernel, ?_⟩
  refine List.forall_mem_cons.mpr ⟨by decide +kernel, ?_⟩
  refine List.forall_mem_cons.mpr ⟨by decide +kernel, ?_⟩
  exact List.forall_mem_nil _
theorem zPI_all : (List.range 13).all (fun i => (List.range 13).all (fun j => decide (i = j) || (zPI.any (fun q => decide (q.1 = i) && decide (q.2.1 = j)) || zPI.any (fun q => decide (q.1 = j) && decide (q.2.1 = i))))) = true := by decide +kernel
theorem zPI_at {i j : Nat} (h : zPI.any (fun q => decide (q.1 = i) && decide (q.2.1 = j)) = true) : Cond.not (Cond.eq (zTm i) (zTm j)) ∈ zFl := by
  obtain ⟨q, hq, he⟩ := List.any_eq_true.mp h
  rw [Bool.and_eq_true, decide_eq_true_eq, decide_eq_true_eq] at he
  have := List.mem_of_getElem? (zPI_ok q hq)
  rw [he.1, he.2] at this
  exact this
theorem zfl_3 {i j : Nat} (hi : i < 13) (hj : j < 13) : i = j ∨ Cond.not (Cond.eq (zTm i) (zTm j)) ∈ zFl ∨ Cond.not (Cond.eq (zTm j) (zTm i)) ∈ zFl := by
  have := List.all_eq_true.mp (List.all_eq_true.mp zPI_all i (List.mem_range.mpr hi)) j (List.mem_range.mpr hj)
  rw [Bool.or_eq_true, Bool.or_eq_true, decide_eq_true_eq] at this
  exact this.imp id (fun h => h.imp zPI_at zPI_at)
theorem zfl_4 : Cond.eq (.static "java/lang/String" "COMPACT_STRINGS" "Z") (.int 1) ∈ zFl ∧ Cond.isRef (.static "jdk/internal/util/Preconditions" "SIOOBE_FORMATTER" "Ljava/util/function/BiFunction;") ∈ zFl := ⟨by decide +kernel, by decide +kernel⟩
theorem zCTa : (List.range 13).all (fun c => zCT.any (fun q => decide (q.2.2 = c))) = true := by decide +kernel
theorem zinst {c : Nat} (hc : c < 13) : Cond.instantiable (zR c) (zNF c) ∈ zGL := by
  have := List.all_eq_true.mp zCTa c (List.mem_range.mpr hc)
  obtain ⟨q, hq, he⟩ := List.any_eq_true.mp this
  have he := of_decide_eq_true he
  rw [← he]
  exact (zCT_ok q hq).2.1
theorem vk_S_congr {N : Nat} {len : List Nat} {byt : List (List Int32)} {a1 a2 adV : Nat → Nat} {A : Nat → Prop} {U : State} {H : Heap} (h : vk_S N len byt a1 adV A U H) (e : ∀ i, i < N → a2 i = a1 i) : vk_S N len byt a2 adV A U H :=
  ⟨fun i hi => by rw [e i hi]; exact h.1 i hi, fun i j hi hj q => h.2 i j hi hj (by rw [← e i hi, ← e j hj]; exact q)⟩
def zI0 (L : Nat) (xs : Nat → Int32) : Nat → Nat → Int := fun x j => if x = 2000 ∧ j < L then (xs j).toInt else 0
/-- as zRn, but a run may also come to a place where S holds -/
def zRw (S : zK) (C : zCt) (k : Nat) (B : Nat × Nat) (Q : zQ) (pc : Nat) (ls : zLv) (st : List zV) (h : zH) : Prop :=
  ∀ P : zK, (∀ pc ls st h, zstep C B Q P (zF k pc) pc ls st h → P pc ls st h) → (∀ pc ls st h, S pc ls st h → P pc ls st h) → P pc ls st h
theorem zRw_in {S : zK} {C : zCt} (hC : ∀ k mc ms As h Q Q1, (∀ v h, Q v h → Q1 v h) → C k mc ms As h Q → C k mc ms As h Q1) {k : Nat} {B : Nat × Nat} {Q : zQ} {pc : Nat} {ls : zLv} {st : List zV} {h : zH} (H : zstep C B Q (zRw S C k B Q) (zF k pc) pc ls st h) : zRw S C k B Q pc ls st h :=
  fun P hP hS => hP pc ls st h (zstep_mono (fun _ _ _ _ x => x P hP hS) (fun _ _ x => x) hC _ pc ls st h H)
theorem zRw_S {S : zK} {C : zCt} {k : Nat} {B : Nat × Nat} {Q : zQ} {pc : Nat} {ls : zLv} {st : List zV} {h : zH} (H : S pc ls st h) : zRw S C k B Q pc ls st h := fun _ _ hS => hS pc ls st h H
/-- at most n steps, to one of the stops -/
def zRv (S : zK) (C : zCt) (k : Nat) (B : Nat × Nat) (Q : zQ) (s : List Nat) : Nat → zK
  | 0 => zRw S C k B Q
  | n + 1 => fun pc ls st h => match zmem pc s with
    | true => zRw S C k B Q pc ls st h
    | false => zstep C B Q (zRv S C k B Q s n) (zF k pc) pc ls st h
theorem zRv_in {S : zK} {C : zCt} (hC : ∀ k mc ms As h Q Q1, (∀ v h, Q v h → Q1 v h) → C k mc ms As h Q → C k mc ms As h Q1) {k : Nat} {B : Nat × Nat} {Q : zQ} (s : List Nat) : ∀ (n : Nat) (pc : Nat) (ls : zLv) (st : List zV) (h : zH), zRv S C k B Q s n pc ls st h → zRw S C k B Q pc ls st h
  | 0, _, _, _, _, H => H
  | n + 1, pc, ls, st, h, H => by
    unfold zRv at H
    cases hm : zmem pc s with
    | true => rw [hm] at H; exact H
    | false =>
      rw [hm] at H
      exact zRw_in hC (zstep_mono (zRv_in hC s n) (fun _ _ x => x) hC _ _ _ _ _ H)
theorem zgw (s : List Nat) (n : Nat) {S : zK} {d k : Nat} {B : Nat × Nat} {Q : zQ} {pc : Nat} {ls : zLv} {st : List zV} {h : zH} (H : zstep (zcl d) B Q (zRv S (zcl d) k B Q s n) (zF k pc) pc ls st h) : zRw S (zcl d) k B Q pc ls st h :=
  zRw_in (zcl_mono d) (zstep_mono (zRv_in (zcl_mono d) s n) (fun _ _ x => x) (zcl_mono d) _ _ _ _ _ H)
/-- the head of the law's loop, n rounds gone, a objects made since the numbers began -/
def zSp (n a : Nat) : zK := fun pc ls st h => pc = 2 ∧ zgt none ls 0 = some (.inr (.inr (some 2000))) ∧ zgt none ls 1 = some (.inl (n : Nat)) ∧ st = [] ∧ h.1.1 = 67 * a ∧ h.1.2.1 = 2206 * a
/-- the law's walk out of logical ones, the numbers anew in each round of its loop -/
theorem zlaw_start {p : Program} {e : Env} {s : State} {m : MethodId} {below : List Frame} {meth : Method} {c : Code} (l : Launch) {b L : Nat} {xs : Nat → Int32} (hL : L ≤ 260) (C0 : lw_At p s m meth c b L xs)
    (run0 : zRw (zSp 0 0) (zcl 100) 205 (1000, 100000) (fun v _ => v = some (.inl 1)) 0 [some (.inr (.inr (some 2000))), none, none, none, none, none, none, none, none, none, none] [] ((0, 0, L), zI0 L xs, fun _ _ => none))
    (run : ∀ t : Nat, t < 3 → zRw (zSp (t + 1) 1) (zcl 100) 205 (1000, 100000) (fun v _ => v = some (.inl 1)) 2 [some (.inr (.inr (some 2000))), some (.inl (t : Nat)), none, none, none, none, none, none, none, none, none] [] ((0, 0, L), zI0 L xs, fun _ _ => none))
    (run3 : zRw (fun _ _ _ _ => False) (zcl 100) 205 (1000, 100000) (fun v _ => v = some (.inl 1)) 2 [some (.inr (.inr (some 2000))), some (.inl (3 : Nat)), none, none, none, none, none, none, none, none, none] [] ((0, 0, L), zI0 L xs, fun _ _ => none)) : W p l e room_1 s m #[Value.ref b] below meth c s.heap [] 0 0 (lw_Z below #[Value.ref b] s) (entryFrame m ([Value.ref b] : List Value).toArray 11) := by
  obtain ⟨hx, hb, hr, hml, hown, hts0, hX, hbl, hlocks, hgv⟩ := id C0
  have hts : ∀ w ∈ zGL, w.before #[Value.ref b] s = true := fun w hw => hts0 w (zgl_tbl w hw)
  have hfl : ∀ w ∈ zFl, w.before #[Value.ref b] s = true := flat_of_before _ hgv
  have hA : ∀ q : Nat, s.heap.size ≤ q → (fun q : Nat => s.heap.size ≤ q) q := fun _ h => h
  have hA2 : ∀ a : Nat, a < s.heap.size → ¬ (fun q : Nat => s.heap.size ≤ q) a := fun _ h => Nat.not_le.mpr h
  have hD0 : ∀ c : Nat, ∃ q : ClassId × (Nat → Nat), c < 13 → u_Kn s (zR c) (zT c) (zNF c) q.1 q.2 := by
    intro c
    by_cases hc : c < 13
    · obtain ⟨cC, iS, h⟩ := u_known (C := zR c) (T := zT c) (N := zNF c) (n := zNF c) hts (zWS_ok c hc) (hts _ (zinst hc))
      exact ⟨(cC, iS), fun _ => h⟩
    · exact ⟨(0, fun _ => 0), fun h => absurd h hc⟩
  obtain ⟨fD, hfD⟩ := Classical.axiomOfChoice hD0
  have hT0 : ∀ t : Nat, ∃ cA : ClassId, t < 6 → ArrOfT s cA (zgt .int zTyL t) ∧ va_RA s cA (zgt .int zTyL t) := by
    intro t
    have prim : ∀ ty : FieldType, ty = .int → Cond.arrayClass ty ∈ zGL → ∃ cA : ClassId, ArrOfT s cA ty ∧ va_RA s cA ty := by
      intro ty hty hm
      obtain ⟨cA, kA, comp, h1, h2, h3⟩ := Cond.arrayClass_spec (hts _ hm)
      exact ⟨cA, fun n z => ⟨(fun k h => by cases h), kA, h2, comp, h3⟩, by subst hty; exact h1⟩
    have obj : ∀ t : Nat, 2 ≤ t → t ≤ 5 → ∃ cA : ClassId, ArrOfT s cA (zgt .int zTyL t) ∧ va_RA s cA (zgt .int zTyL t) := by
      intro t h2 h5
      rw [zTy_ref h2 h5]
      obtain ⟨comp, cA, kA, h1, -, h3, h4, h6⟩ := Cond.arrayOver_spec (hts0 _ (zAO_ok _ (zAc_mem ⟨h2, h5⟩)))
      exact ⟨cA, fun n z => ⟨(fun k h => by cases h), kA, h3, comp, h4⟩, kA, comp, h3, h4, h1, h6⟩
    by_cases ht : t < 6
    · match t, ht with
      | 0, _ => obtain ⟨cA, h⟩ := prim .int rfl zAI_ok.1; exact ⟨cA, fun _ => h⟩
      | 1, _ => obtain ⟨cA, h⟩ := prim .int rfl zAI_ok.1; exact ⟨cA, fun _ => h⟩
      | t + 2, h => obtain ⟨cA, h⟩ := obj (t + 2) (by omega) (by omega); exact ⟨cA, fun _ => h⟩
    · exact ⟨0, fun h => absurd h ht⟩
  obtain ⟨dA, hdA⟩ := Classical.axiomOfChoice hT0
  have hK : va_K (fun c => (fD c).1, fun c => (fD c).2) zvCl (zTys dA) s := by
    refine ⟨fun c q hq => ?_, fun t q hq => ?_⟩
    · have hc : c < 13 := (List.getElem?_eq_some_iff.mp hq).1
      have e := (zcl_ok c hc).symm.trans hq
      cases e
      exact hfD c hc
    · have ht : t < 6 := by have := (List.getElem?_eq_some_iff.mp hq).1; simpa [zTys] using this
      have e := (zTys_at dA ht).symm.trans hq
      cases e
      exact hdA t ht
  obtain ⟨adK, adV, hvk, hte⟩ := vk_Sof (args := #[Value.ref b]) (s := s) (N := 13) (tm := zTm) (len := zVS.map List.length) (byt := zVS.map (List.map zo)) (A := fun q : Nat => s.heap.size ≤ q)
    (fun i hi => by have := (zvs_len hi).1; have := (zvs_len hi).2; omega)
    (fun i hi => hfl _ (of_decide_eq_true (List.all_eq_true.mp zfl_1 i (List.mem_range.mpr hi))).1)
    (fun i hi => hfl _ (of_decide_eq_true (List.all_eq_true.mp zfl_1 i (List.mem_range.mpr hi))).2.1)
    (fun i hi => hfl _ (of_decide_eq_true (List.all_eq_true.mp zfl_1 i (List.mem_range.mpr hi))).2.2.1)
    (fun i hi => hfl _ (of_decide_eq_true (List.all_eq_true.mp zfl_1 i (List.mem_range.mpr hi))).2.2.2)
    (fun i hi j hj => hfl _ (of_decide_eq_true (List.all_eq_true.mp (List.all_eq_true.mp zfl_2 i (List.mem_range.mpr hi)) j (List.mem_range.mpr hj))))
    (fun i j hi hj hij => by
      rcases zfl_3 hi hj with q | q | q
      · exact absurd q hij
      · exact Or.inl (hfl _ q)
      · exact Or.inr (hfl _ q)) hA2
  have hG : zGb (fun c => (fD c).1, fun c => (fD c).2) dA (fun q : Nat => s.heap.size ≤ q) (fun i => if i = 2000 then b else adK (i - 1000)) adV L xs s s.heap := by
    refine ⟨hK, fun q hq => ?_, fun q hq => va_Nw.of rfl (hts0 _ (zCA_ok q hq)), fun q hq => va_AO.of (hts0 _ (zAO_ok q hq)), fun i hi => ?_, vk_S_congr hvk (fun i hi => ?_), ?_, ?_, ?_, ?_, ?_⟩
    · rcases List.mem_append.mp hq with q1 | q1
      · exact va_Nw.of rfl (hts0 _ (zSN_ok q q1).1)
      · exact va_Nw.of rfl (hts0 _ (zIN_ok q q1).1)
    · refine vk_R.of (hts0 _ (zSR_ok i hi)) ?_
      show _ = some (Value.ref (if 1000 + i = 2000 then b else adK (1000 + i - 1000)))
      rw [if_neg (by omega), Nat.add_sub_cancel_left]
      exact hte i hi
    · show (if 1000 + i = 2000 then b else adK (1000 + i - 1000)) = adK i
      rw [if_neg (by omega), Nat.add_sub_cancel_left]
    · exact hX
    · exact hbl
    · exact hA2 b hbl
    · exact va_Zof (hts0 _ (zt1 228 (by decide +kernel))) (hts _ (zg1 13 (by decide +kernel) (by decide +kernel))) (va_eqi (hfl _ zfl_4.1)) hA2
    · exact va_Zqof (hts0 _ (zt2 4 (by decide +kernel))) (hts _ (zg1 15 (by decide +kernel) (by decide +kernel))) (hfl _ zfl_4.2) hA2
  have hl := lv_entry ([.ref b]) (n := 11) (Nat.le_of_ble_eq_true rfl)
  rw [lg_entry_eq]
  generalize (lg_sl ([.ref b]) ++ List.replicate (11 - (lg_sl ([.ref b])).length) Slot.unset).toArray = ls at hl ⊢
  have hl : lv_has ls 11 [(0, .ref b)] := hl
  have eng : ∀ (M : Nat) (S : zK) (pc0 : Nat) (ls0 : zLv) (H : Heap) (lsA : Array Slot) (locs : List Loc), M ≤ 3 → zRw S (zcl 100) 205 (1000, 100000) (fun v _ => v = some (.inl 1)) pc0 ls0 [] ((0, 0, L), zI0 L xs, fun _ _ => none) → va_S (fun q : Nat => s.heap.size ≤ q) s.heap H locs → zLo (fun i => if i = 2000 then b else adK (i - 1000)) 0 11 ls0 lsA →
      (∀ (pc1 : Nat) (ls1 : zLv) (st1 : List zV) (h1 : zH) (ad : Nat → Nat) (H1 : Heap) (lsA1 : Array Slot) (locs1 : List Loc), S pc1 ls1 st1 h1 → ad 2000 = b → va_S (fun q : Nat => s.heap.size ≤ q) s.heap H1 locs1 → zLo ad h1.1.1 11 ls1 lsA1 → W p l e room_1 s m #[Value.ref b] below meth c H1 locs1 (h1.1.1 + 67 * M) (h1.1.2.1 + 2206 * M) (lw_Z below #[Value.ref b] s) (F0 m pc1 lsA1 (st1.map (zEv ad)))) →
      W p l e room_1 s m #[Value.ref b] below meth c H locs (67 * M) (2206 * M) (lw_Z below #[Value.ref b] s) (F0 m pc0 lsA []) := by
    intro M S pc0 ls0 H lsA locs hM hrun hS hlo hcont
    have key := hrun (zPp p l e room_1 s m #[Value.ref b] below meth c (lw_Z below #[Value.ref b] s) (fun c => (fD c).1, fun c => (fD c).2) dA (fun q : Nat => s.heap.size ≤ q) (fun i => if i = 2000 then b else adK (i - 1000)) L xs 0 0 (67 * M) (2206 * M) 205) (fun pc ls st h2 hs => ?_) (fun pc ls st h2 hs => ?_)
    · refine key (fun i => if i = 2000 then b else adK (i - 1000)) H lsA locs (67 * M) (2206 * M) ⟨fun k q h => by simp [zWs] at h, ⟨fun i j p q h => by simp [zWs] at h, fun k q h => by simp [zWs] at h⟩, hS, ⟨Nat.zero_le _, fun x hx => absurd hx (Nat.not_lt_zero _), fun x hx => absurd hx (Nat.not_lt_zero _)⟩, fun _ _ => rfl, ⟨rfl, rfl, Nat.zero_le _⟩, ⟨?_, ?_⟩, rfl, fun j hj => if_pos ⟨rfl, hj⟩⟩ hlo (fun v hv => by cases hv)
      · show 67 * M ≤ 600000
        omega
      · show 2206 * M ≤ 7302250
        omega
    · refine zstep_snd (C := zcl 100) (k := 205) (by omega) hx hb hml hts hown (fun q => absurd q (by decide)) hA hG ⟨?_, ?_⟩ ⟨Nat.le_of_ble_eq_true rfl, Nat.le_of_ble_eq_true rfl⟩ (by omega) ?_ ?_ hs
      · show 1000 + 67 * M ≤ 0 + 600000
        omega
      · show 100000 + 2206 * M ≤ 0 + 7302250
        omega
      · intro y' mc' ms' As' h' Q' HC hy' ad' sz' v1 v2 v3 v4 v5
        refine ⟨zRm 100 mc' ms', ⟨rfl, rfl⟩, ⟨Nat.le_of_ble_eq_true rfl, ?_⟩, zcl_snd l (by omega) 100 y' mc' ms' As' h' Q' HC hy' _ ad' sz' v1 v2 v3 v4 v5⟩
        have := (zMT3 hy').2.1
        show 8 + (zL y' + 11) + 64 * (100 + 8) ≤ 84000
        omega
      · intro ad2 h2 H2 lsA2 locs2 cells2 slots2 pc2 v i hS hQ hvd hd hrk
        subst hQ
        have s7 := hS.2.2.2.2.2.2.1
        rcases hrk with ⟨rfl, -⟩ | ⟨-, ⟨x, q⟩, -⟩ | ⟨-, ⟨x, q⟩, -⟩ | ⟨-, q, -⟩
        · exact W.widen s7.1 s7.2 (va_forget hS.2.2.1.2.2 (lw_ret hx hb hr hlocks hd))
        · cases q
        · cases q
        · cases q
    · intro ad H1 lsA1 locs1 cells1 slots1 hS1 hlo1 hst1
      have hcnt := hS1.2.2.2.2.2.1
      have e1 : cells1 = h2.1.1 + 67 * M := by have := hcnt.1; omega
      have e2 : slots1 = h2.1.2.1 + 2206 * M := by have := hcnt.2; omega
      rw [e1, e2]
      exact hcont pc ls st h2 ad H1 lsA1 locs1 hs ((hS1.2.2.2.2.1 2000 (Or.inr (by omega))).trans (if_pos rfl)) hS1.2.2.1 hlo1
  have at2 : ∀ (n t : Nat), t + n = 3 → ∀ (H : Heap) (lsA : Array Slot) (locs : List Loc), va_S (fun q : Nat => s.heap.size ≤ q) s.heap H locs → lv_has lsA 11 [(0, .ref b), (1, .int (zo (t : Nat)))] → W p l e room_1 s m #[Value.ref b] below meth c H locs (67 * t) (2206 * t) (lw_Z below #[Value.ref b] s) (F0 m 2 lsA []) := by
    have lo : ∀ (t : Nat) (lsA : Array Slot), t ≤ 3 → lv_has lsA 11 [(0, .ref b), (1, .int (zo (t : Nat)))] → zLo (fun i => if i = 2000 then b else adK (i - 1000)) 0 11 [some (.inr (.inr (some 2000))), some (.inl (t : Nat)), none, none, none, none, none, none, none, none, none] lsA := by
      intro t lsA ht hl
      refine ⟨hl.1, hl.2.1, fun i v hv => ?_⟩
      match i, hv with
      | 0, hv =>
        cases hv
        exact ⟨fun y hy => by cases hy; exact Or.inr (by omega), hl.2.2 (0, .ref b) List.mem_cons_self⟩
      | 1, hv =>
        cases hv
        exact ⟨by show zIn _; omega, hl.2.2 (1, .int (zo (t : Nat))) (List.mem_cons_of_mem _ List.mem_cons_self)⟩
      | 2, hv => cases hv
      | 3, hv => cases hv
      | 4, hv => cases hv
      | 5, hv => cases hv
      | 6, hv => cases hv
      | 7, hv => cases hv
      | 8, hv => cases hv
      | 9, hv => cases hv
      | 10, hv => cases hv
      | i + 11, hv => cases hv
    intro n
    induction n with
    | zero =>
      intro t ht H lsA locs hS hlv
      obtain rfl : t = 3 := by omega
      exact eng 3 (fun _ _ _ _ => False) 2 _ H lsA locs (by omega) run3 hS (lo 3 lsA (by omega) hlv) (fun _ _ _ _ _ _ _ _ h => h.elim)
    | succ n ih =>
      intro t ht H lsA locs hS hlv
      refine eng t (zSp (t + 1) 1) 2 _ H lsA locs (by omega) (run t (by omega)) hS (lo t lsA (by omega) hlv) (fun pc1 ls1 st1 h1 ad H1 lsA1 locs1 hSp had hS1 hlo1 => ?_)
      obtain ⟨rfl, q0, q1, rfl, q2, q3⟩ := hSp
      rw [q2, q3, show 67 * 1 + 67 * t = 67 * (t + 1) by omega, show 2206 * 1 + 2206 * t = 2206 * (t + 1) by omega]
      refine ih (t + 1) (by omega) H1 lsA1 locs1 hS1 ⟨hlo1.1, hlo1.2.1, fun q hq => ?_⟩
      rcases List.mem_cons.mp hq with rfl | hq
      · have := hlo1.at q0
        rw [show zEv ad (.inr (.inr (some 2000))) = .ref (ad 2000) from rfl, had] at this
        exact this
      · rcases List.mem_cons.mp hq with rfl | hq
        · exact hlo1.at q1
        · cases hq
  refine eng 0 (zSp 0 0) 0 _ s.heap ls [] (by omega) run0 va_S.rf ⟨hl.1, hl.2.1, fun i v hv => ?_⟩ (fun pc1 ls1 st1 h1 ad H1 lsA1 locs1 hSp had hS1 hlo1 => ?_)
  · match i, hv with
    | 0, hv =>
      cases hv
      exact ⟨fun y hy => by cases hy; exact Or.inr (by omega), hl.2.2 _ List.mem_cons_self⟩
    | 1, hv => cases hv
    | 2, hv => cases hv
    | 3, hv => cases hv
    | 4, hv => cases hv
    | 5, hv => cases hv
    | 6, hv => cases hv
    | 7, hv => cases hv
    | 8, hv => cases hv
    | 9, hv => cases hv
    | 10, hv => cases hv
    | i + 11, hv => cases hv
  · obtain ⟨rfl, q0, q1, rfl, q2, q3⟩ := hSp
    rw [q2, q3]
    refine at2 3 0 rfl H1 lsA1 locs1 hS1 ⟨hlo1.1, hlo1.2.1, fun q hq => ?_⟩
    rcases List.mem_cons.mp hq with rfl | hq
    · have := hlo1.at q0
      rw [show zEv ad (.inr (.inr (some 2000))) = .ref (ad 2000) from rfl, had] at this
      exact this
    · rcases List.mem_cons.mp hq with rfl | hq
      · exact hlo1.at q1
      · cases hq
