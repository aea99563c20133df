/-! calls; written out of wip/whole/15.src -/
def zW (k : Nat) : List Cond := Cond.code (zY k) (zB k) (zL k) (zTr k) :: zGL
theorem zMT (k : Nat) (h : k < 203) : Cond.code (zY k) (zB k) (zL k) (zTr k) ∈ zGL ∧ Cond.initialized (zY k).cls ∈ zGL := zMT_ok k (by omega)
theorem zW_good {y : Nat} (hy : y < 203) : GoodIn zGL (zW y) := by
  intro w hw
  rcases List.mem_cons.mp hw with rfl | hw
  · exact ⟨(zMT y hy).1, good_of_word (zgl_good _ (zMT y hy).1)⟩
  · exact ⟨hw, good_of_word (zgl_good _ hw)⟩
theorem zGL_good {w : Cond} (h : w ∈ zGL) : w ∈ zGL ∧ ((w.onTables && w.keeps) = true ∨ ∃ ty, w = .arrayClass ty) := ⟨h, good_of_word (zgl_good _ h)⟩
/-- where a method begins, and where it ends -/
def zPre (D : va_G) (dA : Nat → ClassId) (aC aV : Nat → Nat) (L : Nat) (xs : Nat → Int32) (sz : Nat) (ad : Nat → Nat) (h : zH) (U : State) : Prop :=
  U.heap.size = sz ∧ va_P D zvCl (zWs dA ad h) U.heap ∧ va_D (fun _ => True) (zWs dA ad h) ∧ zGb D dA (va_A (zWs dA ad h) sz) aC aV L xs U U.heap
def zPost (D : va_G) (dA : Nat → ClassId) (L : Nat) (xs : Nat → Int32) (A : Nat → Prop) (mc ms : Nat) (Q : zQ) (h : zH) (ad : Nat → Nat) : Array Value → State → Outcome → State → Prop := fun _ st oc t =>
  (∃ (v : Option zV) (h1 : zH) (ad1 : Nat → Nat), oc = .returned (v.map (zEv ad1)) ∧ Q v h1 ∧ h1.1 = (h.1.1 + mc, h.1.2.1 + ms, h.1.2.2) ∧ (∀ w, v = some w → zVd h1.1.1 w) ∧ va_P D zvCl (zWs dA ad1 h1) t.heap ∧ va_D A (zWs dA ad1 h1) ∧ zVal h1 ∧ (∀ y, (y < h.1.1 ∨ 1000 ≤ y) → ad1 y = ad y) ∧ ∀ j, j < L → h1.2.1 2000 j = (xs j).toInt) ∧ va_F A st t
theorem zGb.moved {D : va_G} {dA : Nat → ClassId} {A : Nat → Prop} {aC aV : Nat → Nat} {L : Nat} {xs : Nat → Int32} {U V : State} {H : Heap} (hv : V.vm = U.vm) (h : zGb D dA A aC aV L xs U H) : zGb D dA A aC aV L xs V H := by
  obtain ⟨h1, h2, h3, h4, h5, h6, h7, h8, h9, h10, h11⟩ := h
  have ha : U.vm.Alike V.vm := by rw [hv]; exact Vm.Alike.refl _
  exact ⟨va_K.moved ha h1, fun q hq => va_Nw.same rfl hv.symm (h2 q hq), fun q hq => va_Nw.same rfl hv.symm (h3 q hq), fun q hq => va_AO.moved ha (h4 q hq), fun i hi => vk_R.same hv (h5 i hi), vk_S.moved ha h6, va_X.moved ha h7, h8, h9, h10.moved ha, h11.moved ha⟩
theorem zGb.warm {D : va_G} {dA : Nat → ClassId} {A A1 : Nat → Prop} {aC aV : Nat → Nat} {L : Nat} {xs : Nat → Int32} {s U : State} {H : Heap} {locs : List Loc} (hW : s.WarmedH U.vm) (hS : va_S A s.heap H locs) (hA : ∀ q, A1 q → A q) (h : zGb D dA A aC aV L xs s s.heap) : zGb D dA A1 aC aV L xs U H := by
  obtain ⟨h1, h2, h3, h4, h5, h6, h7, h8, h9, h10, h11⟩ := h
  have hk : ∀ a : Nat, a < s.heap.size → ¬ A a → H[a]? = s.heap[a]? := fun a ha hn => hS.2.1 a ha hn
  exact ⟨va_K.moved hW.alike h1, fun q hq => va_Nw.warmM hW (h2 q hq), fun q hq => va_Nw.warmC hW (h3 q hq), fun q hq => va_AO.moved hW.alike (h4 q hq), fun i hi => vk_R.warm hW (h5 i hi),
    vk_S.narrow (vk_S.kept (vk_S.moved hW.alike h6) hk) hA, va_X.kept (va_X.moved hW.alike h7) (hS.2.1 _ h8 h9), Nat.lt_of_lt_of_le h8 hS.1, fun q => h9 (hA _ q), ((h10.moved hW.alike).kept hk).narrow hA, ((h11.moved hW.alike).kept hk).narrow hA⟩
theorem zPre.blind {D : va_G} {dA : Nat → ClassId} {aC aV : Nat → Nat} {L : Nat} {xs : Nat → Int32} {sz : Nat} {ad : Nat → Nat} {h : zH} {av : List Value} : FrameBlind (va_Pc av (zPre D dA aC aV L xs sz ad h)) := by
  intro a U g mk hp
  obtain ⟨e, h1, h2, h3, h4⟩ := hp
  exact ⟨e, h1, h2, h3, h4.moved rfl⟩
section
variable {p : Program} {l : Launch} {e : Env} {R : Room} {s : State} {m : MethodId} {args : Array Value} {below : List Frame} {meth : Method} {c : Code} {Qf : State → Prop} {D : va_G} {dA : Nat → ClassId} {A : Nat → Prop} {aC aV : Nat → Nat} {L : Nat} {xs : Nat → Int32} {N0 S0 M0 M1 k : Nat}
/-- what is known of the called methods -/
def zHC (l : Launch) (R : Room) (D : va_G) (dA : Nat → ClassId) (aC aV : Nat → Nat) (L : Nat) (xs : Nat → Int32) (C : zCt) : Prop :=
  ∀ (y mc ms : Nat) (As : List zV) (h : zH) (Q : zQ), C y mc ms As h Q → y < 203 → ∀ (ad : Nat → Nat) (sz : Nat), zVal h → (∀ i, 1000 ≤ i → ad i = aC i) → h.1.2.2 = L → (∀ j, j < L → h.2.1 2000 j = (xs j).toInt) → (∀ v ∈ As, zVd h.1.1 v) →
    ∃ rm : Room, (rm.cells = mc ∧ rm.slots = ms) ∧ (rm.frames + 1 ≤ R.frames ∧ 8 + (zL y + 11) + rm.locals ≤ R.locals) ∧ Met l (zY y) (zW y) rm (va_Pc (As.map (zEv ad)) (zPre D dA aC aV L xs sz ad h)) (zPost D dA L xs (va_A (zWs dA ad h) sz) mc ms Q h ad) mc ms (va_A (zWs dA ad h) sz)
theorem zs_free {ad : Nat → Nat} {h : zH} {H : Heap} {locs : List Loc} {cells slots : Nat} (hA : ∀ q, s.heap.size ≤ q → A q) (hS : zSt D dA A aC L xs s N0 S0 M0 M1 R ad h H locs cells slots) : ∀ q, va_A (zWs dA ad h) H.size q → A q := by
  intro q hq
  rcases hq with ⟨i, e, hq⟩ | hq
  · exact hS.2.1.2 i (q, e) hq
  · exact hA q (Nat.le_trans hS.2.2.1.1 hq)
theorem zs_back {ad : Nat → Nat} {h : zH} {H : Heap} {lsA : Array Slot} {locs : List Loc} {cells slots mc ms pc : Nat} {ls : zLv} {r : List zV} {st0 : List Value} {a : Array Value} {Q : zQ} (hA : ∀ q, s.heap.size ≤ q → A q) (hS : zSt D dA A aC L xs s N0 S0 M0 M1 R ad h H locs cells slots) (hL : zLo ad h.1.1 (zL k) ls lsA) (hr : ∀ v ∈ r, zVd h.1.1 v)
    (hc : cells + mc ≤ R.cells) (hs : slots + ms ≤ R.slots) (run : va_Run p l e R s m args below meth c H locs cells slots mc ms (F0 m pc lsA st0) (r.map (zEv ad)) (zPost D dA L xs (va_A (zWs dA ad h) H.size) mc ms Q h ad a) (va_A (zWs dA ad h) H.size))
    (HP : ∀ v h1, Q v h1 → zPp p l e R s m args below meth c Qf D dA A aC L xs N0 S0 M0 M1 k (pc + 3) ls (zva v r) h1) : W p l e R s m args below meth c H locs cells slots Qf (F0 m pc lsA st0) := by
  have hF := zs_free hA hS
  intro T hT X
  obtain ⟨v0, st₀, t, T', LL, h0, X', hLL, e1, e2, ⟨⟨v, h1, ad1, q1, q2, q3, q4, q5, q6, q7, q8, q9⟩, qF⟩, st⟩ := run T hT X
  rw [show v0 = v.map (zEv ad1) from Outcome.returned.inj q1] at st
  have h0' : st₀.heap.size = H.size := by rw [h0]
  have hN : h1.1.1 = h.1.1 + mc := by rw [q3]
  have hSn : zSt D dA A aC L xs s N0 S0 M0 M1 R ad1 h1 T'.heap (locs ++ LL) (cells + mc) (slots + ms) := by
    obtain ⟨-, -, s1, s4, s5, s6, s7, s8, s9⟩ := hS
    refine ⟨by rw [e1]; exact q5, q6.weaken (fun _ _ _ z => hF _ z), ⟨?_, fun q g1 g2 => ?_, fun q hq => ?_⟩, q7, fun i hi => (q8 i (by omega)).trans (s5 i hi), ⟨by omega, by rw [q3]; show h.1.2.1 + ms + M1 = _; omega, by omega⟩, ⟨hc, hs⟩, ?_, q9⟩
    · rw [e1]
      exact Nat.le_trans s1.1 (by have := qF.1; omega)
    · rw [e1, qF.2 q (by rw [h0]; exact Nat.lt_of_lt_of_le g1 s1.1) (fun z => g2 (hF q z)), h0]
      exact s1.2.1 q g1 g2
    · rcases List.mem_append.mp hq with z | z
      · exact s1.2.2 q z
      · exact hF _ (hLL q z)
    · rw [q3]; exact s8
  have hea : ∀ y, (y < h.1.1 ∨ 1000 ≤ y) → ad1 y = ad y := q8
  have hrn : ∀ w ∈ zva v r, zVd h1.1.1 w := by
    intro w hw
    cases v with
    | none => exact zVd_up (by omega) (hr w hw)
    | some v =>
      rcases List.mem_cons.mp hw with rfl | hw
      · exact q4 _ rfl
      · exact zVd_up (by omega) (hr w hw)
  have kk := HP v h1 q2 ad1 T'.heap lsA (locs ++ LL) (cells + mc) (slots + ms) hSn (hL.ext hea (by omega)) hrn
  rw [show (zva v r).map (zEv ad1) = (v.map (zEv ad1)).toList ++ r.map (zEv ad) by
    rw [← zst_ext hea hr]
    cases v <;> rfl] at kk
  obtain ⟨t2, a1, b1⟩ := kk T' rfl X'
  exact ⟨t2, st t2 a1, b1⟩
/-- a call, whatever links it -/
theorem zs_call {C : zCt} {B : Nat × Nat} {y pc : Nat} {As r : List zV} {ls : zLv} {h : zH} (hC : zHC l R D dA aC aV L xs C) (hA : ∀ q, s.heap.size ≤ q → A q) (hB : B.1 + M0 ≤ N0 + R.cells ∧ B.2 + M1 ≤ S0 + R.slots) (hG : zGb D dA A aC aV L xs s s.heap) (hy : y < 203)
    {ad : Nat → Nat} {H : Heap} {lsA : Array Slot} {locs : List Loc} {cells slots : Nat} (hS : zSt D dA A aC L xs s N0 S0 M0 M1 R ad h H locs cells slots) (hL : zLo ad h.1.1 (zL k) ls lsA) (hr : ∀ v ∈ r, zVd h.1.1 v) (hAs : ∀ v ∈ As, zVd h.1.1 v) (H0 : zo_call C B y As r (zPp p l e R s m args below meth c Qf D dA A aC L xs N0 S0 M0 M1 k) pc ls h) {st0 : List Value}
    (run : ∀ (mc ms : Nat) (rm : Room) (Q : Array Value → State → Outcome → State → Prop) (free : Addr → Prop), rm.cells = mc → rm.slots = ms → rm.frames + 1 ≤ R.frames ∧ 8 + (zL y + 11) + rm.locals ≤ R.locals → Met l (zY y) (zW y) rm (va_Pc (As.map (zEv ad)) (zPre D dA aC aV L xs H.size ad h)) Q mc ms free → (∀ U : State, U.heap = H → s.WarmedH U.vm → va_Pc (As.map (zEv ad)) (zPre D dA aC aV L xs H.size ad h) (As.map (zEv ad)).toArray U) → 2 * (F0 m pc lsA st0).monitorRoom + ((r.map (zEv ad)).map fun v => v.category).sum ≤ 8 → cells + mc ≤ R.cells ∧ slots + ms ≤ R.slots → va_Run p l e R s m args below meth c H locs cells slots mc ms (F0 m pc lsA st0) (r.map (zEv ad)) (Q (As.map (zEv ad)).toArray) free) : W p l e R s m args below meth c H locs cells slots Qf (F0 m pc lsA st0) := by
  obtain ⟨hz, mc, ms, b1, b2, HC⟩ := H0
  have s6 := hS.2.2.2.2.2.1
  have s7 := hS.2.2.2.2.2.2.1
  obtain ⟨rm, r1, r2, hM⟩ := hC y mc ms As h _ HC hy ad H.size hS.2.2.2.1 (fun i hi => hS.2.2.2.2.1 i (Or.inr hi)) hS.2.2.2.2.2.2.2.1 hS.2.2.2.2.2.2.2.2 hAs
  have hc : cells + mc ≤ R.cells := by rcases b1 with q | q <;> omega
  have hs : slots + ms ≤ R.slots := by rcases b2 with q | q <;> omega
  refine zs_back hA hS hL hr hc hs (run mc ms rm _ _ r1.1 r1.2 r2 hM (fun U hU hW => ?_) ?_ ⟨hc, hs⟩) (fun v h1 q => q)
  · refine ⟨rfl, by rw [hU], by rw [hU]; exact hS.1, hS.2.1.weaken (fun _ _ _ _ => trivial), ?_⟩
    rw [hU]
    exact hG.warm hW hS.2.2.1 (zs_free hA hS)
  · rw [zcs_sum]
    show 2 * 0 + _ ≤ 8
    omega
theorem ztk_len : ∀ (n : Nat) (st acc As r : List zV), ztk n st acc = (As, r) → (∃ u, st = u ++ r ∧ As = u.reverse ++ acc ∧ u.length = n) ∨ (As = [] ∧ r = [])
  | 0, st, acc, As, r, h => by
    cases h
    exact Or.inl ⟨[], rfl, rfl, rfl⟩
  | n + 1, [], acc, As, r, h => by
    cases h
    exact Or.inr ⟨rfl, rfl⟩
  | n + 1, v :: st, acc, As, r, h => by
    rcases ztk_len n st (v :: acc) As r h with ⟨u, e1, e2, e3⟩ | q
    · exact Or.inl ⟨v :: u, by rw [e1]; rfl, by rw [e2]; simp, by simp [e3]⟩
    · exact Or.inr q
theorem zpn_ok {y n : Nat} (h : zpn y n = true) : y < 203 ∧ (zY y).cls ≠ "java/lang/invoke/MethodHandle" ∧ (zY y).cls ≠ "java/lang/invoke/VarHandle" ∧ (parseMethodDescriptor (zY y).desc).map (fun d => d.parameters.length) = some n := by
  simp only [zpn, Bool.and_eq_true, decide_eq_true_eq, Nat.blt_eq] at h
  exact ⟨h.1, h.2.2.1, h.2.2.2, h.2.1⟩
theorem zs_stat {C : zCt} {B : Nat × Nat} {i y n pc : Nat} {ls : zLv} {st : List zV} {h : zH} (hx : p.tables.exec = Jvm.exec) (hb : c.code = zB k) (hml : c.maxLocals = zL k) (hts : ∀ w ∈ zGL, w.before args s = true) (hown : s.vm.findClass (zR (zO k)) = some m.cls) (hA : ∀ q, s.heap.size ≤ q → A q) (hG : zGb D dA A aC aV L xs s s.heap) (hB : B.1 + M0 ≤ N0 + R.cells ∧ B.2 + M1 ≤ S0 + R.slots) (hC : zHC l R D dA aC aV L xs C) (hd : decode (zB k) pc = .ok (.invokestatic i, 3)) (hy : zpn y n = true) (hl : (zO k, i, y, n) ∈ zST ∨ (zO k, i, y, n) ∈ zSN) (H : zo_stat C B y n (zPp p l e R s m args below meth c Qf D dA A aC L xs N0 S0 M0 M1 k) pc ls st h) : zPp p l e R s m args below meth c Qf D dA A aC L xs N0 S0 M0 M1 k pc ls st h := by
  obtain ⟨hy1, hy2, hy3, hy4⟩ := zpn_ok hy
  unfold zo_stat at H
  generalize ht : ztk n st [] = q at H
  obtain ⟨As, r⟩ := q
  obtain ⟨Hn, H⟩ := H
  have hu : ∃ u, st = u ++ r ∧ As = u.reverse ++ [] ∧ u.length = n := by
    rcases ztk_len n st [] As r ht with q | ⟨rfl, rfl⟩
    · exact q
    · have hn0 : n = 0 := Hn.symm
      subst hn0
      cases ht
      exact ⟨[], rfl, rfl, rfl⟩
  obtain ⟨u, rfl, rfl, hu⟩ := hu
  · intro ad Hp lsA locs cells slots hS hL hst
    have hr : ∀ v ∈ r, zVd h.1.1 v := fun v hv => hst v (List.mem_append_right _ hv)
    have hAs : ∀ v ∈ u.reverse ++ [], zVd h.1.1 v := fun v hv => hst v (List.mem_append_left _ (by simpa using hv))
    refine zs_call hC hA hB hG hy1 hS hL hr hAs H (fun mc ms rm Q free r1 r2 r3 hM hp hz hf => ?_)
    have hstk : (F0 m pc lsA ((u ++ r).map (zEv ad))).stack = ((u.reverse ++ []).map (zEv ad)).reverse ++ r.map (zEv ad) := by
      show (u ++ r).map (zEv ad) = _
      simp
    have hn : ((u.reverse ++ []).map (zEv ad)).length = n := by simp [hu]
    rcases hl with hl | hl
    · obtain ⟨w1, w2⟩ := zST_ok _ hl
      exact va_runS (ret := zTr y) ⟨hx, hb, hml, hown, hts⟩ hM ⟨callB_of n hts (zW_good hy1) rfl r1 r2 (hts _ (zMT y hy1).2) (hts _ w1) ⟨hy2, hy3, hy4⟩ r3, hts _ w2⟩ ⟨zPre.blind, hp⟩ rfl hn hL.1 hstk hz hd hf
    · obtain ⟨w1, w2⟩ := zSN_ok _ hl
      exact va_runSN (ret := zTr y) (host := RX11) ⟨hx, hb, hml, hown, hts⟩ hM ⟨va_cnB n hts (zW_good hy1) rfl r1 r2 (hG.2.1 _ (List.mem_append_left _ hl)) (hts _ (zMT y hy1).2) ⟨hy2, hy3, hy4⟩ r3, hts _ w2, trivial⟩ ⟨zPre.blind, hp⟩ rfl hn hL.1 hstk hz hd hf
theorem zsp_split {n x : Nat} {st As r : List zV} (ht : ztk n st [] = (As, .inr (.inr (some x)) :: r)) : ∃ u, st = u ++ .inr (.inr (some x)) :: r ∧ As = u.reverse ∧ u.length = n := by
  rcases ztk_len n st [] As _ ht with ⟨u, e1, e2, e3⟩ | ⟨-, q⟩
  · exact ⟨u, e1, by rw [e2]; simp, e3⟩
  · cases q
theorem zs_spec {C : zCt} {B : Nat × Nat} {i y n pc : Nat} {ls : zLv} {st : List zV} {h : zH} (hx : p.tables.exec = Jvm.exec) (hb : c.code = zB k) (hml : c.maxLocals = zL k) (hts : ∀ w ∈ zGL, w.before args s = true) (hown : s.vm.findClass (zR (zO k)) = some m.cls) (hA : ∀ q, s.heap.size ≤ q → A q) (hG : zGb D dA A aC aV L xs s s.heap) (hB : B.1 + M0 ≤ N0 + R.cells ∧ B.2 + M1 ≤ S0 + R.slots) (hC : zHC l R D dA aC aV L xs C) (hd : decode (zB k) pc = .ok (.invokespecial i, 3)) (hy : zpn y n = true) (hl : (((zO k, i, y, n) ∈ zIT ∨ (zO k, i, y, n) ∈ zIN) ∧ (zY y).name = "<init>" ∧ zTr y = none) ∨ ((zO k, i, y, n) ∈ zUT ∧ (zY y).name ≠ "<init>")) (H : zo_spec C B y n (zPp p l e R s m args below meth c Qf D dA A aC L xs N0 S0 M0 M1 k) pc ls st h) : zPp p l e R s m args below meth c Qf D dA A aC L xs N0 S0 M0 M1 k pc ls st h := by
  obtain ⟨hy1, hy2, hy3, hy4⟩ := zpn_ok hy
  unfold zo_spec at H
  split at H
  · rename_i As x r ht
    obtain ⟨u, rfl, rfl, hu⟩ := zsp_split ht
    obtain ⟨hcx, H⟩ := H
    intro ad Hp lsA locs cells slots hS hL hst
    have hr : ∀ v ∈ r, zVd h.1.1 v := fun v hv => hst v (List.mem_append_right _ (List.mem_cons_of_mem _ hv))
    have hxv : zVd h.1.1 (.inr (.inr (some x))) := hst _ (List.mem_append_right _ List.mem_cons_self)
    have hAs : ∀ v ∈ (.inr (.inr (some x)) :: u.reverse : List zV), zVd h.1.1 v := fun v hv => by
      rcases List.mem_cons.mp hv with rfl | hv
      · exact hxv
      · exact hst v (List.mem_append_left _ (by simpa using hv))
    have hNx := zxN hxv rfl (by omega)
    refine zs_call hC hA hB hG hy1 hS hL hr hAs H (fun mc ms rm Q free r1 r2 r3 hM hp hz hf => ?_)
    have hstk : (F0 m pc lsA ((u ++ .inr (.inr (some x)) :: r).map (zEv ad))).stack = ((u.reverse).map (zEv ad)).reverse ++ .ref (ad x) :: r.map (zEv ad) := by
      show (u ++ .inr (.inr (some x)) :: r).map (zEv ad) = _
      simp [zEv, va_rf]
    have hn : ((u.reverse).map (zEv ad)).length = n := by simp [hu]
    rcases hl with ⟨hl, hi1, hi2⟩ | ⟨hl, hi1⟩
    · have hw : zW y = Cond.code (zY y) (zB y) (zL y) none :: zGL := by unfold zW; rw [hi2]
      rcases hl with hl | hl
      · obtain ⟨w1, w2⟩ := zIT_ok _ hl
        exact va_runI (y := zY y) (bytes := zB y) (maxL := zL y) ⟨hx, hb, hml, hown, hts⟩ hM (cwI n hts (zW_good hy1) hw r1 r2 (hts _ (zMT y hy1).2) (hts _ w1) (hts _ w2) hi1 ⟨hy2, hy3, hy4⟩ r3) ⟨zPre.blind, hp⟩ rfl hn hL.1 hstk hz hd hf
      · obtain ⟨w1, w2⟩ := zIN_ok _ hl
        exact va_runIN (y := zY y) (bytes := zB y) (maxL := zL y) (host := RX11) ⟨hx, hb, hml, hown, hts⟩ hM ⟨va_cnB n hts (zW_good hy1) hw r1 r2 (hG.2.1 _ (List.mem_append_right _ hl)) (hts _ (zMT y hy1).2) ⟨hy2, hy3, hy4⟩ r3, hi1, hts _ w2⟩ ⟨zPre.blind, hp⟩ rfl hn hL.1 hstk hz hd hf
    · obtain ⟨w1, w2, w3, w4⟩ := zUT_ok _ hl
      obtain ⟨gx, -⟩ := zSh_pair (x := x) rfl hcx
      have hG1 : GoodIn zGL (va_wsSU (zR (zO k)) i (zY y) (zW y)) := by
        intro w hw
        unfold va_wsSU at hw
        rcases List.mem_append.mp hw with hw | hw
        · simp only [List.mem_cons, List.not_mem_nil, or_false] at hw
          rcases hw with rfl | rfl | rfl | rfl | rfl
          · exact zGL_good w1
          · exact zGL_good w2
          · exact zGL_good w3
          · exact zGL_good w4
          · exact zGL_good (zMT y hy1).2
        · exact zW_good hy1 w hw
      have hrc := va_recv hG.1 hS.1 (zcl_ok _ hcx) (by rw [zWs_at dA ad hNx, zCe_obj gx (by omega)] : (zWs dA ad h)[x]? = some (ad x, .inr ((zSh x).1, (List.range (zNF (zSh x).1)).map (zFv ad h x (zSh x).1))))
      exact va_runSU (y := zY y) (bytes := zB y) (maxL := zL y) (ret := zTr y) (C := zR (zSh x).1) (hG.1.1 _ _ (zcl_ok _ hcx)).2 ⟨hx, hb, hml, hown, hts⟩ hM (va_cwSU n hts hG1 rfl r1 r2 ⟨hi1, hy4⟩ r3) ⟨zPre.blind, hrc, hp⟩ rfl hn hL.1 hstk hz hd hf
  · exact H.elim
theorem zVTc : ∀ q ∈ zVT, q.2.2.1 < 13 := by decide +kernel
theorem zWTc : ∀ q ∈ zWT, q.2.2.1 < 13 := by decide +kernel
theorem zsel_in {c : Int} : ∀ {l : List (Int × Nat)} {y : Nat}, zsel c l = some y → (c, y) ∈ l
  | [], y, h => by cases h
  | (a, z) :: l, y, h => by
    unfold zsel at h
    by_cases q : a = c
    · rw [show decide (a = c) = true from decide_eq_true q] at h
      cases h
      rw [q]
      exact List.mem_cons_self
    · rw [show decide (a = c) = false from decide_eq_false q] at h
      exact List.mem_cons_of_mem _ (zsel_in h)
theorem zs_virt {C : zCt} {B : Nat × Nat} {i n pc : Nat} {lz : List (Int × Nat)} {ls : zLv} {st : List zV} {h : zH} (hx : p.tables.exec = Jvm.exec) (hb : c.code = zB k) (hml : c.maxLocals = zL k) (hts : ∀ w ∈ zGL, w.before args s = true) (hown : s.vm.findClass (zR (zO k)) = some m.cls) (hA : ∀ q, s.heap.size ≤ q → A q) (hG : zGb D dA A aC aV L xs s s.heap) (hB : B.1 + M0 ≤ N0 + R.cells ∧ B.2 + M1 ≤ S0 + R.slots) (hC : zHC l R D dA aC aV L xs C) (hd : decode (zB k) pc = .ok (.invokevirtual i, 3)) (hl : lz.all (zokV k i n) = true) (H : zo_virt C B lz n (zPp p l e R s m args below meth c Qf D dA A aC L xs N0 S0 M0 M1 k) pc ls st h) : zPp p l e R s m args below meth c Qf D dA A aC L xs N0 S0 M0 M1 k pc ls st h := by
  unfold zo_virt at H
  split at H
  · rename_i As x r ht
    obtain ⟨u, rfl, rfl, hu⟩ := zsp_split ht
    obtain ⟨y, hsel, H⟩ := H
    have hq := List.all_eq_true.mp hl _ (zsel_in hsel)
    simp only [zokV, Bool.and_eq_true, Bool.or_eq_true, decide_eq_true_eq, List.any_eq_true, List.contains_iff_mem] at hq
    obtain ⟨hy, -, hq⟩ := hq
    rw [Int.toNat_natCast] at hq
    obtain ⟨hy1, hy2, hy3, hy4⟩ := zpn_ok hy
    have hcx : (zSh x).1 < 13 := by
      rcases hq with ⟨hq, -⟩ | ⟨w, hw, hq, -⟩
      · exact zVTc _ hq
      · have h1 := zWTc w hw
        have h2 : w.2.2.1 = (zSh x).1 := congrArg (fun q => q.2.2.1) hq
        omega
    obtain ⟨gx, -⟩ := zSh_pair (x := x) rfl hcx
    intro ad Hp lsA locs cells slots hS hL hst
    have hr : ∀ v ∈ r, zVd h.1.1 v := fun v hv => hst v (List.mem_append_right _ (List.mem_cons_of_mem _ hv))
    have hxv : zVd h.1.1 (.inr (.inr (some x))) := hst _ (List.mem_append_right _ List.mem_cons_self)
    have hAs : ∀ v ∈ (.inr (.inr (some x)) :: u.reverse : List zV), zVd h.1.1 v := fun v hv => by
      rcases List.mem_cons.mp hv with rfl | hv
      · exact hxv
      · exact hst v (List.mem_append_left _ (by simpa using hv))
    have hNx := zxN hxv rfl (by omega)
    have hrc := va_recv hG.1 hS.1 (zcl_ok _ hcx) (by rw [zWs_at dA ad hNx, zCe_obj gx (by omega)] : (zWs dA ad h)[x]? = some (ad x, .inr ((zSh x).1, (List.range (zNF (zSh x).1)).map (zFv ad h x (zSh x).1))))
    refine zs_call hC hA hB hG hy1 hS hL hr hAs H (fun mc ms rm Q free r1 r2 r3 hM hp hz hf => ?_)
    have hstk : (F0 m pc lsA ((u ++ .inr (.inr (some x)) :: r).map (zEv ad))).stack = ((u.reverse).map (zEv ad)).reverse ++ .ref (ad x) :: r.map (zEv ad) := by
      show (u ++ .inr (.inr (some x)) :: r).map (zEv ad) = _
      simp [zEv, va_rf]
    have hn : ((u.reverse).map (zEv ad)).length = n := by simp [hu]
    rcases hq with ⟨hq, hcl⟩ | ⟨w, hw, hq, hxp⟩
    · obtain ⟨w1, w2, w3⟩ := zVT_ok _ hq
      have hG1 : GoodIn zGL (wsV (zR (zO k)) i (zR (zSh x).1) (zY y) (zW y)) := by
        intro w hw
        unfold wsV at hw
        rcases List.mem_append.mp hw with hw | hw
        · simp only [List.mem_cons, List.not_mem_nil, or_false] at hw
          rcases hw with rfl | rfl | rfl | rfl
          · exact zGL_good w1
          · exact zGL_good w2
          · exact zGL_good w3
          · rw [← hcl]
            exact zGL_good (zMT y hy1).2
        · exact zW_good hy1 w hw
      exact va_runV (y := zY y) (bytes := zB y) (maxL := zL y) (ret := zTr y) ⟨hx, hb, hml, hown, hts⟩ hM (cwV n hts hG1 rfl r1 r2 ⟨hcl, hy2, hy3, hy4⟩ r3) ⟨zPre.blind, hrc, hp⟩ rfl hn hL.1 hstk hz hd hf
    · obtain ⟨w1, w2, w3, w4, w5⟩ := zWT_ok w hw
      obtain ⟨hx1, hx2, hx3, hx4⟩ := zpn_ok hxp
      obtain ⟨a1, a2, a3, a4, a5, x0⟩ := w
      simp only [Prod.mk.injEq] at hq
      obtain ⟨e1, e2, e3, e4, e5⟩ := hq
      subst e1
      subst e3
      have e2 := e2.symm
      have e4 := e4.symm
      have e5 := e5.symm
      subst e2
      subst e4
      subst e5
      have hG1 : GoodIn zGL (va_wsO (zR (zO k)) i (zR (zSh x).1) (zY x0).cls (zY x0) (zY y) (zW y)) := by
        intro w hw
        unfold va_wsO at hw
        rcases List.mem_append.mp hw with hw | hw
        · simp only [List.mem_cons, List.not_mem_nil, or_false] at hw
          rcases hw with rfl | rfl | rfl | rfl | rfl | rfl
          · exact zGL_good w1
          · exact zGL_good w2
          · exact zGL_good w3
          · exact zGL_good w4
          · exact zGL_good w5
          · exact zGL_good (zMT y hy1).2
        · exact zW_good hy1 w hw
      exact va_runU (x := zY x0) (y := zY y) (bytes := zB y) (maxL := zL y) (ret := zTr y) ⟨hx, hb, hml, hown, hts⟩ hM (va_cwO n hts hG1 rfl r1 r2 (zMT x0 hx1).1 ⟨hx2, hx3, hx4⟩ r3) ⟨zPre.blind, hrc, hp⟩ rfl hn hL.1 hstk hz hd hf
  · exact H.elim
end
