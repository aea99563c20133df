/-! the law from its entry on; written by hand, its end is the skeleton's -/
section
section
variable {S : zK} {Q : zQ} {L : Nat} {I : zI} {R : Nat → Nat → Option Nat} {t : Nat}
theorem b_law_2 (ht : t < 3) (T : zRw S (zcl 100) 205 (1000, 100000) Q 10 [some (zr 2000), some (zi (t : Nat)), none, none, none, none, none, none, none, none, none] [zr 0] ((1, 13, L), z1 I 0 0, z1 R 0 none)) : zRw S (zcl 100) 205 (1000, 100000) Q 2 [some (zr 2000), some (zi (t : Nat)), none, none, none, none, none, none, none, none, none] [] ((0, 0, L), I, R) :=
  zgw [10] 4 (And.intro (fun u => absurd u (by omega)) (fun _ => And.intro (by decide : zSh 0 = (11, 13)) (And.intro (Nat.le_of_ble_eq_true rfl : 0 + 1 ≤ 1000) (And.intro (Nat.le_of_ble_eq_true rfl : 0 + 13 ≤ 100000) (And.intro (Nat.le_of_ble_eq_true rfl : 0 + 1 ≤ 1000) T)))))
theorem b_law_10 (T : zcl 100 76 66 2193 [zr 0] ((1, 13, L), I, R) (fun v h1 => zRw S (zcl 100) 205 (1000, 100000) Q 14 [some (zr 2000), some (zi (t : Nat)), none, none, none, none, none, none, none, none, none] (zva v [zr 0]) h1)) : zRw S (zcl 100) 205 (1000, 100000) Q 10 [some (zr 2000), some (zi (t : Nat)), none, none, none, none, none, none, none, none, none] [zr 0] ((1, 13, L), I, R) :=
  zgw [14] 2 (And.intro (by decide : (zSh 0).1 < 13) (And.intro (Nat.le_of_ble_eq_true rfl) (Exists.intro 66 (Exists.intro 2193 (And.intro (Or.inr (Nat.le_of_ble_eq_true rfl : 1 + 66 ≤ 1000)) (And.intro (Or.inr (Nat.le_of_ble_eq_true rfl : 13 + 2193 ≤ 100000)) T))))))
theorem b_law_14 {h : zH} (T : zRw S (zcl 100) 205 (1000, 100000) Q 15 [some (zr 2000), some (zi (t : Nat)), some (zr 0), none, none, none, none, none, none, none, none] [] h) : zRw S (zcl 100) 205 (1000, 100000) Q 14 [some (zr 2000), some (zi (t : Nat)), none, none, none, none, none, none, none, none, none] [zr 0] h :=
  zgw [15] 1 T
end
theorem b_start {I0 I J : zI} (hs : ∀ j, zIn (I 2000 j)) (h : bJ I J) : nO J 0 1023 0 0 0 0 := by
  have e : ∀ y j v, zhk 0 bIl y j = some v → y ≠ 0 → ¬ (44 ≤ y ∧ y ≤ 46) → ¬ (62 ≤ y ∧ y ≤ 66) → J y j = v := fun y j v hk q1 q2 q3 => by
    rw [h.1 y q1 q2 q3]
    exact zhk_at hk
  have e2 : ∀ j, J 2 j = 0 := fun j => e 2 j 0 rfl (by decide) (by decide) (by decide)
  have e2000 : J 2000 = I 2000 := by
    rw [h.1 2000 (by decide) (by decide) (by decide)]
    exact zhf_at rfl
  obtain ⟨-, -, e7, -, hXo, x0, x1, x2⟩ := h
  have k : ∀ j, mK 2 J 0 j = 0 := e2
  refine ⟨⟨hXo, ⟨x0, x1, x2⟩, e7, fun s hs => ?_, fun j => by rw [e2000]; exact hs j⟩, ⟨?_, by decide⟩, ⟨k 3, by decide⟩, ⟨k 4, by decide⟩, ⟨k 5, by decide⟩, k 6, fun j hj => absurd hj (by omega), fun p hp => absurd hp (by omega), rfl⟩
  · match s, hs with
    | 0, _ => rw [e (36 + 2 * 0) 2 0 rfl (by decide) (by decide) (by decide)]; decide
    | 1, _ => rw [e (36 + 2 * 1) 2 0 rfl (by decide) (by decide) (by decide)]; decide
    | 2, _ => rw [e (36 + 2 * 2) 2 0 rfl (by decide) (by decide) (by decide)]; decide
    | 3, _ => rw [e (36 + 2 * 3) 2 0 rfl (by decide) (by decide) (by decide)]; decide
    | s + 4, hs => exact absurd hs (by omega)
  · rw [k 2]; rfl
theorem zI0_in (L : Nat) (xs : Nat → Int32) (j : Nat) : zIn (zI0 L xs 2000 j) := by
  unfold zI0
  split
  · exact ztI _
  · decide
/-- a round of the law -/
theorem law_round {L : Nat} {xs : Nat → Int32} (t : Nat) (ht : t < 3) : zRw (zSp (t + 1) 1) (zcl 100) 205 (1000, 100000) (fun v _ => v = some (.inl 1)) 2 [some (.inr (.inr (some 2000))), some (.inl (t : Nat)), none, none, none, none, none, none, none, none, none] [] ((0, 0, L), zI0 L xs, fun _ _ => none) := by
  refine b_law_2 ht (b_law_10 (b_76 (d := 56) (fun J g1 hJ => b_law_14 ?_)))
  have hO := b_start (I0 := zI0 L xs) (zI0_in L xs) hJ
  refine g_l_law_15 (k132 (d := 98) (by omega) (by decide) hO.1.2.2.2.2 (fun v hv => g_l_law_22 ?_))
  obtain ⟨n, rfl⟩ : ∃ k : Nat, v = (k : Int) := ⟨v.toNat, by omega⟩
  have en : zwr (1 + (n : Int)) = ((n + 1 : Nat) : Int) := by rw [zwr_eq (show zIn (1 + (n : Int)) by omega)]; omega
  rw [en]
  refine w_people (n := n + 1) ht (by omega) (fun I1 g2 C o7 o8 o9 o10 hO1 => ?_) (n + 1) 0 J g1 1023 _ _ _ _ _ (by omega) hO
  refine w_things ht (by omega) (fun I2 g3 p7 p8 p9 p10 hO2 => ?_) 4 0 I1 g2 _ _ _ _ rfl hO1
  refine g_l_law_133 ⟨fun _ => k132 (d := 98) (by rw [n_w1 (by decide) (by omega)]; omega) (by decide) hO2.1.2.2.2.2 (fun m hm => g_l_law_414 ?_), fun u => absurd (Int.le_refl _) u⟩
  obtain ⟨m, rfl⟩ : ∃ k : Nat, m = (k : Int) := ⟨m.toNat, by omega⟩
  have em : zwr (1 + (m : Int)) = ((m + 1 : Nat) : Int) := by rw [zwr_eq (show zIn (1 + (m : Int)) by omega)]; omega
  rw [em]
  refine w_brings ht (m + 1) (by omega) (fun I3 g4 hO3 => ?_) (m + 1) 0 I2 g3 (by omega) hO2
  refine w_wait ht (by omega) (m + 1) (by omega) (fun I4 g5 q8 q9 q10 hO4 => ?_) _ _ _ hO3
  exact w_few ht (by omega) (by omega) (m + 1) (by omega) (fun I5 g6 x6 x7 x8 x9 x10 => zRw_S ⟨rfl, rfl, rfl, rfl, rfl, rfl⟩) _ _ _ _ hO4
theorem law_enter {L : Nat} {xs : Nat → Int32} : zRw (zSp 0 0) (zcl 100) 205 (1000, 100000) (fun v _ => v = some (.inl 1)) 0 [some (.inr (.inr (some 2000))), none, none, none, none, none, none, none, none, none, none] [] ((0, 0, L), zI0 L xs, fun _ _ => none) :=
  zgw [2] 2 (zRw_S ⟨rfl, rfl, rfl, rfl, rfl, rfl⟩)
theorem law_leave {L : Nat} {xs : Nat → Int32} : zRw (fun _ _ _ _ => False) (zcl 100) 205 (1000, 100000) (fun v _ => v = some (.inl 1)) 2 [some (.inr (.inr (some 2000))), some (.inl (3 : Nat)), none, none, none, none, none, none, none, none, none] [] ((0, 0, L), zI0 L xs, fun _ _ => none) :=
  zgw [] 5 (And.intro (fun _ => And.intro (Or.inr rfl) rfl) (fun u => absurd (by decide) u))
theorem whole_start {p : Program} {e : Env} {s : State} {m : MethodId} {below : List Frame} {meth : Method} {c : Code} (l : Launch) (hflags : l.flags = flags0) {b L : Nat} {xs : Nat → Int32} (hL : L ≤ 260) (C0 : lw_At p s m meth c b L xs) : W p l e room_1 s m #[Value.ref b] below meth c s.heap [] 0 0 (lw_Z below #[Value.ref b] s) (entryFrame m ([Value.ref b] : List Value).toArray 11) :=
  zlaw_start l hL C0 law_enter law_round law_leave
end
-- ===== YOUR PART ENDS =====
set_option maxHeartbeats 4000000 in
theorem lw_walk (l : Launch) (hflags : l.flags = flags0) (b : Addr) (xs : List Int32) : MetFree l x (headSpec (Jvm.Cond.code x code maxLocals ret :: tables_1) room_1) (lw_P b xs) (fun _ _ _ _ _ => True) lw_Q := by
  refine MetFree.of_bodyS (code := code) (maxLocals := maxLocals) (ret := ret) (by decide) ?_ ?_
  · intro args s m h hn
    obtain ⟨meth, c, h1, h2, h3, h4, h5, h6, -, -⟩ := Cond.code_spec hn (atoms_spec (ws := Jvm.Cond.code x code maxLocals ret :: tables_1) h _ List.mem_cons_self)
    exact ⟨meth, c, h1, h2, h3, h4, h5, h6⟩
  · intro p e s m args below meth c s₁ B hml0 hP _
    obtain ⟨rfl, hx, hbd, hgv⟩ := hP
    obtain ⟨scr, harrAt, hlist, hof, hsmall⟩ := hx
    obtain ⟨hcb, hkn, -, -⟩ := State.arrayAt?_spec harrAt
    have hown : s.vm.findClass R_law = some m.cls := findClass_of_methodNamed B.named
    have hts0 : ∀ c ∈ (Jvm.Cond.code x code maxLocals ret :: tables_1), c.before #[Value.ref b] s = true := atoms_spec (ws := Jvm.Cond.code x code maxLocals ret :: tables_1) B.pre
    have hts : ∀ w ∈ lw_tbl, w.before #[Value.ref b] s = true := k2_hts_sels lw_privs (fun w hw => hts0 w (List.mem_cons_of_mem _ hw)) lw_privs_ok
    have hml : c.maxLocals = 11 := B.maxLocals_eq (hts0 _ List.mem_cons_self)
    have X₀ : Stand p l e room_1 s m #[Value.ref b] below meth c s₁ [] 0 0 := Stand.of_body B
    have hh0 : s₁.heap = s.heap := by rw [B.state]; rfl
    have hsz : scr.slots.size = xs.length := by rw [← Array.length_toList, hlist, List.length_map]
    have hval : ∀ j : Nat, j < xs.length → scr.slots[j]? = some (.int (xs.getD j 0)) := fun j hj => by
      rw [← Array.getElem?_toList, hlist]
      simp [hj]
    have hbl : b < s.heap.size := (Array.getElem?_eq_some_iff.mp hcb).1
    have hX : va_X b xs.length (fun j => xs.getD j 0) s s.heap := ⟨scr, hcb, hof, hkn, hsz, hval⟩
    have K : W p l e room_1 s m #[Value.ref b] below meth c s₁.heap [] 0 0 (lw_Z below #[Value.ref b] s) (entryFrame m ([Value.ref b] : List Value).toArray 11) := by
      rw [hh0]
      exact whole_start l hflags hbd ⟨B.exec, B.bytes, B.returns, hml, hown, hts, hX, hbl, B.notSynchronized, hgv⟩
    obtain ⟨t, a1, o, b1, b2, b3⟩ := K s₁ rfl X₀
    exact ⟨t, o, a1, b1, b2, b3⟩
theorem lw_pre_spec {args : Array Value} {s : State} (h : (Jvm.Cond.and given_1 narrow_1).before args s = true) (hr : rest_1_c.before args s = true) : ∃ (b : Addr) (xs : List Int32), lw_P b xs args s := by
  have hs := flat_of_before _ h
  have hq := flat_of_before _ hr
  have hc : (Cond.count 1).before args s = true := hs _ (by decide +kernel)
  have harr : (Cond.arrayOf (.arg 0) .int).before args s = true := hs _ (by decide +kernel)
  have hle : (Cond.le (.length (.arg 0)) (.int 260)).before args s = true := hs _ (by decide +kernel)
  have hlen : (Cond.isInt (.length (.arg 0))).before args s = true := hq _ (by decide +kernel)
  have hall : (Cond.all (.arg 0) (.isInt (.elem (.arg 0) (.index 0)))).before args s = true := hq _ (by decide +kernel)
  obtain ⟨b, xs, hb, hx⟩ := State.ints_of_pre rfl harr hlen hall
  have hsm : xs.length < 2 ^ 31 := hx.choose_spec.2.2.2
  have hev : (Term.length (.arg 0)).eval args s none [] s = some (.int xs.length.toInt32) := hx.length_eval hb
  have hv := Cond.le_ints hev (show (Term.int 260).eval args s none [] s = some (.int 260) from rfl)
  have hd : xs.length.toInt32 ≤ 260 := by
    simpa [Cond.before, Cond.holds, hv] using hle
  have hN : xs.length ≤ 260 := (Int32.ofNat_le_ofNat hsm (by decide)).mp (show Int32.ofNat xs.length ≤ Int32.ofNat 260 from hd)
  exact ⟨b, xs, Cond.one_arg hc (show args[0]? = some (.ref b) from hb), hx, hN, h⟩
theorem lw_comes (l : Launch) (hflags : l.flags = flags0) : Comes l x (Jvm.Cond.code x code maxLocals ret :: tables_1) room_1 (fun tb e args s => Calls_1 tb e args s ∧ rest_1 tb e args s ∧ Pre_1 tb e args s)
    (fun _ _ args s o t => lw_Q args s o t) := by
  intro p e ha hc hk s m args below hf hfit hheap happ hpre
  obtain ⟨b, xs, hP⟩ := lw_pre_spec hpre.2.2 hpre.2.1
  obtain ⟨k, o, h1, h2, h3, hQ⟩ := lw_walk l hflags b xs p e ha hc hk s m args below hf ((Spec.applies_iff_loose hf).mp happ).1 hP trivial
  exact ⟨k, o, h1, h2, h3, hQ⟩
theorem lw_frame {s t : State} {o : Outcome} {args : Array Value} (h : Framed s o t [] 600000 7302250) :
    Framed s o t (fieldLocs frame_1_writes args s ++ arrayLocs frame_1_arrays args s ++ staticLocs frame_1_statics s) 600000 7302250 := h
theorem lw_limb (L : Cond) (hL : ∀ (args : Array Value) (s t : State), L.after args s (.returned (some (.int 1))) t = true) :
    ArmFor flags0 classFile x code maxLocals ret World_1 tables_1 room_1 Calls_1 rest_1 Pre_1
      (fun tb e a s o t => postC L tb e a s o t ∧ Framed s o t (fieldLocs frame_1_writes a s ++ arrayLocs frame_1_arrays a s ++ staticLocs frame_1_statics s) 600000 7302250) := by
  intro l hflags _ _ p e ha hc hk s m args below hf hfit hheap happ hpre
  obtain ⟨k, o, h1, h2, h3, rfl, hF⟩ := lw_comes l hflags p e ha hc hk s m args below hf hfit hheap happ hpre
  exact ⟨k, _, h1, h2, h3, hL args s _, lw_frame hF⟩
theorem i_vc : Claimed_1_1 ∧ Claimed_1_2 := ⟨lw_limb limb_1_1 (fun args s t => by simp [limb_1_1, Cond.after, Cond.holds, Cond.value]), lw_limb limb_1_2 (fun args s t => Cond.after_iff.mpr (by
  first | (rw [show limb_1_2 = Cond.eq .result (.int 1) from rfl, Cond.eq_ints (x := 1) (y := 1) rfl rfl]; simp; done) | (simp [limb_1_2, Cond.value, Term.eval]; done)))⟩
