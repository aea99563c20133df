section
/-! the law from its entry on; written by hand, its end is the skeleton's -/
section
variable {d : Nat} {Q : zQ} {L : Nat} {I : zI} {R : Nat → Nat → Option Nat}
theorem b_law_4 (t : zcl d 76 66 2193 [zr 0] ((1, 13, L), I, R) (fun v h1 => zRn (zcl d) 205 (600000, 7302250) Q 7 [some (zr 2000), none, none, none] (zva v [zr 0]) h1)) : zRn (zcl d) 205 (600000, 7302250) Q 4 [some (zr 2000), none, none, none] [zr 0, zr 0] ((1, 13, L), I, R) :=
  zgo [7] 1 (And.intro (by decide : (zSh 0).1 < 13) (And.intro (Nat.le_of_ble_eq_true rfl) (Exists.intro 66 (Exists.intro 2193 (And.intro (Or.inr (Nat.le_of_ble_eq_true rfl : 1 + 66 ≤ 600000)) (And.intro (Or.inr (Nat.le_of_ble_eq_true rfl : 13 + 2193 ≤ 7302250)) t))))))
theorem b_law_12 (t : zcl d 132 13 1461 [zr 67] ((68, 2251, L), I, R) (fun v h1 => zRn (zcl d) 205 (600000, 7302250) Q 15 [some (zr 2000), some (zr 0), none, none] (zva v [zr 67]) h1)) : zRn (zcl d) 205 (600000, 7302250) Q 12 [some (zr 2000), some (zr 0), none, none] [zr 67, zr 67] ((68, 2251, L), I, R) :=
  zgo [15] 1 (And.intro (by decide : (zSh 67).1 < 13) (And.intro (Nat.le_of_ble_eq_true rfl) (Exists.intro 13 (Exists.intro 1461 (And.intro (Or.inr (Nat.le_of_ble_eq_true rfl : 68 + 13 ≤ 600000)) (And.intro (Or.inr (Nat.le_of_ble_eq_true rfl : 2251 + 1461 ≤ 7302250)) t))))))
end
def bYc (y : Nat) : Bool := Nat.blt 0 y && ((Nat.blt y 44 || Nat.blt 46 y) && (Nat.blt y 62 || Nat.blt 66 y))
theorem bYc_s {y : Nat} (h : bYc y = true) : y ≠ 0 ∧ ¬ (44 ≤ y ∧ y ≤ 46) ∧ ¬ (62 ≤ y ∧ y ≤ 66) := by
  unfold bYc at h
  rw [Bool.and_eq_true, Bool.and_eq_true, Bool.or_eq_true, Bool.or_eq_true] at h
  simp only [Nat.blt_eq] at h
  omega
section
variable {I J : zI}
theorem bJ_at (h : bJ I J) {y j : Nat} {v : Int} (hz : zhf bIz y = true) (hy : bYc y = true) (hk : zhk 0 bIl y j = some v) : zhl 0 J bIz y j = v := by
  obtain ⟨q1, q2, q3⟩ := bYc_s hy
  rw [zhf_at hz, h.1 y q1 q2 q3]
  exact zhk_at hk
theorem bJ_68 : (List.range 40).all (fun i => decide (zhk 0 bIz 68 (160 * 0 + i) = some (zT0 i) ∧ 0 ≤ zT0 i ∧ zT0 i ≤ 255)) = true := by decide +kernel
theorem bJ_w (h : bJ I J) : vW (zhl 0 J bIz) := by
  have e2 : ∀ j, zhl 0 J bIz 2 j = 0 := fun j => bJ_at h rfl rfl rfl
  have e7 : zhl 0 J bIz 0 7 = 1 := by rw [zhf_at rfl]; exact h.2.2.1
  have k : ∀ j, mK 2 (zhl 0 J bIz) 0 j = 0 := e2
  have m4 : zhl 0 J bIz 67 4 = 0 := zhk_at rfl
  have m7 : zhl 0 J bIz 67 7 = 0 := zhk_at rfl
  have m9 : zhl 0 J bIz 67 9 = 0 := zhk_at rfl
  have m11 : zhl 0 J bIz 67 11 = 0 := zhk_at rfl
  have m12 : zhl 0 J bIz 67 12 = 0 := zhk_at rfl
  have m13 : zhl 0 J bIz 67 13 = 0 := zhk_at rfl
  refine ⟨⟨⟨⟨by rw [k]; decide, fun p hp => ?_⟩, by rw [k]; decide, by rw [k]; decide⟩, by rw [k]; decide, fun j hj => ?_, by rw [k]; decide⟩, by rw [e2]; decide, ⟨⟨by rw [k, m9], by rw [k, m11], by rw [k, m7], by rw [k, m12], by rw [k, m4]⟩, fun j hj => ?_, fun p hp => ?_⟩, m13, by rw [e2, e7]; decide⟩
  · rw [k] at hp; exact absurd hp (by omega)
  · rw [k] at hj; exact absurd hj (by omega)
  · rw [k] at hj; exact absurd hj (by omega)
  · rw [k] at hp; exact absurd hp (by omega)
theorem bJ_t (h : bJ I J) : vT (zhl 0 J bIz) := by
  obtain ⟨-, -, e7, -, hXo, x0, x1, x2⟩ := h
  have e07 : zhl 0 J bIz 0 7 = 1 := by rw [zhf_at rfl]; exact e7
  have m3 : zhl 0 J bIz 67 3 = 1 := zhk_at rfl
  have e46 : zhl 0 J bIz (46 + 3 * 0) = J (46 + 3 * 0) := zhf_at rfl
  have e45 : zhl 0 J bIz (45 + 3 * 0) = J (45 + 3 * 0) := zhf_at rfl
  have e69 : zhl 0 J bIz 69 0 = 40 := zhk_at rfl
  have hb : ∀ i, i < 40 → nb (zhl 0 J bIz) 0 i = zT0 i ∧ 0 ≤ zT0 i ∧ zT0 i ≤ 255 := fun i hi => by
    have q := of_decide_eq_true (List.all_eq_true.mp bJ_68 i (List.mem_range.mpr hi))
    exact ⟨zhk_at q.1, q.2⟩
  have eb : ∀ i, i < 40 → nb (zhl 0 J bIz) 0 i = zT0 i := fun i hi => (hb i hi).1
  have eX : ∀ q, mX (zhl 0 J bIz) 0 q = mX J 0 q := fun q => by
    unfold mX mX0
    rw [e46, e45]
  have eR : nR (zhl 0 J bIz) 0 = (true, 9, [-2], [0], [0]) := by
    unfold nR
    rw [e69, show (40 : Int).toNat = 40 from rfl, mkd_cg eb, mvl_cg eb]
    exact zT0_40
  refine ⟨by rw [e07]; decide, by rw [e07, m3], fun t ht => ?_⟩
  rw [e07] at ht
  obtain rfl : t = 0 := by omega
  refine ⟨?_, ⟨by rw [eR], by rw [e69]; decide, fun i hi => ?_⟩, fun q => ?_⟩
  · unfold mXo at hXo ⊢
    rw [e46]
    exact hXo
  · rw [e69] at hi
    have := hb i (by omega)
    rw [this.1]
    exact this.2
  · rw [eX]
    unfold nT
    rw [eR, eX]
    match q with
    | 0 => exact x0
    | 1 => exact x1
    | 2 => exact x2
    | q + 3 => rw [if_neg (show ¬ (q + 3 < 3) by omega), if_pos (show 0 < 6 by decide)]
theorem bJ_s (h : bJ I J) : vS (zhl 0 J bIz) := by
  intro s hs
  match s, hs with
  | 0, _ => exact ⟨⟨by rw [bJ_at h (v := 0) rfl rfl rfl]; decide, by rw [bJ_at h (v := 0) rfl rfl rfl]; decide⟩, ⟨by rw [bJ_at h (v := -1) rfl rfl rfl]; decide, by rw [bJ_at h (v := -1) rfl rfl rfl]; decide⟩, Or.inl ⟨bJ_at h rfl rfl rfl, zhk_at rfl⟩⟩
  | 1, _ => exact ⟨⟨by rw [bJ_at h (v := 0) rfl rfl rfl]; decide, by rw [bJ_at h (v := 0) rfl rfl rfl]; decide⟩, ⟨by rw [bJ_at h (v := -1) rfl rfl rfl]; decide, by rw [bJ_at h (v := -1) rfl rfl rfl]; decide⟩, Or.inl ⟨bJ_at h rfl rfl rfl, zhk_at rfl⟩⟩
  | 2, _ => exact ⟨⟨by rw [bJ_at h (v := 0) rfl rfl rfl]; decide, by rw [bJ_at h (v := 0) rfl rfl rfl]; decide⟩, ⟨by rw [bJ_at h (v := -1) rfl rfl rfl]; decide, by rw [bJ_at h (v := -1) rfl rfl rfl]; decide⟩, Or.inl ⟨bJ_at h rfl rfl rfl, zhk_at rfl⟩⟩
  | 3, _ => exact ⟨⟨by rw [bJ_at h (v := 0) rfl rfl rfl]; decide, by rw [bJ_at h (v := 0) rfl rfl rfl]; decide⟩, ⟨by rw [bJ_at h (v := -1) rfl rfl rfl]; decide, by rw [bJ_at h (v := -1) rfl rfl rfl]; decide⟩, Or.inl ⟨bJ_at h rfl rfl rfl, zhk_at rfl⟩⟩
  | s + 4, hs => exact absurd hs (by omega)
theorem bJ_v (h : bJ I J) : vN (zhl 0 J bIz) := by
  have m6 : zhl 0 J bIz 67 6 = 0 := zhk_at rfl
  have e62 : zhl 0 J bIz 62 1 = 0 := by rw [zhf_at rfl]; exact h.2.2.2.1
  refine ⟨bJ_w h, bJ_t h, ⟨by rw [m6, e62], by rw [e62]; decide, fun j hj => ?_⟩, bJ_s h, Or.inl ⟨?_, zhk_at rfl⟩⟩
  · rw [e62] at hj; exact absurd hj (by omega)
  · rw [zhf_at rfl, h.2.1 4 (by decide)]
end
theorem law_run {L : Nat} {xs : Nat → Int32} (hL : L ≤ 3072) : zRn (zcl 100) 205 (600000, 7302250) (fun v _ => v = some (.inl 1)) 0 [some (.inr (.inr (some 2000))), none, none, none] [] ((0, 0, L), zI0 L xs, fun _ _ => none) := by
  refine b_law_0 (b_law_3 (b_law_4 (b_76 (d := 56) (fun J g1 hJ => b_law_7 (b_law_11 (b_law_12 (b_132 (d := 98) (b_law_15 ?_))))))))
  have e : ∀ j, zhl 0 J bIz 2000 j = zI0 L xs 2000 j := fun j => by
    rw [zhf_at rfl, hJ.1 2000 (by decide) (by decide) (by decide), zhf_at rfl]
  refine law_loop (c := (81, 3712, L)) hL (fun _ => rfl) 513 0 _ g1 ?_ (bJ_v hJ) (fun j => ?_)
  · show L < 6 * (0 + 513)
    omega
  · rw [e]
    unfold zI0
    by_cases q : 2000 = 2000 ∧ j < L
    · rw [if_pos q]; exact ztI _
    · rw [if_neg q]; decide
theorem whole_start {p : Program} {e : Env} {s : State} {m : MethodId} {below : List Frame} {meth : Method} {c : Code} (l : Launch) (hflags : l.flags = flags0) {b L : Nat} {xs : Nat → Int32} (hL : L ≤ 3072) (C0 : lw_At p s m meth c b L xs) : W p l e room_1 s m #[Value.ref b] below meth c s.heap [] 0 0 (lw_Z below #[Value.ref b] s) (entryFrame m ([Value.ref b] : List Value).toArray 4) :=
  zlaw_start l hL C0 (law_run hL)
end
-- ===== YOUR PART ENDS =====
set_option maxHeartbeats 4000000 in
theorem lw_walk (l : Launch) (hflags : l.flags = flags0) (b : Addr) (xs : List Int32) : MetFree l x (headSpec (Jvm.Cond.code x code maxLocals ret :: tables_1) room_1) (lw_P b xs) (fun _ _ _ _ _ => True) lw_Q := by
  refine MetFree.of_bodyS (code := code) (maxLocals := maxLocals) (ret := ret) (by decide) ?_ ?_
  · intro args s m h hn
    obtain ⟨meth, c, h1, h2, h3, h4, h5, h6, -, -⟩ := Cond.code_spec hn (atoms_spec (ws := Jvm.Cond.code x code maxLocals ret :: tables_1) h _ List.mem_cons_self)
    exact ⟨meth, c, h1, h2, h3, h4, h5, h6⟩
  · intro p e s m args below meth c s₁ B hml0 hP _
    obtain ⟨rfl, hx, hbd, hgv⟩ := hP
    obtain ⟨scr, harrAt, hlist, hof, hsmall⟩ := hx
    obtain ⟨hcb, hkn, -, -⟩ := State.arrayAt?_spec harrAt
    have hown : s.vm.findClass R_law = some m.cls := findClass_of_methodNamed B.named
    have hts0 : ∀ c ∈ (Jvm.Cond.code x code maxLocals ret :: tables_1), c.before #[Value.ref b] s = true := atoms_spec (ws := Jvm.Cond.code x code maxLocals ret :: tables_1) B.pre
    have hts : ∀ w ∈ lw_tbl, w.before #[Value.ref b] s = true := k2_hts_sels lw_privs (fun w hw => hts0 w (List.mem_cons_of_mem _ hw)) lw_privs_ok
    have hml : c.maxLocals = 4 := B.maxLocals_eq (hts0 _ List.mem_cons_self)
    have X₀ : Stand p l e room_1 s m #[Value.ref b] below meth c s₁ [] 0 0 := Stand.of_body B
    have hh0 : s₁.heap = s.heap := by rw [B.state]; rfl
    have hsz : scr.slots.size = xs.length := by rw [← Array.length_toList, hlist, List.length_map]
    have hval : ∀ j : Nat, j < xs.length → scr.slots[j]? = some (.int (xs.getD j 0)) := fun j hj => by
      rw [← Array.getElem?_toList, hlist]
      simp [hj]
    have hbl : b < s.heap.size := (Array.getElem?_eq_some_iff.mp hcb).1
    have hX : va_X b xs.length (fun j => xs.getD j 0) s s.heap := ⟨scr, hcb, hof, hkn, hsz, hval⟩
    have K : W p l e room_1 s m #[Value.ref b] below meth c s₁.heap [] 0 0 (lw_Z below #[Value.ref b] s) (entryFrame m ([Value.ref b] : List Value).toArray 4) := by
      rw [hh0]
      exact whole_start l hflags hbd ⟨B.exec, B.bytes, B.returns, hml, hown, hts, hX, hbl, B.notSynchronized, hgv⟩
    obtain ⟨t, a1, o, b1, b2, b3⟩ := K s₁ rfl X₀
    exact ⟨t, o, a1, b1, b2, b3⟩
theorem lw_pre_spec {args : Array Value} {s : State} (h : (Jvm.Cond.and given_1 narrow_1).before args s = true) (hr : rest_1_c.before args s = true) : ∃ (b : Addr) (xs : List Int32), lw_P b xs args s := by
  have hs := flat_of_before _ h
  have hq := flat_of_before _ hr
  have hc : (Cond.count 1).before args s = true := hs _ (by decide +kernel)
  have harr : (Cond.arrayOf (.arg 0) .int).before args s = true := hs _ (by decide +kernel)
  have hle : (Cond.le (.length (.arg 0)) (.int 3072)).before args s = true := hs _ (by decide +kernel)
  have hlen : (Cond.isInt (.length (.arg 0))).before args s = true := hq _ (by decide +kernel)
  have hall : (Cond.all (.arg 0) (.isInt (.elem (.arg 0) (.index 0)))).before args s = true := hq _ (by decide +kernel)
  obtain ⟨b, xs, hb, hx⟩ := State.ints_of_pre rfl harr hlen hall
  have hsm : xs.length < 2 ^ 31 := hx.choose_spec.2.2.2
  have hev : (Term.length (.arg 0)).eval args s none [] s = some (.int xs.length.toInt32) := hx.length_eval hb
  have hv := Cond.le_ints hev (show (Term.int 3072).eval args s none [] s = some (.int 3072) from rfl)
  have hd : xs.length.toInt32 ≤ 3072 := by
    simpa [Cond.before, Cond.holds, hv] using hle
  have hN : xs.length ≤ 3072 := (Int32.ofNat_le_ofNat hsm (by decide)).mp (show Int32.ofNat xs.length ≤ Int32.ofNat 3072 from hd)
  exact ⟨b, xs, Cond.one_arg hc (show args[0]? = some (.ref b) from hb), hx, hN, h⟩
theorem lw_comes (l : Launch) (hflags : l.flags = flags0) : Comes l x (Jvm.Cond.code x code maxLocals ret :: tables_1) room_1 (fun tb e args s => Calls_1 tb e args s ∧ rest_1 tb e args s ∧ Pre_1 tb e args s)
    (fun _ _ args s o t => lw_Q args s o t) := by
  intro p e ha hc hk s m args below hf hfit hheap happ hpre
  obtain ⟨b, xs, hP⟩ := lw_pre_spec hpre.2.2 hpre.2.1
  obtain ⟨k, o, h1, h2, h3, hQ⟩ := lw_walk l hflags b xs p e ha hc hk s m args below hf ((Spec.applies_iff_loose hf).mp happ).1 hP trivial
  exact ⟨k, o, h1, h2, h3, hQ⟩
theorem lw_frame {s t : State} {o : Outcome} {args : Array Value} (h : Framed s o t [] 600000 7302250) :
    Framed s o t (fieldLocs frame_1_writes args s ++ arrayLocs frame_1_arrays args s ++ staticLocs frame_1_statics s) 600000 7302250 := h
theorem lw_limb (L : Cond) (hL : ∀ (args : Array Value) (s t : State), L.after args s (.returned (some (.int 1))) t = true) :
    ArmFor flags0 classFile x code maxLocals ret World_1 tables_1 room_1 Calls_1 rest_1 Pre_1
      (fun tb e a s o t => postC L tb e a s o t ∧ Framed s o t (fieldLocs frame_1_writes a s ++ arrayLocs frame_1_arrays a s ++ staticLocs frame_1_statics s) 600000 7302250) := by
  intro l hflags _ _ p e ha hc hk s m args below hf hfit hheap happ hpre
  obtain ⟨k, o, h1, h2, h3, rfl, hF⟩ := lw_comes l hflags p e ha hc hk s m args below hf hfit hheap happ hpre
  exact ⟨k, _, h1, h2, h3, hL args s _, lw_frame hF⟩
theorem i_vc : Claimed_1_1 ∧ Claimed_1_2 := ⟨lw_limb limb_1_1 (fun args s t => by simp [limb_1_1, Cond.after, Cond.holds, Cond.value]), lw_limb limb_1_2 (fun args s t => Cond.after_iff.mpr (by
  first | (rw [show limb_1_2 = Cond.eq .result (.int 1) from rfl, Cond.eq_ints (x := 1) (y := 1) rfl rfl]; simp; done) | (simp [limb_1_2, Cond.value, Term.eval]; done)))⟩
