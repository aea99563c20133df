/-! operations on the heap are the machine's; written out of wip/whole/13.src -/
theorem z2_ne {α : Type} {f : Nat → Nat → α} {a j y : Nat} {v : α} (h : y ≠ a) : z2 f a j v y = f y := by
  funext k
  unfold z2
  rw [if_neg (fun q => h q.1)]
theorem z2_eq {α : Type} {f : Nat → Nat → α} {a j : Nat} {v : α} : z2 f a j v a j = v := by
  unfold z2
  rw [if_pos ⟨rfl, rfl⟩]
theorem z2_nj {α : Type} {f : Nat → Nat → α} {a j y i : Nat} {v : α} (h : i ≠ j) : z2 f a j v y i = f y i := by
  unfold z2
  rw [if_neg (fun q => h q.2)]
theorem z2_if {α : Type} (f : Nat → Nat → α) (a j y i : Nat) (v : α) : z2 f a j v y i = if y = a ∧ i = j then v else f y i := rfl
theorem zCe_congr {dA : Nat → ClassId} {ad : Nat → Nat} {h h1 : zH} {y : Nat} (e1 : h1.2.1 y = h.2.1 y) (e2 : h1.2.2 y = h.2.2 y) : zCe dA ad h1 y = zCe dA ad h y := by
  have e3 : ∀ c, zFv ad h1 y c = zFv ad h y c := by
    intro c
    funext j
    unfold zFv
    rw [e1, e2]
  unfold zCe
  rw [e1, e2, e3]
theorem zCe_obj {dA : Nat → ClassId} {ad : Nat → Nat} {h : zH} {x c n : Nat} (hs : zSh x = (c, n)) (hc : c < 100) : zCe dA ad h x = .inr (c, (List.range n).map (zFv ad h x c)) := by
  unfold zCe
  have : Nat.blt (zSh x).1 100 = true := by rw [hs]; exact Nat.blt_eq.mpr hc
  rw [this, hs]
theorem zCe_ia {dA : Nat → ClassId} {ad : Nat → Nat} {h : zH} {x n : Nat} (hs : zSh x = (100, n)) : zCe dA ad h x = .inl (dA 0, n, .inl (fun j => zo (h.2.1 x j))) := by
  unfold zCe
  rw [hs]
  rfl
theorem zCe_za {dA : Nat → ClassId} {ad : Nat → Nat} {h : zH} {x n : Nat} (hs : zSh x = (101, n)) : zCe dA ad h x = .inl (dA 1, n, .inl (fun j => zo (h.2.1 x j))) := by
  unfold zCe
  rw [hs]
  rfl
theorem zCe_ra {dA : Nat → ClassId} {ad : Nat → Nat} {h : zH} {x t n : Nat} (hs : zSh x = (t, n)) (h1 : 102 ≤ t) : zCe dA ad h x = .inl (dA (t - 100), n, .inr (.inr (.inr (.inr (fun j => if j < n then (h.2.2 x j).map ad else none))))) := by
  unfold zCe
  have a1 : Nat.blt (zSh x).1 100 = false := by
    rw [hs]
    cases q : Nat.blt t 100 with
    | false => rfl
    | true => have := Nat.blt_eq.mp q; omega
  have a2 : Nat.blt (zSh x).1 102 = false := by
    rw [hs]
    cases q : Nat.blt t 102 with
    | false => rfl
    | true => have := Nat.blt_eq.mp q; omega
  rw [a1, a2, hs]
theorem zVal.setI {h : zH} (hv : zVal h) {x j : Nat} {v : Int} (hok : match zIl x j with | true => zIm v | false => zIn v) : zVal (h.1, z2 h.2.1 x j v, h.2.2) := by
  refine ⟨hv.1, fun y hy i => ?_, hv.2.2⟩
  show match zIl y i with | true => zIm (z2 h.2.1 x j v y i) | false => zIn (z2 h.2.1 x j v y i)
  rw [z2_if]
  by_cases q : y = x ∧ i = j
  · rw [if_pos q]
    obtain ⟨rfl, rfl⟩ := q
    exact hok
  · rw [if_neg q]
    exact hv.2.1 y hy i
theorem zVal.setR {h : zH} (hv : zVal h) {x j z : Nat} (hz : z < h.1.1 ∨ 1000 ≤ z) : zVal (h.1, h.2.1, z2 h.2.2 x j (some z)) := by
  refine ⟨hv.1, hv.2.1, fun y hy i hi w hw => ?_⟩
  have hw : z2 h.2.2 x j (some z) y i = some w := hw
  rw [z2_if] at hw
  by_cases q : y = x ∧ i = j
  · rw [if_pos q] at hw
    cases hw
    exact hz
  · rw [if_neg q] at hw
    exact hv.2.2 y hy i hi w hw
theorem zSh_pair {x c : Nat} (h : (zSh x).1 = c) (hc : c < 13) : zSh x = (c, zNF c) ∧ x < 67 := by
  have hl : x < 67 := zSh_lt (by rw [h]; omega)
  refine ⟨?_, hl⟩
  rcases zSh_ok hl with q | q
  · omega
  · rw [← h, ← q.2]
theorem zSh_arr {x t : Nat} (h : (zSh x).1 = t) (ht : t ≠ 999) : zSh x = (t, (zSh x).2) ∧ x < 67 := ⟨by rw [← h], zSh_lt (by rw [h]; exact ht)⟩
theorem zxN {x N c : Nat} (h : zVd N (.inr (.inr (some x)))) (hs : (zSh x).1 = c) (hc : c ≠ 999) : x < N := by
  rcases h x rfl with q | q
  · exact q
  · rw [zSh_big (by omega)] at hs
    exact absurd hs.symm hc
section
variable {p : Program} {l : Launch} {e : Env} {R : Room} {s : State} {m : MethodId} {args : Array Value} {below : List Frame} {meth : Method} {c : Code} {Qf : State → Prop} {D : va_G} {dA : Nat → ClassId} {A : Nat → Prop} {aC aV : Nat → Nat} {L : Nat} {xs : Nat → Int32} {N0 S0 M0 M1 k : Nat}
theorem zSt.upd {ad : Nat → Nat} {h h1 : zH} {H H1 : Heap} {locs locs1 : List Loc} {cells slots x : Nat} (hS : zSt D dA A aC L xs s N0 S0 M0 M1 R ad h H locs cells slots) (e1 : h1.1 = h.1) (he : ∀ y, y ≠ x → zCe dA ad h1 y = zCe dA ad h y) (hv : zVal h1) (hI : ∀ j, h1.2.1 2000 j = h.2.1 2000 j)
    (p1 : va_P D zvCl ((zWs dA ad h).set x (ad x, zCe dA ad h1 x)) H1) (d1 : va_D A ((zWs dA ad h).set x (ad x, zCe dA ad h1 x))) (s1 : va_S A s.heap H1 locs1) : zSt D dA A aC L xs s N0 S0 M0 M1 R ad h1 H1 locs1 cells slots := by
  have e : (zWs dA ad h).set x (ad x, zCe dA ad h1 x) = zWs dA ad h1 := zWs_set dA ad (by rw [e1]) he
  rw [e] at p1 d1
  obtain ⟨-, -, -, -, a5, a6, a7, a8, a9⟩ := hS
  exact ⟨p1, d1, s1, hv, a5, by rw [e1]; exact a6, a7, by rw [e1]; exact a8, fun j hj => by rw [hI]; exact a9 j hj⟩
theorem zs_gf {i a b pc : Nat} {ls : zLv} {st : List zV} {h : zH} (hx : p.tables.exec = Jvm.exec) (hb : c.code = zB k) (hts : ∀ w ∈ zGL, w.before args s = true) (hown : s.vm.findClass (zR (zO k)) = some m.cls) (hK : va_K D zvCl (zTys dA) s) (hd : decode (zB k) pc = .ok (.getfield i, 3)) (hf : (zO k, i, a, b) ∈ zFT) (hbn : b < zNF a) (ha : a < 13) (H : zo_gf a b (zPp p l e R s m args below meth c Qf D dA A aC L xs N0 S0 M0 M1 k) pc ls st h) : zPp p l e R s m args below meth c Qf D dA A aC L xs N0 S0 M0 M1 k pc ls st h := by
  unfold zo_gf at H
  split at H
  · rename_i x r
    intro ad Hp lsA locs cells slots hS hL hst
    obtain ⟨h1, hst⟩ := zst_cons hst
    obtain ⟨g1, H⟩ := H
    have hN := zxN h1 g1 (by omega)
    obtain ⟨g2, -⟩ := zSh_pair g1 ha
    have hv := hS.2.2.2.1
    have row : ∀ {v : Value}, zFv ad h x a b = v → W p l e R s m args below meth c Hp locs cells slots Qf (F0 m (pc + 3) lsA (v :: r.map (zEv ad))) → W p l e R s m args below meth c Hp locs cells slots Qf (F0 m pc lsA (.ref (ad x) :: r.map (zEv ad))) := by
      intro v hv2 kk
      refine va_get hx hb hts (zWS_ok a ha) hown hK hS.1 x (ci := a) (fs := (List.range (zNF a)).map (zFv ad h x a)) ?_ (zcl_ok a ha) b hbn (hts _ (zFT_ok _ hf)) (fun _ q => q) (v := v) ?_ hd kk
      · rw [zWs_at dA ad hN, zCe_obj g2 (by omega)]
      · rw [List.getElem?_map, List.getElem?_range hbn]
        exact congrArg some hv2
    have hil : zIl x b = Nat.beq (zKd a b) 1 := by
      unfold zIl
      rw [g1, show Nat.blt a 100 = true from Nat.blt_eq.mpr (by omega)]
      rfl
    have hv2 := hv.2.1 x hN b
    rw [hil] at hv2
    split at H
    · rename_i hk
      rw [hk] at hv2
      exact row (by unfold zFv; rw [hk]; rfl) (H ad Hp lsA locs cells slots hS hL (zst_mk (v := .inr (.inl _)) hv2 hst))
    · rename_i hk
      obtain ⟨v, e1, H⟩ := H
      exact row (by unfold zFv; rw [hk, e1]; rfl) (H ad Hp lsA locs cells slots hS hL (zst_mk (v := .inr (.inr v)) (fun y hy => hv.2.2 x hN b (by rw [g2]; exact hbn) y (e1.trans hy)) hst))
    · rename_i k1 k2
      have hk1 : Nat.beq (zKd a b) 1 = false := by
        cases q : Nat.beq (zKd a b) 1 with
        | false => rfl
        | true => exact absurd (Nat.eq_of_beq_eq_true q) k1
      rw [hk1] at hv2
      refine row ?_ (H ad Hp lsA locs cells slots hS hL (zst_mk (v := .inl _) hv2 hst))
      unfold zFv
      split
      · rename_i q; exact absurd q k1
      · rename_i q; exact absurd q k2
      · rfl
  · exact H.elim
theorem zs_pf {i a b pc : Nat} {ls : zLv} {st : List zV} {h : zH} (hx : p.tables.exec = Jvm.exec) (hb : c.code = zB k) (hts : ∀ w ∈ zGL, w.before args s = true) (hown : s.vm.findClass (zR (zO k)) = some m.cls) (hK : va_K D zvCl (zTys dA) s) (hnm : (zY k).name = "<init>" → meth.name = "<init>") (hd : decode (zB k) pc = .ok (.putfield i, 3)) (hf : (zO k, i, a, b) ∈ zFT) (hbn : b < zNF a) (ha : a < 13) (hfin : (zT a b).2.2.2 = false ∨ ((zY k).name = "<init>" ∧ (zT a b).1 = zR (zO k))) (H : zo_pf a b (zPp p l e R s m args below meth c Qf D dA A aC L xs N0 S0 M0 M1 k) pc ls st h) : zPp p l e R s m args below meth c Qf D dA A aC L xs N0 S0 M0 M1 k pc ls st h := by
  unfold zo_pf at H
  split at H
  · rename_i v x r
    intro ad Hp lsA locs cells slots hS hL hst
    obtain ⟨h0, hst1⟩ := zst_cons hst
    obtain ⟨h1, hr⟩ := zst_cons hst1
    obtain ⟨g1, H⟩ := H
    have hN := zxN h1 g1 (by omega)
    obtain ⟨g2, -⟩ := zSh_pair g1 ha
    have hv := hS.2.2.2.1
    have hN2 : x ≠ 2000 := by have := hv.1; omega
    have hil : zIl x b = Nat.beq (zKd a b) 1 := by
      unfold zIl
      rw [g1, show Nat.blt a 100 = true from Nat.blt_eq.mpr (by omega)]
      rfl
    have hws : (zWs dA ad h)[x]? = some (ad x, .inr (a, (List.range (zNF a)).map (zFv ad h x a))) := by rw [zWs_at dA ad hN, zCe_obj g2 (by omega)]
    have row : ∀ {vv : Value}, narrow (zTy a b) vv = vv → fits (zTy a b) vv = true → (∀ (H1 : Heap) (locs1 : List Loc), va_P D zvCl ((zWs dA ad h).set x (ad x, .inr (a, ((List.range (zNF a)).map (zFv ad h x a)).set b vv))) H1 → va_D A ((zWs dA ad h).set x (ad x, .inr (a, ((List.range (zNF a)).map (zFv ad h x a)).set b vv))) → va_S A s.heap H1 locs1 → W p l e R s m args below meth c H1 locs1 cells slots Qf (F0 m (pc + 3) lsA (r.map (zEv ad)))) → W p l e R s m args below meth c Hp locs cells slots Qf (F0 m pc lsA (vv :: .ref (ad x) :: r.map (zEv ad))) := by
      intro vv n1 n2 kk
      rcases hfin with hfin | ⟨f1, f2⟩
      · exact va_put hx hb hts (zWS_ok a ha) (zTy a) (zty_ok a ha) (znm_ok a ha) hown hK hS.1 hS.2.1 hS.2.2.1 x hws (zcl_ok a ha) b hbn (hts _ (zFT_ok _ hf)) (fun _ q => q) hfin (zty_ok a ha b hbn) n1 n2 (by simpa using hbn) hd kk
      · cases hfl : (zT a b).2.2.2 with
        | false => exact va_put hx hb hts (zWS_ok a ha) (zTy a) (zty_ok a ha) (znm_ok a ha) hown hK hS.1 hS.2.1 hS.2.2.1 x hws (zcl_ok a ha) b hbn (hts _ (zFT_ok _ hf)) (fun _ q => q) hfl (zty_ok a ha b hbn) n1 n2 (by simpa using hbn) hd kk
        | true => exact va_putF hx hb hts (zWS_ok a ha) (zTy a) (zty_ok a ha) (znm_ok a ha) hown hK hS.1 hS.2.1 hS.2.2.1 x hws (zcl_ok a ha) b hbn (hts _ (zFT_ok _ hf)) (fun _ q => q) hfl (hnm f1) f2 (zty_ok a ha b hbn) n1 n2 (by simpa using hbn) hd kk
    have hkc := zKc_ok ha hbn
    have goI : ∀ {y : Int} {vv : Value}, (match Nat.beq (zKd a b) 1 with | true => zIm y | false => zIn y) → zFv ad (h.1, z2 h.2.1 x b y, h.2.2) x a b = vv → narrow (zTy a b) vv = vv → fits (zTy a b) vv = true → zPp p l e R s m args below meth c Qf D dA A aC L xs N0 S0 M0 M1 k (pc + 3) ls r (h.1, z2 h.2.1 x b y, h.2.2) → W p l e R s m args below meth c Hp locs cells slots Qf (F0 m pc lsA (vv :: .ref (ad x) :: r.map (zEv ad))) := by
      intro y vv o1 o2 n1 n2 HP
      refine row n1 n2 (fun H1 locs1 p1 d1 s1 => ?_)
      have ec : zCe dA ad (h.1, z2 h.2.1 x b y, h.2.2) x = .inr (a, ((List.range (zNF a)).map (zFv ad h x a)).set b vv) := by
        rw [zCe_obj g2 (by omega)]
        refine congrArg (fun z => Sum.inr (a, z)) (Eq.symm (zmap_set o2 (fun j hj => ?_)))
        unfold zFv
        rw [show (h.1, z2 h.2.1 x b y, h.2.2).2.1 x j = h.2.1 x j from z2_nj hj]
      rw [← ec] at p1 d1
      exact HP ad H1 lsA locs1 cells slots (hS.upd rfl (fun z hz => zCe_congr (z2_ne hz) rfl) (hv.setI (by rw [hil]; exact o1)) (fun j => by rw [show (h.1, z2 h.2.1 x b y, h.2.2).2.1 2000 = h.2.1 2000 from z2_ne (Ne.symm hN2)]) p1 d1 s1) hL hr
    split at H
    · rename_i y hk
      rw [hk] at hkc
      have ht : zTy a b = .int := by
        generalize zTy a b = t at hkc
        cases t <;> simp [zKc] at hkc
        rfl
      exact goI (by rw [hk]; exact h0) (by unfold zFv; rw [hk]; show Value.int (zo (z2 h.2.1 x b y x b)) = _; rw [z2_eq]; rfl) (by rw [ht]; rfl) (by rw [ht]; rfl) H
    · rename_i y hk
      rw [hk] at hkc
      have ht : zTy a b = .long := by
        generalize zTy a b = t at hkc
        cases t <;> simp [zKc] at hkc
        rfl
      exact goI (by rw [hk]; exact h0) (by unfold zFv; rw [hk]; show Value.long (zp (z2 h.2.1 x b y x b)) = _; rw [z2_eq]; rfl) (by rw [ht]; rfl) (by rw [ht]; rfl) H
    · rename_i y hk
      rw [hk] at hkc
      have hn : narrow (zTy a b) (.ref (ad y)) = .ref (ad y) ∧ fits (zTy a b) (.ref (ad y)) = true := by
        generalize zTy a b = t at hkc
        cases t <;> simp [zKc] at hkc <;> exact ⟨rfl, rfl⟩
      refine row hn.1 hn.2 (fun H1 locs1 p1 d1 s1 => ?_)
      have ec : zCe dA ad (h.1, h.2.1, z2 h.2.2 x b (some y)) x = .inr (a, ((List.range (zNF a)).map (zFv ad h x a)).set b (zEv ad (.inr (.inr (some y))))) := by
        rw [zCe_obj g2 (by omega)]
        refine congrArg (fun z => Sum.inr (a, z)) (Eq.symm (zmap_set ?_ (fun j hj => ?_)))
        · unfold zFv
          rw [hk]
          show va_rf ((z2 h.2.2 x b (some y) x b).map ad) = _
          rw [z2_eq]
          rfl
        · unfold zFv
          rw [show (h.1, h.2.1, z2 h.2.2 x b (some y)).2.2 x j = h.2.2 x j from z2_nj hj]
      rw [← ec] at p1 d1
      exact H ad H1 lsA locs1 cells slots (hS.upd rfl (fun z hz => zCe_congr rfl (z2_ne hz)) (hv.setR (h0 y rfl)) (fun j => rfl) p1 d1 s1) hL hr
    · rename_i y hk
      rw [hk] at hkc
      have ht : zTy a b = .boolean := by
        generalize zTy a b = t at hkc
        cases t <;> simp [zKc] at hkc
        rfl
      refine goI (by rw [hk]; exact h0) (by unfold zFv; rw [hk]; show Value.int (zo (z2 h.2.1 x b y x b)) = _; rw [z2_eq]; rfl) ?_ ?_ H.2
      · rw [ht]; rcases H.1 with rfl | rfl <;> rfl
      · rw [ht]; rcases H.1 with rfl | rfl <;> rfl
    · exact H.elim
  · exact H.elim
theorem zs_ild {t pc : Nat} {ls : zLv} {st : List zV} {h : zH} (hx : p.tables.exec = Jvm.exec) (hb : c.code = zB k) (hK : va_K D zvCl (zTys dA) s) (ht : (t = 100 ∧ decode (zB k) pc = .ok (.iaload, 1)) ∨ (t = 101 ∧ False)) (H : zo_ild t (zPp p l e R s m args below meth c Qf D dA A aC L xs N0 S0 M0 M1 k) pc ls st h) : zPp p l e R s m args below meth c Qf D dA A aC L xs N0 S0 M0 M1 k pc ls st h := by
  unfold zo_ild at H
  split at H
  · rename_i i x r
    intro ad Hp lsA locs cells slots hS hL hst
    obtain ⟨h0, hst⟩ := zst_cons hst
    obtain ⟨h1, hst⟩ := zst_cons hst
    obtain ⟨g1, gi, H⟩ := H
    have hN := zxN h1 g1 (by rcases ht with q | q <;> omega)
    obtain ⟨g2, -⟩ := zSh_arr g1 (by rcases ht with q | q <;> omega)
    have hv := hS.2.2.2.1.2.1 x hN i.toNat
    rw [show zIl x i.toNat = false by unfold zIl; rw [g1, show Nat.blt t 100 = false by rcases ht with ⟨rfl, -⟩ | ⟨rfl, -⟩ <;> rfl]; rfl] at hv
    have kk := H ad Hp lsA locs cells slots hS hL (zst_mk (v := .inl _) hv hst)
    obtain ⟨i1, i2⟩ := zix gi h0
    rcases ht with ⟨rfl, hd⟩ | ⟨rfl, hd⟩
    · refine va_iald hx hb hK hS.1 x 0 (n := (zSh x).2) (f := fun j => zo (h.2.1 x j)) (by rw [zWs_at dA ad hN, zCe_ia g2]) (zTys_at dA (by omega)) i1 hd ?_
      rw [i2]
      exact kk
    · exact hd.elim
  · exact H.elim
theorem zs_ist {pc : Nat} {ls : zLv} {st : List zV} {h : zH} (hx : p.tables.exec = Jvm.exec) (hb : c.code = zB k) (hK : va_K D zvCl (zTys dA) s) (hd : decode (zB k) pc = .ok (.iastore, 1)) (H : zo_ist 100 (zPp p l e R s m args below meth c Qf D dA A aC L xs N0 S0 M0 M1 k) pc ls st h) : zPp p l e R s m args below meth c Qf D dA A aC L xs N0 S0 M0 M1 k pc ls st h := by
  unfold zo_ist at H
  split at H
  · rename_i y i x r
    intro ad Hp lsA locs cells slots hS hL hst
    obtain ⟨hy, hst⟩ := zst_cons hst
    obtain ⟨h0, hst⟩ := zst_cons hst
    obtain ⟨h1, hst⟩ := zst_cons hst
    obtain ⟨g1, gi, H⟩ := H
    have hN := zxN h1 g1 (by omega)
    obtain ⟨g2, -⟩ := zSh_arr g1 (by omega)
    have hv := hS.2.2.2.1
    have hN2 : x ≠ 2000 := by have := hv.1; omega
    obtain ⟨i1, i2⟩ := zix gi h0
    refine va_iast hx hb hK hS.1 hS.2.1 hS.2.2.1 x 0 (n := (zSh x).2) (f := fun j => zo (h.2.1 x j)) (by rw [zWs_at dA ad hN, zCe_ia g2]) (zTys_at dA (by omega)) i1 hd (fun H1 locs1 p1 d1 s1 => ?_)
    have ec : zCe dA ad (h.1, z2 h.2.1 x i.toNat y, h.2.2) x = .inl (dA 0, (zSh x).2, .inl (upd (fun j => zo (h.2.1 x j)) (zo i).toNatClampNeg (zo y))) := by
      rw [zCe_ia g2, i2]
      refine congrArg (fun z => Sum.inl (dA 0, (zSh x).2, Sum.inl z)) ?_
      funext j
      show zo (z2 h.2.1 x i.toNat y x j) = upd _ _ _ j
      unfold upd
      rw [z2_if]
      by_cases q : j = i.toNat
      · rw [if_pos ⟨rfl, q⟩, if_pos q]
      · rw [if_neg (fun z => q z.2), if_neg q]
    rw [← ec] at p1 d1
    refine H ad H1 lsA locs1 cells slots (hS.upd rfl (fun z hz => zCe_congr (z2_ne hz) rfl) (hv.setI ?_) (fun j => by rw [show (h.1, z2 h.2.1 x i.toNat y, h.2.2).2.1 2000 = h.2.1 2000 from z2_ne (Ne.symm hN2)]) p1 d1 s1) hL hst
    rw [show zIl x i.toNat = false by unfold zIl; rw [g1]; rfl]
    exact hy
  · exact H.elim
theorem zTy_ref {t : Nat} (h : 2 ≤ t) (h2 : t ≤ 5) : zgt .int zTyL t = .object (zR (zAc t)) := by
  match t, h, h2 with
  | 2, _, _ => rfl
  | 3, _, _ => rfl
  | 4, _, _ => rfl
  | 5, _, _ => rfl
  | 0, h, _ => exact absurd h (by omega)
  | 1, h, _ => exact absurd h (by omega)
  | t + 6, _, h => exact absurd h (by omega)
theorem zs_ald {pc : Nat} {ls : zLv} {st : List zV} {h : zH} (hx : p.tables.exec = Jvm.exec) (hb : c.code = zB k) (hK : va_K D zvCl (zTys dA) s) (hd : decode (zB k) pc = .ok (.aaload, 1)) (H : zo_ald (zPp p l e R s m args below meth c Qf D dA A aC L xs N0 S0 M0 M1 k) pc ls st h) : zPp p l e R s m args below meth c Qf D dA A aC L xs N0 S0 M0 M1 k pc ls st h := by
  unfold zo_ald at H
  split at H
  · rename_i i x r
    intro ad Hp lsA locs cells slots hS hL hst
    obtain ⟨h0, hst⟩ := zst_cons hst
    obtain ⟨h1, hst⟩ := zst_cons hst
    obtain ⟨⟨g0, g1⟩, gi, v, e1, H⟩ := H
    have hN := zxN h1 rfl (by omega)
    have hlt : i.toNat < (zSh x).2 := by omega
    have kk := H ad Hp lsA locs cells slots hS hL (zst_mk (v := .inr (.inr v)) (fun y hy => hS.2.2.2.1.2.2 x hN i.toNat hlt y (e1.trans hy)) hst)
    obtain ⟨i1, i2⟩ := zix gi h0
    refine va_aldq hx hb hK hS.1 x ((zSh x).1 - 100) (C := zR (zAc ((zSh x).1 - 100))) (n := (zSh x).2) (f := fun j => if j < (zSh x).2 then (h.2.2 x j).map ad else none) (by rw [zWs_at dA ad hN, zCe_ra (t := (zSh x).1) (n := (zSh x).2) rfl g0]) (by rw [zTys_at dA (by omega), zTy_ref (by omega) (by omega)]) i1 hd ?_
    rw [i2, if_pos hlt, e1]
    exact kk
  · exact H.elim
theorem zs_ast {pc : Nat} {ls : zLv} {st : List zV} {h : zH} (hx : p.tables.exec = Jvm.exec) (hb : c.code = zB k) (hK : va_K D zvCl (zTys dA) s) (hca : ∀ c ∈ [1, 2, 3, 4, 6], va_Nw (.castable (zR c) RX9) s) (hd : decode (zB k) pc = .ok (.aastore, 1)) (H : zo_ast (zPp p l e R s m args below meth c Qf D dA A aC L xs N0 S0 M0 M1 k) pc ls st h) : zPp p l e R s m args below meth c Qf D dA A aC L xs N0 S0 M0 M1 k pc ls st h := by
  unfold zo_ast at H
  split at H
  · rename_i y i x r
    intro ad Hp lsA locs cells slots hS hL hst
    obtain ⟨hy, hst⟩ := zst_cons hst
    obtain ⟨h0, hst⟩ := zst_cons hst
    obtain ⟨h1, hst⟩ := zst_cons hst
    obtain ⟨gf, gi, H⟩ := H
    have gf2 : ((zSh x).1 = 102 ∧ (zSh y).1 = 5) ∨ ((zSh x).1 = 103 ∧ (zSh y).1 = 8) ∨ ((zSh x).1 = 105 ∧ (zSh y).1 = 10) ∨ ((zSh x).1 = 104 ∧ ((zSh y).1 = 9 ∨ (zSh y).1 ∈ [1, 2, 3, 4, 6])) := by
      simp only [zfit, Bool.or_eq_true, Bool.and_eq_true, beq_iff_eq] at gf
      simp only [List.mem_cons, List.not_mem_nil, or_false]
      omega
    have hN := zxN h1 rfl (by omega)
    have hx2 : 102 ≤ (zSh x).1 := by omega
    have hyc : (zSh y).1 < 13 := by
      simp only [List.mem_cons, List.not_mem_nil, or_false] at gf2
      omega
    have hNy := zxN hy rfl (by omega)
    obtain ⟨gy, -⟩ := zSh_pair (x := y) rfl hyc
    have hv := hS.2.2.2.1
    obtain ⟨i1, i2⟩ := zix gi h0
    have hlt : i.toNat < (zSh x).2 := by omega
    have hwx : (zWs dA ad h)[x]? = some (ad x, .inl (dA ((zSh x).1 - 100), (zSh x).2, .inr (.inr (.inr (.inr (fun j => if j < (zSh x).2 then (h.2.2 x j).map ad else none)))))) := by rw [zWs_at dA ad hN, zCe_ra (t := (zSh x).1) (n := (zSh x).2) rfl hx2]
    have hwy : (zWs dA ad h)[y]? = some (ad y, .inr ((zSh y).1, (List.range (zNF (zSh y).1)).map (zFv ad h y (zSh y).1))) := by rw [zWs_at dA ad hNy, zCe_obj gy (by omega)]
    have ec : zCe dA ad (h.1, h.2.1, z2 h.2.2 x i.toNat (some y)) x = .inl (dA ((zSh x).1 - 100), (zSh x).2, .inr (.inr (.inr (.inr (va_up (fun j => if j < (zSh x).2 then (h.2.2 x j).map ad else none) (zo i).toNatClampNeg (some (ad y))))))) := by
      rw [zCe_ra (t := (zSh x).1) (n := (zSh x).2) rfl hx2, i2]
      refine congrArg (fun z => Sum.inl (dA ((zSh x).1 - 100), (zSh x).2, Sum.inr (Sum.inr (Sum.inr (Sum.inr z))))) ?_
      funext j
      show (if j < (zSh x).2 then (z2 h.2.2 x i.toNat (some y) x j).map ad else none) = va_up _ _ _ j
      unfold va_up
      rw [z2_if]
      by_cases q : j = i.toNat
      · subst q
        simp [hlt]
      · simp [q]
    have fin : ∀ (H1 : Heap) (locs1 : List Loc), va_P D zvCl ((zWs dA ad h).set x (ad x, .inl (dA ((zSh x).1 - 100), (zSh x).2, .inr (.inr (.inr (.inr (va_up (fun j => if j < (zSh x).2 then (h.2.2 x j).map ad else none) (zo i).toNatClampNeg (some (ad y)))))))) ) H1 → va_D A ((zWs dA ad h).set x (ad x, .inl (dA ((zSh x).1 - 100), (zSh x).2, .inr (.inr (.inr (.inr (va_up (fun j => if j < (zSh x).2 then (h.2.2 x j).map ad else none) (zo i).toNatClampNeg (some (ad y)))))))) ) → va_S A s.heap H1 locs1 → W p l e R s m args below meth c H1 locs1 cells slots Qf (F0 m (pc + 1) lsA (r.map (zEv ad))) := by
      intro H1 locs1 p1 d1 s1
      rw [← ec] at p1 d1
      exact H ad H1 lsA locs1 cells slots (hS.upd rfl (fun z hz => zCe_congr rfl (z2_ne hz)) (hv.setR (Or.inl hNy)) (fun j => rfl) p1 d1 s1) hL hst
    have htt := zTys_at dA (t := (zSh x).1 - 100) (by omega)
    by_cases q : (zSh x).1 = 104 ∧ (zSh y).1 ∈ [1, 2, 3, 4, 6]
    · exact va_astqO hx hb hK hS.1 hS.2.1 hS.2.2.1 x ((zSh x).1 - 100) y (zSh y).1 (E := RX9) hwx (by rw [htt, q.1]; rfl) (hca _ q.2) hwy (zcl_ok _ hyc) i1 hd fin
    · refine va_astq hx hb hK hS.1 hS.2.1 hS.2.2.1 x ((zSh x).1 - 100) y (zSh y).1 (r := (zR (zSh y).1, zT (zSh y).1, zNF (zSh y).1)) hwx ?_ hwy (zcl_ok _ hyc) i1 hd fin
      rw [htt]
      rcases gf2 with ⟨q1, q2⟩ | ⟨q1, q2⟩ | ⟨q1, q2⟩ | ⟨q1, q2 | q2⟩
      · rw [q1, q2]; rfl
      · rw [q1, q2]; rfl
      · rw [q1, q2]; rfl
      · rw [q1, q2]; rfl
      · exact absurd ⟨q1, q2⟩ q
  · exact H.elim
theorem zs_len {pc : Nat} {ls : zLv} {st : List zV} {h : zH} (hx : p.tables.exec = Jvm.exec) (hb : c.code = zB k) (hK : va_K D zvCl (zTys dA) s) (hd : decode (zB k) pc = .ok (.arraylength, 1)) (H : zo_len (zPp p l e R s m args below meth c Qf D dA A aC L xs N0 S0 M0 M1 k) pc ls st h) : zPp p l e R s m args below meth c Qf D dA A aC L xs N0 S0 M0 M1 k pc ls st h := by
  unfold zo_len at H
  split at H
  · rename_i x r
    intro ad Hp lsA locs cells slots hS hL hst
    obtain ⟨h1, hst⟩ := zst_cons hst
    obtain ⟨⟨g0, g1⟩, H⟩ := H
    have hN := zxN h1 rfl (by omega)
    have hsm := zSh_small x
    have kk := H ad Hp lsA locs cells slots hS hL (zst_mk (v := .inl _) (by show zIn _; omega) hst)
    have hc : ∃ z, zCe dA ad h x = .inl (dA ((zSh x).1 - 100), (zSh x).2, z) := by
      by_cases q : (zSh x).1 = 100
      · obtain ⟨g2, -⟩ := zSh_arr q (by omega)
        exact ⟨_, by rw [zCe_ia g2, q]⟩
      · by_cases q1 : (zSh x).1 = 101
        · obtain ⟨g2, -⟩ := zSh_arr q1 (by omega)
          exact ⟨_, by rw [zCe_za g2, q1]⟩
        · exact ⟨_, zCe_ra (t := (zSh x).1) (n := (zSh x).2) rfl (by omega)⟩
    obtain ⟨z, hz⟩ := hc
    exact va_alen hx hb hK hS.1 x ((zSh x).1 - 100) (x := ((zSh x).2, z)) (by rw [zWs_at dA ad hN, hz]) (zTys_at dA (by omega)) (v := zo ((zSh x).2 : Nat)) (by show Int32.ofNat _ = _; exact (Int32.ofInt_eq_ofNat).symm) hd kk
  · exact H.elim
theorem zs_sld {pc : Nat} {ls : zLv} {st : List zV} {h : zH} (hx : p.tables.exec = Jvm.exec) (hb : c.code = zB k) (hX : va_X (aC 2000) L xs s s.heap) (hbl : aC 2000 < s.heap.size) (hbA : ¬ A (aC 2000)) (hd : decode (zB k) pc = .ok (.iaload, 1)) (H : zo_sld (zPp p l e R s m args below meth c Qf D dA A aC L xs N0 S0 M0 M1 k) pc ls st h) : zPp p l e R s m args below meth c Qf D dA A aC L xs N0 S0 M0 M1 k pc ls st h := by
  unfold zo_sld at H
  split at H
  · rename_i i x r
    intro ad Hp lsA locs cells slots hS hL hst
    obtain ⟨h0, hst⟩ := zst_cons hst
    obtain ⟨h1, hr⟩ := zst_cons hst
    obtain ⟨rfl, gi, H⟩ := H
    obtain ⟨-, -, s1, -, a5, -, -, a8, a9⟩ := id hS
    rw [a8] at gi
    obtain ⟨i1, i2⟩ := zix gi h0
    have e1 := a9 i.toNat (by omega)
    have kk := H ad Hp lsA locs cells slots hS hL (zst_mk (v := .inl _) (by rw [e1]; exact ztI _) hr)
    show W p l e R s m args below meth c Hp locs cells slots Qf (F0 m pc lsA (.int (zo i) :: .ref (ad 2000) :: r.map (zEv ad)))
    rw [a5 2000 (Or.inr (by omega))]
    refine va_sld hx hb hX hbl hbA s1 i1 hd ?_
    rw [i2, ← zoI (xs i.toNat), ← e1]
    exact kk
  · exact H.elim
theorem zs_slen {pc : Nat} {ls : zLv} {st : List zV} {h : zH} (hx : p.tables.exec = Jvm.exec) (hb : c.code = zB k) (hX : va_X (aC 2000) L xs s s.heap) (hbl : aC 2000 < s.heap.size) (hbA : ¬ A (aC 2000)) (hLL : L ≤ 3072) (hd : decode (zB k) pc = .ok (.arraylength, 1)) (H : zo_slen (zPp p l e R s m args below meth c Qf D dA A aC L xs N0 S0 M0 M1 k) pc ls st h) : zPp p l e R s m args below meth c Qf D dA A aC L xs N0 S0 M0 M1 k pc ls st h := by
  unfold zo_slen at H
  split at H
  · rename_i x r
    intro ad Hp lsA locs cells slots hS hL hst
    obtain ⟨h1, hr⟩ := zst_cons hst
    obtain ⟨rfl, H⟩ := H
    obtain ⟨-, -, s1, -, a5, -, -, a8, a9⟩ := id hS
    have kk := H ad Hp lsA locs cells slots hS hL (zst_mk (v := .inl _) (by show zIn _; rw [a8]; omega) hr)
    show W p l e R s m args below meth c Hp locs cells slots Qf (F0 m pc lsA (.ref (ad 2000) :: r.map (zEv ad)))
    rw [a5 2000 (Or.inr (by omega))]
    refine va_slen hx hb hX hbl hbA s1 hd ?_
    rw [show Int32.ofNat L = zo ((h.1.2.2 : Nat) : Int) by rw [a8]; exact (Int32.ofInt_eq_ofNat).symm]
    exact kk
  · exact H.elim
end
