/-! String.length and String.charAt on the constants; written out of wip/whole/14.src -/
def zWJ (y : MethodName) (b : ByteArray) (n : Nat) (r : Option FieldType) : List Cond := Cond.code y b n r :: zGL
def zRj (n : Nat) : Room := { frames := n + 1, cells := 0, slots := 0, locals := 40 * (n + 1) }
def zPj (D : va_G) (dA : Nat → ClassId) (aC aV : Nat → Nat) (L : Nat) (xs : Nat → Int32) (U : State) : Prop := zGb D dA (fun _ => False) aC aV L xs U U.heap
theorem zPj.blind {D : va_G} {dA : Nat → ClassId} {aC aV : Nat → Nat} {L : Nat} {xs : Nat → Int32} {av : List Value} : FrameBlind (va_Pc av (zPj D dA aC aV L xs)) := fun a U g mk hp => ⟨hp.1, zGb.moved (U := U) rfl hp.2⟩
def zQj (x : Int32) : Array Value → State → Outcome → State → Prop := va_Qi (fun r (_ : Unit) => r = x) (fun _ _ => True) (fun _ => False)
theorem zj_end {st t : State} {H : Heap} {locs : List Loc} {x : Int32} {a : Array Value} (hS : va_S (fun _ => False) st.heap H locs) (ht : t.heap = H) : zQj x a st (.returned (some (.int x))) t := ⟨⟨x, (), rfl, rfl, trivial⟩, hS.F ht⟩
theorem zj_good {y : MethodName} {b : ByteArray} {n : Nat} {r : Option FieldType} (h : Cond.code y b n r ∈ zGL) : GoodIn zGL (zWJ y b n r) := by
  intro w hw
  rcases List.mem_cons.mp hw with rfl | hw
  · exact zGL_good h
  · exact zGL_good hw
theorem zj_goodV {own C : String} {i n : Nat} {y : MethodName} {b : ByteArray} {r : Option FieldType} (h1 : Cond.methodLink own i y ∈ zGL) (h2 : Cond.instanceMethod y ∈ zGL) (h3 : Cond.selects C y y ∈ zGL) (h4 : Cond.initialized C ∈ zGL) (h5 : Cond.code y b n r ∈ zGL) : GoodIn zGL (wsV own i C y (zWJ y b n r)) := by
  intro w hw
  unfold wsV at hw
  rcases List.mem_append.mp hw with hw | hw
  · simp only [List.mem_cons, List.not_mem_nil, or_false] at hw
    rcases hw with rfl | rfl | rfl | rfl
    · exact zGL_good h1
    · exact zGL_good h2
    · exact zGL_good h3
    · exact zGL_good h4
  · exact zj_good h5 w hw
theorem zsh0 (x : Int32) : x >>> ((0 : Int32) &&& 31) = x := by
  apply Int32.toInt_inj.mp
  simp
section
variable {D : va_G} {dA : Nat → ClassId} {aC aV : Nat → Nat} {L : Nat} {xs : Nat → Int32}
set_option maxRecDepth 100000 in
theorem zJ_coder (l : Launch) {i : Nat} (hi : i < 13) : Met l yJ0_coder_7d493 (zWJ yJ0_coder_7d493 cJ0_coder_7d493 1 (some .byte)) (zRj 0) (va_Pc [.ref (aC (1000 + i))] (zPj D dA aC aV L xs)) (zQj 0) 0 0 (fun _ => False) := by
  refine Met.ofW (cc := cJ0_coder_7d493) (maxL := 1) (ret := some .byte) (by decide) rfl ?_
  intro p e s m args below meth c s₁ B hml hv
  obtain ⟨rfl, hG⟩ := hv
  have hx := B.exec
  have hb := B.bytes
  have hr := B.returns
  have hts := fun w hw => atoms_spec (ws := zWJ yJ0_coder_7d493 cJ0_coder_7d493 1 (some .byte)) B.pre w (List.mem_cons_of_mem _ hw)
  have hown : s.vm.findClass RJ0 = some m.cls := findClass_of_methodNamed B.named
  have hlocks := B.notSynchronized
  have hS : va_S (fun _ => False) s.heap s.heap [] := va_S.rf
  have hl := lv_entry ([.ref (aC (1000 + i))]) (n := 1) (Nat.le_of_ble_eq_true rfl)
  rw [lg_entry_eq]
  generalize (lg_sl ([.ref (aC (1000 + i))]) ++ List.replicate (1 - (lg_sl ([.ref (aC (1000 + i))])).length) Slot.unset).toArray = ls at hl ⊢
  have hl : lv_has ls 1 [(0, .ref (aC (1000 + i)))] := hl
  obtain ⟨-, -, -, -, -, g6, -, -, -, g10, -⟩ := id hG
  refine va_gets hx hb g10 hS hown (hts _ (zg1 227 (by decide +kernel) (by decide +kernel))) (fun _ q => q) (by decide +kernel : decode cJ0_coder_7d493 0 = .ok (.getstatic 38, 3)) ?_
  refine lv_if_eq (tgt := 13) hx hb (by decide +kernel : decode cJ0_coder_7d493 3 = .ok (.ifCond .eq 10, 3)) (by decide) (fun q => absurd q (by decide)) (fun _ => ?_)
  refine lv_aload_n hx hb (by decide +kernel : decode cJ0_coder_7d493 6 = .ok (.aload_n 0, 1)) rfl (lv_at hl 0 rfl) ?_
  refine vk_getf hx hb (g6.1 i hi).2.1 hS hown (hts _ (zg4 17 (by decide +kernel) (by decide +kernel))) (fun _ q => q) (by decide +kernel : decode cJ0_coder_7d493 7 = .ok (.getfield 15, 3)) ?_
  refine lv_goto (tgt := 14) hx hb (by decide +kernel : decode cJ0_coder_7d493 10 = .ok (.goto 4, 3)) (by decide) ?_
  exact W.zret hx hb hr rfl (fun t ht _ => zj_end hS ht) hS.2.2 (by decide +kernel : decode cJ0_coder_7d493 14 = .ok (.ireturn, 1)) hlocks
set_option maxRecDepth 100000 in
theorem zJ_isLatin1 (l : Launch) {i : Nat} (hi : i < 13) : Met l yJ0_isLatin1_aae02 (zWJ yJ0_isLatin1_aae02 cJ0_isLatin1_aae02 1 (some .boolean)) (zRj 0) (va_Pc [.ref (aC (1000 + i))] (zPj D dA aC aV L xs)) (zQj 1) 0 0 (fun _ => False) := by
  refine Met.ofW (cc := cJ0_isLatin1_aae02) (maxL := 1) (ret := some .boolean) (by decide) rfl ?_
  intro p e s m args below meth c s₁ B hml hv
  obtain ⟨rfl, hG⟩ := hv
  have hx := B.exec
  have hb := B.bytes
  have hr := B.returns
  have hts := fun w hw => atoms_spec (ws := zWJ yJ0_isLatin1_aae02 cJ0_isLatin1_aae02 1 (some .boolean)) B.pre w (List.mem_cons_of_mem _ hw)
  have hown : s.vm.findClass RJ0 = some m.cls := findClass_of_methodNamed B.named
  have hlocks := B.notSynchronized
  have hS : va_S (fun _ => False) s.heap s.heap [] := va_S.rf
  have hl := lv_entry ([.ref (aC (1000 + i))]) (n := 1) (Nat.le_of_ble_eq_true rfl)
  rw [lg_entry_eq]
  generalize (lg_sl ([.ref (aC (1000 + i))]) ++ List.replicate (1 - (lg_sl ([.ref (aC (1000 + i))])).length) Slot.unset).toArray = ls at hl ⊢
  have hl : lv_has ls 1 [(0, .ref (aC (1000 + i)))] := hl
  obtain ⟨-, -, -, -, -, g6, -, -, -, g10, -⟩ := id hG
  refine va_gets hx hb g10 hS hown (hts _ (zg1 227 (by decide +kernel) (by decide +kernel))) (fun _ q => q) (by decide +kernel : decode cJ0_isLatin1_aae02 0 = .ok (.getstatic 38, 3)) ?_
  refine lv_if_eq (tgt := 17) hx hb (by decide +kernel : decode cJ0_isLatin1_aae02 3 = .ok (.ifCond .eq 14, 3)) (by decide) (fun q => absurd q (by decide)) (fun _ => ?_)
  refine lv_aload_n hx hb (by decide +kernel : decode cJ0_isLatin1_aae02 6 = .ok (.aload_n 0, 1)) rfl (lv_at hl 0 rfl) ?_
  refine vk_getf hx hb (g6.1 i hi).2.1 hS hown (hts _ (zg4 17 (by decide +kernel) (by decide +kernel))) (fun _ q => q) (by decide +kernel : decode cJ0_isLatin1_aae02 7 = .ok (.getfield 15, 3)) ?_
  refine lv_if_ne (tgt := 17) hx hb (by decide +kernel : decode cJ0_isLatin1_aae02 10 = .ok (.ifCond .ne 7, 3)) (by decide) (fun q => absurd rfl q) (fun _ => ?_)
  refine lv_iconst (v := 1) hx hb (by decide +kernel : decode cJ0_isLatin1_aae02 13 = .ok (.iconst 1, 1)) (by decide) ?_
  refine lv_goto (tgt := 18) hx hb (by decide +kernel : decode cJ0_isLatin1_aae02 14 = .ok (.goto 4, 3)) (by decide) ?_
  exact W.zret hx hb hr rfl (fun t ht _ => zj_end hS ht) hS.2.2 (by decide +kernel : decode cJ0_isLatin1_aae02 18 = .ok (.ireturn, 1)) hlocks
set_option maxRecDepth 100000 in
theorem zJ_length (l : Launch) {i : Nat} (hi : i < 13) : Met l yJ0_length_8abf5 (zWJ yJ0_length_8abf5 cJ0_length_8abf5 1 (some .int)) (zRj 1) (va_Pc [.ref (aC (1000 + i))] (zPj D dA aC aV L xs)) (zQj (Int32.ofNat ((zVS.map List.length).getD i 0))) 0 0 (fun _ => False) := by
  refine Met.ofW (cc := cJ0_length_8abf5) (maxL := 1) (ret := some .int) (by decide) rfl ?_
  intro p e s m args below meth c s₁ B hml hv
  obtain ⟨rfl, hG⟩ := hv
  have hx := B.exec
  have hb := B.bytes
  have hr := B.returns
  have hts := fun w hw => atoms_spec (ws := zWJ yJ0_length_8abf5 cJ0_length_8abf5 1 (some .int)) B.pre w (List.mem_cons_of_mem _ hw)
  have hown : s.vm.findClass RJ0 = some m.cls := findClass_of_methodNamed B.named
  have hlocks := B.notSynchronized
  have hS : va_S (fun _ => False) s.heap s.heap [] := va_S.rf
  have hl := lv_entry ([.ref (aC (1000 + i))]) (n := 1) (Nat.le_of_ble_eq_true rfl)
  rw [lg_entry_eq]
  generalize (lg_sl ([.ref (aC (1000 + i))]) ++ List.replicate (1 - (lg_sl ([.ref (aC (1000 + i))])).length) Slot.unset).toArray = ls at hl ⊢
  have hl : lv_has ls 1 [(0, .ref (aC (1000 + i)))] := hl
  obtain ⟨-, -, -, -, -, g6, -⟩ := id hG
  refine lv_aload_n hx hb (by decide +kernel : decode cJ0_length_8abf5 0 = .ok (.aload_n 0, 1)) rfl (lv_at hl 0 rfl) ?_
  refine vk_getf hx hb (g6.1 i hi).2.2.1 hS hown (hts _ (zg4 16 (by decide +kernel) (by decide +kernel))) (fun _ q => q) (by decide +kernel : decode cJ0_length_8abf5 1 = .ok (.getfield 9, 3)) ?_
  refine va_tlen hx hb (g6.1 i hi).2.2.2 hS rfl (by decide +kernel : decode cJ0_length_8abf5 4 = .ok (.arraylength, 1)) ?_
  refine lv_aload_n hx hb (by decide +kernel : decode cJ0_length_8abf5 5 = .ok (.aload_n 0, 1)) rfl (lv_at hl 0 rfl) ?_
  refine va_calli (A0 := fun _ => False) (va_runV (As := []) ⟨hx, hb, hml, hown, hts⟩ (zJ_coder l hi) (cwV (C := RJ0) (own := RJ0) (index := 335) 0 hts (zj_goodV (zg1 223 (by decide +kernel) (by decide +kernel)) (zg1 224 (by decide +kernel) (by decide +kernel)) (zg1 225 (by decide +kernel) (by decide +kernel)) (zg1 13 (by decide +kernel) (by decide +kernel)) (zg1 226 (by decide +kernel) (by decide +kernel))) rfl rfl rfl ⟨rfl, by decide, by decide, by decide +kernel⟩ ⟨Nat.le_of_ble_eq_true rfl, Nat.le_of_ble_eq_true rfl⟩) ⟨zPj.blind, vk_recv g6 hi hS, fun U hU hW => ⟨rfl, hG.warm hW (by rw [hU]; exact va_S.rf) (fun _ q => q)⟩⟩ rfl rfl hl.1 rfl (lv_room (Nat.le_of_ble_eq_true rfl)) (by decide +kernel : decode cJ0_length_8abf5 6 = .ok (.invokevirtual 335, 3)) ⟨Nat.le_of_ble_eq_true rfl, Nat.le_of_ble_eq_true rfl⟩) hS (fun _ _ q => q) (fun _ q => q) (fun r u t H1 locs1 ht hvm hw hB hz hk hS => ?_)
  have hw : r = 0 := hw
  subst hw
  refine lv_ishr hx hb (by decide +kernel : decode cJ0_length_8abf5 9 = .ok (.ishr, 1)) ?_
  rw [zsh0]
  exact W.iret hx hb hr (fun t ht _ => zj_end hS ht) hS.2.2 (by decide +kernel : decode cJ0_length_8abf5 10 = .ok (.ireturn, 1)) hlocks
set_option maxRecDepth 100000 in
theorem zJ_checkP (l : Launch) {i n : Nat} (hi : i < n) (hn : n < 2 ^ 31) (v : Value) (hv : v = .null ∨ ∃ a, v = .ref a) : Met l yJ3_checkIndex_8e157 (zWJ yJ3_checkIndex_8e157 cJ3_checkIndex_8e157 3 (some .int)) (zRj 0) (va_Pc [.int (nI i), .int (nI n), v] (zPj D dA aC aV L xs)) (zQj (nI i)) 0 0 (fun _ => False) := by
  refine Met.ofW (cc := cJ3_checkIndex_8e157) (maxL := 3) (ret := some .int) (by decide) rfl ?_
  intro p e s m args below meth c s₁ B hml hv2
  obtain ⟨rfl, hG⟩ := hv2
  have hx := B.exec
  have hb := B.bytes
  have hr := B.returns
  have hlocks := B.notSynchronized
  have hS : va_S (fun _ => False) s.heap s.heap [] := va_S.rf
  have hcat : v.category = 1 := by rcases hv with rfl | ⟨a, rfl⟩ <;> rfl
  have hsl : (lg_sl ([.int (nI i), .int (nI n), v])).length ≤ 3 := by rcases hv with rfl | ⟨a, rfl⟩ <;> exact Nat.le_of_ble_eq_true rfl
  have hl := lv_entry ([.int (nI i), .int (nI n), v]) (n := 3) hsl
  rw [lg_entry_eq]
  generalize (lg_sl ([.int (nI i), .int (nI n), v]) ++ List.replicate (3 - (lg_sl ([.int (nI i), .int (nI n), v])).length) Slot.unset).toArray = ls at hl ⊢
  have hl : lv_has ls 3 [(0, .int (nI i)), (1, .int (nI n)), (2, v)] := by rcases hv with rfl | ⟨a, rfl⟩ <;> exact hl
  refine lv_iload_n hx hb (by decide +kernel : decode cJ3_checkIndex_8e157 0 = .ok (.iload_n 0, 1)) rfl (lv_at hl 0 rfl) ?_
  refine lv_if_lt (tgt := 9) hx hb (by decide +kernel : decode cJ3_checkIndex_8e157 1 = .ok (.ifCond .lt 8, 3)) (by decide) (fun q => absurd q (nI_pos (by omega))) (fun _ => ?_)
  refine lv_iload_n hx hb (by decide +kernel : decode cJ3_checkIndex_8e157 4 = .ok (.iload_n 0, 1)) rfl (lv_at hl 0 rfl) ?_
  refine lv_iload_n hx hb (by decide +kernel : decode cJ3_checkIndex_8e157 5 = .ok (.iload_n 1, 1)) rfl (lv_at hl 1 rfl) ?_
  refine lv_icmp_lt (tgt := 16) hx hb (by decide +kernel : decode cJ3_checkIndex_8e157 6 = .ok (.if_icmp .lt 10, 3)) (by decide) (fun _ => ?_) (fun q => absurd (nI_lt hi hn) q)
  refine lv_iload_n hx hb (by decide +kernel : decode cJ3_checkIndex_8e157 16 = .ok (.iload_n 0, 1)) rfl (lv_at hl 0 rfl) ?_
  exact W.iret hx hb hr (fun t ht _ => zj_end hS ht) hS.2.2 (by decide +kernel : decode cJ3_checkIndex_8e157 17 = .ok (.ireturn, 1)) hlocks
def zQv : Array Value → State → Outcome → State → Prop := va_Qv (fun (_ : Unit) => True) (fun _ _ => True) (fun _ => False)
theorem zj_goodS {own : String} {i n : Nat} {y : MethodName} {b : ByteArray} {r : Option FieldType} (h1 : Cond.methodLink own i y ∈ zGL) (h5 : Cond.code y b n r ∈ zGL) : GoodIn zGL (zWJ y b n r) := zj_good h5
set_option maxRecDepth 100000 in
theorem zJ_check (l : Launch) {i n : Nat} (hi : i < n) (hn : n < 2 ^ 31) : Met l yJ0_checkIndex_df160 (zWJ yJ0_checkIndex_df160 cJ0_checkIndex_df160 2 none) (zRj 1) (va_Pc [.int (nI i), .int (nI n)] (zPj D dA aC aV L xs)) zQv 0 0 (fun _ => False) := by
  refine Met.ofW (cc := cJ0_checkIndex_df160) (maxL := 2) (ret := none) (by decide) rfl ?_
  intro p e s m args below meth c s₁ B hml hv
  obtain ⟨rfl, hG⟩ := hv
  have hx := B.exec
  have hb := B.bytes
  have hr := B.returns
  have hts := fun w hw => atoms_spec (ws := zWJ yJ0_checkIndex_df160 cJ0_checkIndex_df160 2 none) B.pre w (List.mem_cons_of_mem _ hw)
  have hown : s.vm.findClass RJ0 = some m.cls := findClass_of_methodNamed B.named
  have hlocks := B.notSynchronized
  have hS : va_S (fun _ => False) s.heap s.heap [] := va_S.rf
  have hl := lv_entry ([.int (nI i), .int (nI n)]) (n := 2) (Nat.le_of_ble_eq_true rfl)
  rw [lg_entry_eq]
  generalize (lg_sl ([.int (nI i), .int (nI n)]) ++ List.replicate (2 - (lg_sl ([.int (nI i), .int (nI n)])).length) Slot.unset).toArray = ls at hl ⊢
  have hl : lv_has ls 2 [(0, .int (nI i)), (1, .int (nI n))] := hl
  obtain ⟨-, -, -, -, -, -, -, -, -, -, g11⟩ := id hG
  refine lv_iload_n hx hb (by decide +kernel : decode cJ0_checkIndex_df160 0 = .ok (.iload_n 0, 1)) rfl (lv_at hl 0 rfl) ?_
  refine lv_iload_n hx hb (by decide +kernel : decode cJ0_checkIndex_df160 1 = .ok (.iload_n 1, 1)) rfl (lv_at hl 1 rfl) ?_
  have go : ∀ v : Value, (v = .null ∨ ∃ a, v = .ref a) → va_Z "jdk/internal/util/Preconditions" "SIOOBE_FORMATTER" "Ljava/util/function/BiFunction;" v (fun _ => False) s s.heap → W p l e (zRj 1) s m #[.int (nI i), .int (nI n)] below meth c s.heap [] 0 0 (MQ below zQv #[.int (nI i), .int (nI n)] s 0 0 (fun _ => False)) (F0 m 2 ls [.int (nI n), .int (nI i)]) := by
    intro v hv hz
    refine va_gets hx hb hz hS hown (hts _ (zg2 3 (by decide +kernel) (by decide +kernel))) (fun _ q => q) (by decide +kernel : decode cJ0_checkIndex_df160 2 = .ok (.getstatic 1053, 3)) ?_
    refine va_calli (A0 := fun _ => False) (va_runS (As := [.int (nI i), .int (nI n), v]) ⟨hx, hb, hml, hown, hts⟩ (zJ_checkP l hi hn v hv) ⟨callB_of (own := RJ0) (index := 1059) 3 hts (zj_good (zg2 7 (by decide +kernel) (by decide +kernel))) rfl rfl rfl (hts _ (zg1 15 (by decide +kernel) (by decide +kernel))) (hts _ (zg2 5 (by decide +kernel) (by decide +kernel))) ⟨by decide, by decide, by decide +kernel⟩ ⟨Nat.le_of_ble_eq_true rfl, Nat.le_of_ble_eq_true rfl⟩, hts _ (zg2 6 (by decide +kernel) (by decide +kernel))⟩ ⟨zPj.blind, fun U hU hW => ⟨rfl, hG.warm hW (by rw [hU]; exact va_S.rf) (fun _ q => q)⟩⟩ rfl rfl hl.1 rfl (lv_room (Nat.le_of_ble_eq_true rfl)) (by decide +kernel : decode cJ0_checkIndex_df160 5 = .ok (.invokestatic 1059, 3)) ⟨Nat.le_of_ble_eq_true rfl, Nat.le_of_ble_eq_true rfl⟩) hS (fun _ _ q => q) (fun _ q => q) (fun r u t H1 locs1 ht hvm hw hB hz hk hS => ?_)
    refine lv_pop hx hb (by decide +kernel : decode cJ0_checkIndex_df160 8 = .ok (.pop, 1)) rfl ?_
    exact W.vret hx hb hr (fun t ht _ => ⟨⟨(), rfl, trivial, trivial⟩, hS.F ht⟩) hS.2.2 (by decide +kernel : decode cJ0_checkIndex_df160 9 = .ok (.return_, 1)) hlocks
  rcases g11 with g11 | ⟨t, g11⟩
  · exact go .null (Or.inl rfl) g11
  · exact go (.ref t) (Or.inr ⟨t, rfl⟩) g11
theorem zbyt {i j : Nat} (hi : i < 13) (hj : j < (zVS.map List.length).getD i 0) : 0 ≤ zgt 0 (zgt [] zVS i) j ∧ zgt 0 (zgt [] zVS i) j < 128 ∧ ((zVS.map (List.map zo)).getD i []).getD j 0 = zo (zgt 0 (zgt [] zVS i) j) := by
  have h : (List.range 13).all (fun i => (List.range ((zVS.map List.length).getD i 0)).all (fun j => decide (0 ≤ zgt 0 (zgt [] zVS i) j ∧ zgt 0 (zgt [] zVS i) j < 128 ∧ ((zVS.map (List.map zo)).getD i []).getD j 0 = zo (zgt 0 (zgt [] zVS i) j)))) = true := by decide +kernel
  exact of_decide_eq_true (List.all_eq_true.mp (List.all_eq_true.mp h i (List.mem_range.mpr hi)) j (List.mem_range.mpr hj))
theorem zmask {x : Int} (h : 0 ≤ x ∧ x < 128) : zo x &&& 255 = zo x := by
  have e : ∀ n : Nat, n < 128 → Int32.ofNat n &&& 255 = Int32.ofNat n := by decide +kernel
  have h2 := e x.toNat (by omega)
  rw [show zo x = Int32.ofNat x.toNat by rw [← Int32.ofInt_eq_ofNat]; exact congrArg Int32.ofInt (by omega)]
  exact h2
theorem zchr {x : Int} (h : 0 ≤ x ∧ x < 128) : narrow .char (.int (zo x)) = .int (zo x) ∧ (zo x).toUInt32.toUInt16.toUInt32.toInt32 = zo x ∧ ((zo x).toUInt32 % 65536).toInt32 = zo x := by
  have e : ∀ n : Nat, n < 128 → narrow .char (.int (Int32.ofNat n)) = .int (Int32.ofNat n) ∧ (Int32.ofNat n).toUInt32.toUInt16.toUInt32.toInt32 = Int32.ofNat n ∧ ((Int32.ofNat n).toUInt32 % 65536).toInt32 = Int32.ofNat n := by decide +kernel
  have h2 := e x.toNat (by omega)
  rw [show zo x = Int32.ofNat x.toNat by rw [← Int32.ofInt_eq_ofNat]; exact congrArg Int32.ofInt (by omega)]
  exact h2
set_option maxRecDepth 100000 in
theorem zJ_latin (l : Launch) {i j : Nat} (hi : i < 13) (hj : j < (zVS.map List.length).getD i 0) (hn : (zVS.map List.length).getD i 0 < 2 ^ 31) : Met l yJ1_charAt_3b067 (zWJ yJ1_charAt_3b067 cJ1_charAt_3b067 2 (some .char)) (zRj 2) (va_Pc [.ref (aV i), .int (nI j)] (zPj D dA aC aV L xs)) (zQj (zo (zgt 0 (zgt [] zVS i) j))) 0 0 (fun _ => False) := by
  refine Met.ofW (cc := cJ1_charAt_3b067) (maxL := 2) (ret := some .char) (by decide) rfl ?_
  intro p e s m args below meth c s₁ B hml hv
  obtain ⟨rfl, hG⟩ := hv
  have hx := B.exec
  have hb := B.bytes
  have hr := B.returns
  have hts := fun w hw => atoms_spec (ws := zWJ yJ1_charAt_3b067 cJ1_charAt_3b067 2 (some .char)) B.pre w (List.mem_cons_of_mem _ hw)
  have hown : s.vm.findClass RJ1 = some m.cls := findClass_of_methodNamed B.named
  have hlocks := B.notSynchronized
  have hS : va_S (fun _ => False) s.heap s.heap [] := va_S.rf
  have hl := lv_entry ([.ref (aV i), .int (nI j)]) (n := 2) (Nat.le_of_ble_eq_true rfl)
  rw [lg_entry_eq]
  generalize (lg_sl ([.ref (aV i), .int (nI j)]) ++ List.replicate (2 - (lg_sl ([.ref (aV i), .int (nI j)])).length) Slot.unset).toArray = ls at hl ⊢
  have hl : lv_has ls 2 [(0, .ref (aV i)), (1, .int (nI j))] := hl
  obtain ⟨-, -, -, -, -, g6, -⟩ := id hG
  obtain ⟨b1, b2, b3⟩ := zbyt hi hj
  refine lv_iload_n hx hb (by decide +kernel : decode cJ1_charAt_3b067 0 = .ok (.iload_n 1, 1)) rfl (lv_at hl 1 rfl) ?_
  refine lv_aload_n hx hb (by decide +kernel : decode cJ1_charAt_3b067 1 = .ok (.aload_n 0, 1)) rfl (lv_at hl 0 rfl) ?_
  refine va_tlen hx hb (g6.1 i hi).2.2.2 hS rfl (by decide +kernel : decode cJ1_charAt_3b067 2 = .ok (.arraylength, 1)) ?_
  refine va_callv (A0 := fun _ => False) (va_runS (As := [.int (nI j), .int (Int32.ofNat ((zVS.map List.length).getD i 0))]) ⟨hx, hb, hml, hown, hts⟩ (zJ_check l hj hn) ⟨callB_of (own := RJ1) (index := 9) 2 hts (zj_good (zg2 2 (by decide +kernel) (by decide +kernel))) rfl rfl rfl (hts _ (zg1 13 (by decide +kernel) (by decide +kernel))) (hts _ (zg2 0 (by decide +kernel) (by decide +kernel))) ⟨by decide, by decide, by decide +kernel⟩ ⟨Nat.le_of_ble_eq_true rfl, Nat.le_of_ble_eq_true rfl⟩, hts _ (zg2 1 (by decide +kernel) (by decide +kernel))⟩ ⟨zPj.blind, fun U hU hW => ⟨rfl, hG.warm hW (by rw [hU]; exact va_S.rf) (fun _ q => q)⟩⟩ rfl rfl hl.1 rfl (lv_room (Nat.le_of_ble_eq_true rfl)) (by decide +kernel : decode cJ1_charAt_3b067 3 = .ok (.invokestatic 9, 3)) ⟨Nat.le_of_ble_eq_true rfl, Nat.le_of_ble_eq_true rfl⟩) hS (fun _ _ q => q) (fun _ q => q) (fun u t H1 locs1 ht hvm hw hB hz hk hS => ?_)
  refine lv_aload_n hx hb (by decide +kernel : decode cJ1_charAt_3b067 6 = .ok (.aload_n 0, 1)) rfl (lv_at hl 0 rfl) ?_
  refine lv_iload_n hx hb (by decide +kernel : decode cJ1_charAt_3b067 7 = .ok (.iload_n 1, 1)) rfl (lv_at hl 1 rfl) ?_
  refine va_tb hx hb (g6.1 i hi).2.2.2 hS (vp_in_nI hj hn) (v := .int (zo (zgt 0 (zgt [] zVS i) j))) (by rw [nI_clamp (by omega), b3]) (by decide +kernel : decode cJ1_charAt_3b067 8 = .ok (.baload, 1)) ?_
  refine lv_sipush (v := 255) hx hb (by decide +kernel : decode cJ1_charAt_3b067 9 = .ok (.sipush 255, 3)) (by decide) ?_
  refine lv_iand hx hb (by decide +kernel : decode cJ1_charAt_3b067 12 = .ok (.iand, 1)) ?_
  rw [zmask ⟨b1, b2⟩]
  refine lv_i2c hx hb (by decide +kernel : decode cJ1_charAt_3b067 13 = .ok (.i2c, 1)) (v := zo (zgt 0 (zgt [] zVS i) j)) (by first | exact (zchr ⟨b1, b2⟩).2.1 | exact (zchr ⟨b1, b2⟩).2.2) ?_
  exact W.zret hx hb hr (zchr ⟨b1, b2⟩).1 (fun t ht _ => zj_end hS ht) hS.2.2 (by decide +kernel : decode cJ1_charAt_3b067 14 = .ok (.ireturn, 1)) hlocks
set_option maxRecDepth 100000 in
theorem zJ_charAt (l : Launch) {i j : Nat} (hi : i < 13) (hj : j < (zVS.map List.length).getD i 0) (hn : (zVS.map List.length).getD i 0 < 2 ^ 31) : Met l yJ0_charAt_5068e (zWJ yJ0_charAt_5068e cJ0_charAt_5068e 2 (some .char)) (zRj 3) (va_Pc [.ref (aC (1000 + i)), .int (nI j)] (zPj D dA aC aV L xs)) (zQj (zo (zgt 0 (zgt [] zVS i) j))) 0 0 (fun _ => False) := by
  refine Met.ofW (cc := cJ0_charAt_5068e) (maxL := 2) (ret := some .char) (by decide) rfl ?_
  intro p e s m args below meth c s₁ B hml hv
  obtain ⟨rfl, hG⟩ := hv
  have hx := B.exec
  have hb := B.bytes
  have hr := B.returns
  have hts := fun w hw => atoms_spec (ws := zWJ yJ0_charAt_5068e cJ0_charAt_5068e 2 (some .char)) B.pre w (List.mem_cons_of_mem _ hw)
  have hown : s.vm.findClass RJ0 = some m.cls := findClass_of_methodNamed B.named
  have hlocks := B.notSynchronized
  have hS : va_S (fun _ => False) s.heap s.heap [] := va_S.rf
  have hl := lv_entry ([.ref (aC (1000 + i)), .int (nI j)]) (n := 2) (Nat.le_of_ble_eq_true rfl)
  rw [lg_entry_eq]
  generalize (lg_sl ([.ref (aC (1000 + i)), .int (nI j)]) ++ List.replicate (2 - (lg_sl ([.ref (aC (1000 + i)), .int (nI j)])).length) Slot.unset).toArray = ls at hl ⊢
  have hl : lv_has ls 2 [(0, .ref (aC (1000 + i))), (1, .int (nI j))] := hl
  obtain ⟨-, -, -, -, -, g6, -⟩ := id hG
  obtain ⟨b1, b2, b3⟩ := zbyt hi hj
  refine lv_aload_n hx hb (by decide +kernel : decode cJ0_charAt_5068e 0 = .ok (.aload_n 0, 1)) rfl (lv_at hl 0 rfl) ?_
  refine va_calli (A0 := fun _ => False) (va_runV (As := []) ⟨hx, hb, hml, hown, hts⟩ (zJ_isLatin1 l hi) (cwV (C := RJ0) (own := RJ0) (index := 492) 0 hts (zj_goodV (zg1 233 (by decide +kernel) (by decide +kernel)) (zg1 234 (by decide +kernel) (by decide +kernel)) (zg1 235 (by decide +kernel) (by decide +kernel)) (zg1 13 (by decide +kernel) (by decide +kernel)) (zg1 236 (by decide +kernel) (by decide +kernel))) rfl rfl rfl ⟨rfl, by decide, by decide, by decide +kernel⟩ ⟨Nat.le_of_ble_eq_true rfl, Nat.le_of_ble_eq_true rfl⟩) ⟨zPj.blind, vk_recv g6 hi hS, fun U hU hW => ⟨rfl, hG.warm hW (by rw [hU]; exact va_S.rf) (fun _ q => q)⟩⟩ rfl rfl hl.1 rfl (lv_room (Nat.le_of_ble_eq_true rfl)) (by decide +kernel : decode cJ0_charAt_5068e 1 = .ok (.invokevirtual 492, 3)) ⟨Nat.le_of_ble_eq_true rfl, Nat.le_of_ble_eq_true rfl⟩) hS (fun _ _ q => q) (fun _ q => q) (fun r u t H1 locs1 ht hvm hw hB hz hk hS => ?_)
  have hw : r = 1 := hw
  subst hw
  refine lv_if_eq (tgt := 16) hx hb (by decide +kernel : decode cJ0_charAt_5068e 4 = .ok (.ifCond .eq 12, 3)) (by decide) (fun q => absurd q (by decide)) (fun _ => ?_)
  refine lv_aload_n hx hb (by decide +kernel : decode cJ0_charAt_5068e 7 = .ok (.aload_n 0, 1)) rfl (lv_at hl 0 rfl) ?_
  refine vk_getf hx hb (g6.1 i hi).2.2.1 hS hown (hts _ (zg4 16 (by decide +kernel) (by decide +kernel))) (fun _ q => q) (by decide +kernel : decode cJ0_charAt_5068e 8 = .ok (.getfield 9, 3)) ?_
  refine lv_iload_n hx hb (by decide +kernel : decode cJ0_charAt_5068e 11 = .ok (.iload_n 1, 1)) rfl (lv_at hl 1 rfl) ?_
  refine va_calli (A0 := fun _ => False) (va_runS (As := [.ref (aV i), .int (nI j)]) ⟨hx, hb, hml, hown, hts⟩ (zJ_latin l hi hj hn) ⟨callB_of (own := RJ0) (index := 495) 2 hts (zj_good (zg1 239 (by decide +kernel) (by decide +kernel))) rfl rfl rfl (hts _ (zg1 14 (by decide +kernel) (by decide +kernel))) (hts _ (zg1 237 (by decide +kernel) (by decide +kernel))) ⟨by decide, by decide, by decide +kernel⟩ ⟨Nat.le_of_ble_eq_true rfl, Nat.le_of_ble_eq_true rfl⟩, hts _ (zg1 238 (by decide +kernel) (by decide +kernel))⟩ ⟨zPj.blind, fun U hU hW => ⟨rfl, hG.warm hW (by rw [hU]; exact hS) (fun _ q => q)⟩⟩ rfl rfl hl.1 rfl (lv_room (Nat.le_of_ble_eq_true rfl)) (by decide +kernel : decode cJ0_charAt_5068e 12 = .ok (.invokestatic 495, 3)) ⟨Nat.le_of_ble_eq_true rfl, Nat.le_of_ble_eq_true rfl⟩) hS (fun _ _ q => q) (fun _ q => q) (fun r u t H1 locs1 ht hvm hw hB hz hk hS => ?_)
  have hw : r = zo (zgt 0 (zgt [] zVS i) j) := hw
  subst hw
  exact W.zret hx hb hr (zchr ⟨b1, b2⟩).1 (fun t ht _ => zj_end hS ht) hS.2.2 (by decide +kernel : decode cJ0_charAt_5068e 15 = .ok (.ireturn, 1)) hlocks
end
section
variable {p : Program} {l : Launch} {e : Env} {R : Room} {s : State} {m : MethodId} {args : Array Value} {below : List Frame} {meth : Method} {c : Code} {Qf : State → Prop} {D : va_G} {dA : Nat → ClassId} {A : Nat → Prop} {aC aV : Nat → Nat} {L : Nat} {xs : Nat → Int32} {N0 S0 M0 M1 k : Nat}
theorem zvs_len {i : Nat} (hi : i < 13) : (zVS.map List.length).getD i 0 = zvsLen (1000 + i) ∧ zvsLen (1000 + i) < 100 := by
  have h : (List.range 13).all (fun i => decide ((zVS.map List.length).getD i 0 = zvsLen (1000 + i) ∧ zvsLen (1000 + i) < 100)) = true := by decide +kernel
  exact of_decide_eq_true (List.all_eq_true.mp h i (List.mem_range.mpr hi))
theorem zs_strgo {ad : Nat → Nat} {h : zH} {H H1 : Heap} {locs locs1 : List Loc} {cells slots : Nat} (hS : zSt D dA A aC L xs s N0 S0 M0 M1 R ad h H locs cells slots) (hk : ∀ q : Nat, q < H.size → H1[q]? = H[q]?) (s1 : va_S A s.heap H1 locs1) : zSt D dA A aC L xs s N0 S0 M0 M1 R ad h H1 locs1 cells slots := by
  obtain ⟨a1, a2, -, a4⟩ := hS
  exact ⟨fun k q hq => (a1 k q hq).kept (hk _ (a1 k q hq).lt), a2, s1, a4⟩
theorem zs_slenS {i pc : Nat} {ls : zLv} {st : List zV} {h : zH} (hx : p.tables.exec = Jvm.exec) (hb : c.code = zB k) (hml : c.maxLocals = zL k) (hts : ∀ w ∈ zGL, w.before args s = true) (hown : s.vm.findClass (zR (zO k)) = some m.cls) (hA : ∀ q, s.heap.size ≤ q → A q) (hG : zGb D dA A aC aV L xs s s.heap) (hR : 5 ≤ R.frames ∧ 300 ≤ R.locals) (hd : decode (zB k) pc = .ok (.invokevirtual i, 3)) (hl : (zO k, i) ∈ zXL) (H : zo_slenS (zPp p l e R s m args below meth c Qf D dA A aC L xs N0 S0 M0 M1 k) pc ls st h) : zPp p l e R s m args below meth c Qf D dA A aC L xs N0 S0 M0 M1 k pc ls st h := by
  unfold zo_slenS at H
  split at H
  · rename_i x r
    intro ad Hp lsA locs cells slots hS hL hst
    obtain ⟨h1, hr⟩ := zst_cons hst
    obtain ⟨hzr, ⟨g0, g1⟩, HP⟩ := H
    obtain ⟨i0, rfl⟩ : ∃ i0, x = 1000 + i0 := ⟨x - 1000, by omega⟩
    have hi : i0 < 13 := by omega
    obtain ⟨e1, e2⟩ := zvs_len hi
    have g6 := hG.2.2.2.2.2.1
    have s7 := hS.2.2.2.2.2.2.1
    show W p l e R s m args below meth c Hp locs cells slots Qf (F0 m pc lsA (.ref (ad (1000 + i0)) :: r.map (zEv ad)))
    rw [hS.2.2.2.2.1 _ (Or.inr (by omega))]
    refine va_calli (A0 := A) (va_runV (As := []) ⟨hx, hb, hml, hown, hts⟩ (zJ_length l hi) (cwV (C := RJ0) (own := zR (zO k)) (index := i) 0 hts (zj_goodV (zXL_ok _ hl) (zg1 220 (by decide +kernel) (by decide +kernel)) (zg1 221 (by decide +kernel) (by decide +kernel)) (zg1 13 (by decide +kernel) (by decide +kernel)) (zg1 222 (by decide +kernel) (by decide +kernel))) rfl rfl rfl ⟨rfl, by decide, by decide, by decide +kernel⟩ ⟨by show 2 + 1 ≤ _; omega, by show 8 + (1 + 11) + 40 * 2 ≤ _; omega⟩) ⟨zPj.blind, vk_recv g6 hi hS.2.2.1, fun U hU hW => ⟨rfl, by rw [zPj, hU]; exact hG.warm hW hS.2.2.1 (fun _ q => q.elim)⟩⟩ rfl rfl hL.1 rfl (by rw [zcs_sum]; show 2 * 0 + _ ≤ 8; omega) hd ⟨by omega, by omega⟩) hS.2.2.1 (fun _ _ q => q.elim) (fun _ q => q.elim) (fun rr u t H1 locs1 ht hvm hw hB hz hk hS1 => ?_)
    have hw : rr = Int32.ofNat ((zVS.map List.length).getD i0 0) := hw
    subst hw
    have kk := HP ad H1 lsA locs1 cells slots (zs_strgo hS (fun q hq => hk q hq (fun z => z.elim)) hS1) hL (zst_mk (v := .inl _) (by show zIn _; omega) hr)
    rw [e1, show Int32.ofNat (zvsLen (1000 + i0)) = zo ((zvsLen (1000 + i0) : Nat) : Int) from (Int32.ofInt_eq_ofNat).symm]
    exact kk
  · exact H.elim
theorem zs_satS {i pc : Nat} {ls : zLv} {st : List zV} {h : zH} (hx : p.tables.exec = Jvm.exec) (hb : c.code = zB k) (hml : c.maxLocals = zL k) (hts : ∀ w ∈ zGL, w.before args s = true) (hown : s.vm.findClass (zR (zO k)) = some m.cls) (hA : ∀ q, s.heap.size ≤ q → A q) (hG : zGb D dA A aC aV L xs s s.heap) (hR : 5 ≤ R.frames ∧ 300 ≤ R.locals) (hd : decode (zB k) pc = .ok (.invokevirtual i, 3)) (hl : (zO k, i) ∈ zXA) (H : zo_satS (zPp p l e R s m args below meth c Qf D dA A aC L xs N0 S0 M0 M1 k) pc ls st h) : zPp p l e R s m args below meth c Qf D dA A aC L xs N0 S0 M0 M1 k pc ls st h := by
  unfold zo_satS at H
  split at H
  · rename_i j x r
    intro ad Hp lsA locs cells slots hS hL hst
    obtain ⟨h0, hst1⟩ := zst_cons hst
    obtain ⟨h1, hr⟩ := zst_cons hst1
    obtain ⟨hzr, ⟨g0, g1⟩, gj, HP⟩ := H
    obtain ⟨i0, rfl⟩ : ∃ i0, x = 1000 + i0 := ⟨x - 1000, by omega⟩
    have hi : i0 < 13 := by omega
    obtain ⟨e1, e2⟩ := zvs_len hi
    have g6 := hG.2.2.2.2.2.1
    have s7 := hS.2.2.2.2.2.2.1
    have hj : j.toNat < (zVS.map List.length).getD i0 0 := by rw [e1]; omega
    obtain ⟨b1, b2, -⟩ := zbyt hi hj
    have ej : zo j = nI j.toNat := by
      show Int32.ofInt j = Int32.ofNat j.toNat
      rw [← Int32.ofInt_eq_ofNat]
      exact congrArg Int32.ofInt (by omega)
    show W p l e R s m args below meth c Hp locs cells slots Qf (F0 m pc lsA (.int (zo j) :: .ref (ad (1000 + i0)) :: r.map (zEv ad)))
    rw [hS.2.2.2.2.1 _ (Or.inr (by omega)), ej]
    refine va_calli (A0 := A) (va_runV (As := [.int (nI j.toNat)]) ⟨hx, hb, hml, hown, hts⟩ (zJ_charAt l hi hj (by rw [e1]; omega)) (cwV (C := RJ0) (own := zR (zO k)) (index := i) 1 hts (zj_goodV (zXA_ok _ hl) (zg1 230 (by decide +kernel) (by decide +kernel)) (zg1 231 (by decide +kernel) (by decide +kernel)) (zg1 13 (by decide +kernel) (by decide +kernel)) (zg1 232 (by decide +kernel) (by decide +kernel))) rfl rfl rfl ⟨rfl, by decide, by decide, by decide +kernel⟩ ⟨by show 4 + 1 ≤ _; omega, by show 8 + (2 + 11) + 40 * 4 ≤ _; omega⟩) ⟨zPj.blind, vk_recv g6 hi hS.2.2.1, fun U hU hW => ⟨rfl, by rw [zPj, hU]; exact hG.warm hW hS.2.2.1 (fun _ q => q.elim)⟩⟩ rfl rfl hL.1 rfl (by rw [zcs_sum]; show 2 * 0 + _ ≤ 8; omega) hd ⟨by omega, by omega⟩) hS.2.2.1 (fun _ _ q => q.elim) (fun _ q => q.elim) (fun rr u t H1 locs1 ht hvm hw hB hz hk hS1 => ?_)
    have hw : rr = zo (zgt 0 (zgt [] zVS i0) j.toNat) := hw
    subst hw
    have ev : zvsAt (1000 + i0) j.toNat = zgt 0 (zgt [] zVS i0) j.toNat := by unfold zvsAt; rw [Nat.add_sub_cancel_left]
    have kk := HP ad H1 lsA locs1 cells slots (zs_strgo hS (fun q hq => hk q hq (fun z => z.elim)) hS1) hL (zst_mk (v := .inl _) (by show zIn (zvsAt (1000 + i0) j.toNat); rw [ev]; omega) hr)
    rw [ev] at kk
    exact kk
  · exact H.elim
end
