/-! what is checked of each resolved instruction, and that all are so; written by wip/whole/gen5.py -/
def zXL : List (Nat × Nat) := [(7, 149), (11, 76)]
def zXA : List (Nat × Nat) := [(7, 155), (11, 82)]
def zXM : List (Nat × Nat) := [(7, 96), (11, 238)]
def zXN : List (Nat × Nat) := [(11, 243)]
theorem zXL_ok : ∀ q ∈ zXL, Cond.methodLink (zR q.1) q.2 yJ0_length_8abf5 ∈ zGL := by
  unfold zXL
  refine List.forall_mem_cons.mpr ⟨zg2 56 (by decide +kernel) (by decide +kernel), ?_⟩
  refine List.forall_mem_cons.mpr ⟨zg1 219 (by decide +kernel) (by decide +kernel), ?_⟩
  exact List.forall_mem_nil _
theorem zXA_ok : ∀ q ∈ zXA, Cond.methodLink (zR q.1) q.2 yJ0_charAt_5068e ∈ zGL := by
  unfold zXA
  refine List.forall_mem_cons.mpr ⟨zg2 57 (by decide +kernel) (by decide +kernel), ?_⟩
  refine List.forall_mem_cons.mpr ⟨zg1 229 (by decide +kernel) (by decide +kernel), ?_⟩
  exact List.forall_mem_nil _
theorem zXM_ok : ∀ q ∈ zXM, Cond.methodLink (zR q.1) q.2 Lib.Math.max.name ∈ zGL := by
  unfold zXM
  refine List.forall_mem_cons.mpr ⟨zg2 84 (by decide +kernel) (by decide +kernel), ?_⟩
  refine List.forall_mem_cons.mpr ⟨zg3 13 (by decide +kernel) (by decide +kernel), ?_⟩
  exact List.forall_mem_nil _
theorem zXN_ok : ∀ q ∈ zXN, Cond.methodLink (zR q.1) q.2 Lib.Math.min.name ∈ zGL := by
  unfold zXN
  refine List.forall_mem_cons.mpr ⟨zg3 10 (by decide +kernel) (by decide +kernel), ?_⟩
  exact List.forall_mem_nil _
theorem zMM_ok : (Cond.static Lib.Math.max.name ∈ zGL ∧ Cond.code Lib.Math.max.name Lib.Math.max.code 2 (some .int) ∈ zGL) ∧ (Cond.static Lib.Math.min.name ∈ zGL ∧ Cond.code Lib.Math.min.name Lib.Math.min.code 2 (some .int) ∈ zGL) ∧ Cond.initialized "java/lang/Math" ∈ zGL := ⟨⟨zg2 85 (by decide +kernel) (by decide +kernel), zg2 86 (by decide +kernel) (by decide +kernel)⟩, ⟨zg3 11 (by decide +kernel) (by decide +kernel), zg3 12 (by decide +kernel) (by decide +kernel)⟩, zg1 17 (by decide +kernel) (by decide +kernel)⟩
def zswT (pc : Nat) : Int → List Int → List (Int × Nat) → Bool
  | lo, o :: os, (c, t) :: l => decide (c = lo) && (decide ((pc : Int) + o = (t : Int)) && zswT pc (lo + 1) os l)
  | _, [], [] => true
  | _, _, _ => false
def zswL (pc : Nat) : List (Int × Int) → List (Int × Nat) → Bool
  | (a, o) :: ps, (c, t) :: l => decide (c = a) && (decide ((pc : Int) + o = (t : Int)) && zswL pc ps l)
  | [], [] => true
  | _, _ => false
def zdc (k pc : Nat) (i : Instr) (n : Nat) : Bool := decide (decode (zB k) pc = .ok (i, n))
def zdw (k pc : Nat) (i : Instr) : Bool := match decode (zB k) pc with
  | .ok q => decide (q.1 = i)
  | _ => false
def zpn (y n : Nat) : Bool := Nat.blt y 203 && (decide ((parseMethodDescriptor (zY y).desc).map (fun d => d.parameters.length) = some n) && (decide ((zY y).cls ≠ "java/lang/invoke/MethodHandle") && decide ((zY y).cls ≠ "java/lang/invoke/VarHandle")))
def zokV (k i n : Nat) (q : Int × Nat) : Bool := zpn q.2 n && (decide (0 ≤ q.1) && ((zVT.contains (zO k, i, q.1.toNat, q.2, n) && decide ((zY q.2).cls = zR q.1.toNat)) || zWT.any (fun w => decide ((w.1, w.2.1, w.2.2.1, w.2.2.2.1, w.2.2.2.2.1) = (zO k, i, q.1.toNat, q.2, n)) && zpn w.2.2.2.2.2 n)))
def zokB (k pc : Nat) (e : zE) : Bool := match e.1 with
  | .nop => true
  | .iconst n => zdc k pc (.iconst n) 1 && decide (-1 ≤ n ∧ n ≤ 5)
  | .bipush n => zdc k pc (.bipush n) 2 && decide (-128 ≤ n ∧ n ≤ 127)
  | .sipush n => zdc k pc (.sipush n) 3 && decide (-32768 ≤ n ∧ n ≤ 32767)
  | .lconst n => zdc k pc (.lconst n) 1
  | .ldc i => zdc k pc (.ldc i) 2 && match e.2.1 with
    | 0 => zKT.contains (zO k, i, zhd e.2.2.2)
    | _ => zGT.contains (zO k, i, e.2.2.1)
  | .ldc_w i => zdc k pc (.ldc_w i) 3 && zKT.contains (zO k, i, zhd e.2.2.2)
  | .ldc2_w i => zdc k pc (.ldc2_w i) 3 && zLT.contains (zO k, i, zhd e.2.2.2)
  | .iload_n f => zdc k pc (.iload_n f) 1 && decide (f.val = e.2.1)
  | .iload f => zdc k pc (.iload f) 2 && decide (f = e.2.1)
  | .lload_n f => zdc k pc (.lload_n f) 1 && decide (f.val = e.2.1)
  | .lload f => zdc k pc (.lload f) 2 && decide (f = e.2.1)
  | .aload_n f => zdc k pc (.aload_n f) 1 && decide (f.val = e.2.1)
  | .aload f => zdc k pc (.aload f) 2 && decide (f = e.2.1)
  | .istore_n f => zdc k pc (.istore_n f) 1 && (decide (f.val = e.2.1) && decide (e.2.1 < zL k))
  | .istore f => zdc k pc (.istore f) 2 && (decide (f = e.2.1) && decide (e.2.1 < zL k))
  | .lstore_n f => zdc k pc (.lstore_n f) 1 && (decide (f.val = e.2.1) && decide (e.2.1 + 1 < zL k))
  | .lstore f => zdc k pc (.lstore f) 2 && (decide (f = e.2.1) && decide (e.2.1 + 1 < zL k))
  | .astore_n f => zdc k pc (.astore_n f) 1 && (decide (f.val = e.2.1) && decide (e.2.1 < zL k))
  | .astore f => zdc k pc (.astore f) 2 && (decide (f = e.2.1) && decide (e.2.1 < zL k))
  | .iinc f d => zdc k pc (.iinc f d) 3 && (decide (f = e.2.1) && decide (e.2.1 < zL k))
  | .iadd => zdc k pc .iadd 1
  | .isub => zdc k pc .isub 1
  | .imul => zdc k pc .imul 1
  | .idiv => zdc k pc .idiv 1
  | .irem => zdc k pc .irem 1
  | .ineg => zdc k pc .ineg 1
  | .iand => zdc k pc .iand 1
  | .ior => zdc k pc .ior 1
  | .ixor => zdc k pc .ixor 1
  | .ishl => zdc k pc .ishl 1
  | .ishr => zdc k pc .ishr 1
  | .iushr => zdc k pc .iushr 1
  | .i2b => zdc k pc .i2b 1
  | .i2s => zdc k pc .i2s 1
  | .i2l => zdc k pc .i2l 1
  | .l2i => zdc k pc .l2i 1
  | .ladd => zdc k pc .ladd 1
  | .lsub => zdc k pc .lsub 1
  | .lmul => zdc k pc .lmul 1
  | .ldiv => zdc k pc .ldiv 1
  | .lrem => zdc k pc .lrem 1
  | .lcmp => zdc k pc .lcmp 1
  | .dup => zdc k pc .dup 1
  | .dup2 => zdc k pc .dup2 1
  | .dup_x1 => zdc k pc .dup_x1 1
  | .pop => zdc k pc .pop 1
  | .ifCond c d => zdc k pc (.ifCond c d) 3 && decide ((pc : Int) + d = (e.2.1 : Int))
  | .if_icmp c d => zdc k pc (.if_icmp c d) 3 && decide ((pc : Int) + d = (e.2.1 : Int))
  | .goto d => zdc k pc (.goto d) 3 && decide ((pc : Int) + d = (e.2.1 : Int))
  | .tableswitch d lo hi offs => zdw k pc (.tableswitch d lo hi offs) && (decide ((pc : Int) + d = (e.2.1 : Int)) && (decide (hi = lo + (offs.toList.length : Int) - 1) && zswT pc lo offs.toList e.2.2.2))
  | .lookupswitch d ps => zdw k pc (.lookupswitch d ps) && (decide ((pc : Int) + d = (e.2.1 : Int)) && ((ps.toList.zip (ps.toList.drop 1)).all (fun (a, next) => a.1 < next.1) && zswL pc ps.toList e.2.2.2))
  | .getfield i => zdc k pc (.getfield i) 3 && (zFT.contains (zO k, i, e.2.1, e.2.2.1) && (decide (e.2.2.1 < zNF e.2.1) && decide (e.2.1 < 13)))
  | .putfield i => zdc k pc (.putfield i) 3 && (zFT.contains (zO k, i, e.2.1, e.2.2.1) && (decide (e.2.2.1 < zNF e.2.1) && (decide (e.2.1 < 13) && (!(zT e.2.1 e.2.2.1).2.2.2 || (decide ((zY k).name = "<init>") && decide ((zT e.2.1 e.2.2.1).1 = zR (zO k)))))))
  | .iaload => zdc k pc .iaload 1
  | .baload => false
  | .aaload => zdc k pc .aaload 1
  | .iastore => zdc k pc .iastore 1
  | .bastore => false
  | .aastore => zdc k pc .aastore 1
  | .arraylength => zdc k pc .arraylength 1
  | .new i => zdc k pc (.new i) 3 && (zCT.contains (zO k, i, e.2.1) && decide (e.2.1 < 13))
  | .newarray t => zdc k pc (.newarray t) 2 && ((decide (t = .int) && decide (e.2.1 = 0)) || false)
  | .anewarray i => zdc k pc (.anewarray i) 3 && (zAT.contains (zO k, i, e.2.1) && decide (2 ≤ e.2.1 ∧ e.2.1 ≤ 5))
  | .invokestatic i => zdc k pc (.invokestatic i) 3 && match e.2.1 with
    | 1000 => false
    | 1004 => zXM.contains (zO k, i)
    | 1005 => zXN.contains (zO k, i)
    | y => zpn y e.2.2.1 && (zST.contains (zO k, i, y, e.2.2.1) || zSN.contains (zO k, i, y, e.2.2.1))
  | .invokespecial i => zdc k pc (.invokespecial i) 3 && match e.2.1 with
    | 1003 => zOT.contains (zO k, i)
    | y => zpn y e.2.2.1 && (((zIT.contains (zO k, i, y, e.2.2.1) || zIN.contains (zO k, i, y, e.2.2.1)) && (decide ((zY y).name = "<init>") && decide (zTr y = none))) || (zUT.contains (zO k, i, y, e.2.2.1) && decide ((zY y).name ≠ "<init>")))
  | .invokevirtual i => zdc k pc (.invokevirtual i) 3 && match e.2.1 with
    | 1001 => zXL.contains (zO k, i)
    | 1002 => zXA.contains (zO k, i)
    | _ => e.2.2.2.all (zokV k i e.2.2.1)
  | .ireturn => zdc k pc .ireturn 1 && match e.2.1 with
    | 0 => decide (zTr k = some .int)
    | _ => decide (zTr k = some .boolean)
  | .lreturn => zdc k pc .lreturn 1 && decide (zTr k = some .long)
  | .areturn => zdc k pc .areturn 1 && match zTr k with
    | some (.object _) => true
    | _ => false
  | .return_ => zdc k pc .return_ 1 && decide (zTr k = none)
  | _ => false
def zokM (k : Nat) : Bool := (List.range (16 * (zCode k).length)).all (fun pc => zokB k pc (zF k pc))
theorem zokc0 : (List.range 16).all (fun i => zokM (16 * 0 + i)) = true := by decide +kernel
theorem zokc1 : (List.range 16).all (fun i => zokM (16 * 1 + i)) = true := by decide +kernel
theorem zokc2 : (List.range 16).all (fun i => zokM (16 * 2 + i)) = true := by decide +kernel
theorem zokc3 : (List.range 16).all (fun i => zokM (16 * 3 + i)) = true := by decide +kernel
theorem zokc4 : (List.range 16).all (fun i => zokM (16 * 4 + i)) = true := by decide +kernel
theorem zokc5 : (List.range 16).all (fun i => zokM (16 * 5 + i)) = true := by decide +kernel
theorem zokc6 : (List.range 16).all (fun i => zokM (16 * 6 + i)) = true := by decide +kernel
theorem zokc7 : (List.range 16).all (fun i => zokM (16 * 7 + i)) = true := by decide +kernel
theorem zokc8 : (List.range 16).all (fun i => zokM (16 * 8 + i)) = true := by decide +kernel
theorem zokc9 : (List.range 16).all (fun i => zokM (16 * 9 + i)) = true := by decide +kernel
theorem zokc10 : (List.range 16).all (fun i => zokM (16 * 10 + i)) = true := by decide +kernel
theorem zokc11 : (List.range 16).all (fun i => zokM (16 * 11 + i)) = true := by decide +kernel
theorem zokc12 : (List.range 13).all (fun i => zokM (192 + i)) = true := by decide +kernel
theorem zokl0 : (List.range 64).all (fun i => zokB 205 (64 * 0 + i) (zF 205 (64 * 0 + i))) = true := by decide +kernel
theorem zokl1 : (List.range 64).all (fun i => zokB 205 (64 * 1 + i) (zF 205 (64 * 1 + i))) = true := by decide +kernel
theorem zokl2 : (List.range 64).all (fun i => zokB 205 (64 * 2 + i) (zF 205 (64 * 2 + i))) = true := by decide +kernel
theorem zokl3 : (List.range 64).all (fun i => zokB 205 (64 * 3 + i) (zF 205 (64 * 3 + i))) = true := by decide +kernel
theorem zokl4 : (List.range 64).all (fun i => zokB 205 (64 * 4 + i) (zF 205 (64 * 4 + i))) = true := by decide +kernel
theorem zokl5 : (List.range 64).all (fun i => zokB 205 (64 * 5 + i) (zF 205 (64 * 5 + i))) = true := by decide +kernel
theorem zokl6 : (List.range 64).all (fun i => zokB 205 (64 * 6 + i) (zF 205 (64 * 6 + i))) = true := by decide +kernel
theorem zokl7 : (List.range 64).all (fun i => zokB 205 (64 * 7 + i) (zF 205 (64 * 7 + i))) = true := by decide +kernel
theorem zokl8 : (List.range 64).all (fun i => zokB 205 (64 * 8 + i) (zF 205 (64 * 8 + i))) = true := by decide +kernel
theorem zokl9 : (List.range 64).all (fun i => zokB 205 (64 * 9 + i) (zF 205 (64 * 9 + i))) = true := by decide +kernel
theorem zokl10 : (List.range 64).all (fun i => zokB 205 (64 * 10 + i) (zF 205 (64 * 10 + i))) = true := by decide +kernel
theorem zokl11 : (List.range 64).all (fun i => zokB 205 (64 * 11 + i) (zF 205 (64 * 11 + i))) = true := by decide +kernel
theorem zokl12 : (List.range 64).all (fun i => zokB 205 (64 * 12 + i) (zF 205 (64 * 12 + i))) = true := by decide +kernel
theorem zokl13 : (List.range 64).all (fun i => zokB 205 (64 * 13 + i) (zF 205 (64 * 13 + i))) = true := by decide +kernel
theorem zgt_big {α : Type} (d : α) : ∀ (l : List α) (n : Nat), l.length ≤ n → zgt d l n = d
  | [], _, _ => rfl
  | _ :: l, 0, h => absurd h (by simp)
  | _ :: l, n + 1, h => zgt_big d l n (by simpa using h)
theorem zokM_all (k : Nat) (hk : k < 205) : zokM k = true := by
  have key : ∀ j, (List.range 16).all (fun i => zokM (16 * j + i)) = true → k / 16 = j → zokM k = true := by
    intro j hj e
    have := List.all_eq_true.mp hj (k % 16) (List.mem_range.mpr (Nat.mod_lt _ (by decide)))
    rwa [← e, Nat.div_add_mod] at this
  have h : k / 16 < 13 := by omega
  generalize hq : k / 16 = q at h
  match q, h, hq with
  | 0, _, hq => exact key 0 zokc0 hq
  | 1, _, hq => exact key 1 zokc1 hq
  | 2, _, hq => exact key 2 zokc2 hq
  | 3, _, hq => exact key 3 zokc3 hq
  | 4, _, hq => exact key 4 zokc4 hq
  | 5, _, hq => exact key 5 zokc5 hq
  | 6, _, hq => exact key 6 zokc6 hq
  | 7, _, hq => exact key 7 zokc7 hq
  | 8, _, hq => exact key 8 zokc8 hq
  | 9, _, hq => exact key 9 zokc9 hq
  | 10, _, hq => exact key 10 zokc10 hq
  | 11, _, hq => exact key 11 zokc11 hq
  | 12, _, hq =>
    have := List.all_eq_true.mp zokc12 (k - 192) (List.mem_range.mpr (by omega))
    rwa [show 192 + (k - 192) = k by omega] at this
  | q + 13, h, _ => exact absurd h (by omega)
theorem zcode205 : (zCode 205).length = 54 := by decide +kernel
theorem zokL_all (pc : Nat) (h : pc < 864) : zokB 205 pc (zF 205 pc) = true := by
  have key : ∀ j, (List.range 64).all (fun i => zokB 205 (64 * j + i) (zF 205 (64 * j + i))) = true → pc / 64 = j → zokB 205 pc (zF 205 pc) = true := by
    intro j hj e
    have := List.all_eq_true.mp hj (pc % 64) (List.mem_range.mpr (Nat.mod_lt _ (by decide)))
    rwa [← e, Nat.div_add_mod] at this
  have h : pc / 64 < 14 := by omega
  generalize hq : pc / 64 = q at h
  match q, h, hq with
  | 0, _, hq => exact key 0 zokl0 hq
  | 1, _, hq => exact key 1 zokl1 hq
  | 2, _, hq => exact key 2 zokl2 hq
  | 3, _, hq => exact key 3 zokl3 hq
  | 4, _, hq => exact key 4 zokl4 hq
  | 5, _, hq => exact key 5 zokl5 hq
  | 6, _, hq => exact key 6 zokl6 hq
  | 7, _, hq => exact key 7 zokl7 hq
  | 8, _, hq => exact key 8 zokl8 hq
  | 9, _, hq => exact key 9 zokl9 hq
  | 10, _, hq => exact key 10 zokl10 hq
  | 11, _, hq => exact key 11 zokl11 hq
  | 12, _, hq => exact key 12 zokl12 hq
  | 13, _, hq => exact key 13 zokl13 hq
  | q + 14, h, _ => exact absurd h (by omega)
theorem zok_all {k : Nat} (hk : k < 206) (pc : Nat) : zokB k pc (zF k pc) = true := by
  by_cases h : pc < 16 * (zCode k).length
  · by_cases hk5 : k < 205
    · exact List.all_eq_true.mp (zokM_all k hk5) pc (List.mem_range.mpr h)
    · obtain rfl : k = 205 := by omega
      rw [zcode205] at h
      exact zokL_all pc (by omega)
  · have e : zF k pc = zN := by
      unfold zF
      rw [zgt_big [] (zCode k) (pc / 16) (by omega)]
      rfl
    rw [e]
    rfl
