/-! the links' words, by their places; the resolved code against the bytes; written by wip/whole/gen4.py -/
theorem zFT_ok : ∀ q ∈ zFT, Cond.fieldLink (zR q.1) q.2.1 (zT q.2.2.1 q.2.2.2).1 (zT q.2.2.1 q.2.2.2).2.1 (zT q.2.2.1 q.2.2.2).2.2.1 ∈ zGL := by
  unfold zFT
  refine List.forall_mem_cons.mpr ⟨zg1 73 (by decide +kernel) (by decide +kernel), ?_⟩
  refine List.forall_mem_cons.mpr ⟨zg1 75 (by decide +kernel) (by decide +kernel), ?_⟩
  refine List.forall_mem_cons.mpr ⟨zg1 77 (by decide +kernel) (by decide +kernel), ?_⟩
  refine List.forall_mem_cons.mpr ⟨zg1 79 (by decide +kernel) (by decide +kernel), ?_⟩
  refine List.forall_mem_cons.mpr ⟨zg1 82 (by decide +kernel) (by decide +kernel), ?_⟩
  refine List.forall_mem_cons.mpr ⟨zg1 83 (by decide +kernel) (by decide +kernel), ?_⟩
  refine List.forall_mem_cons.mpr ⟨zg1 85 (by decide +kernel) (by decide +kernel), ?_⟩
  refine List.forall_mem_cons.mpr ⟨zg1 47 (by decide +kernel) (by decide +kernel), ?_⟩
  refine List.forall_mem_cons.mpr ⟨zg1 45 (by decide +kernel) (by decide +kernel), ?_⟩
  refine List.forall_mem_cons.mpr ⟨zg1 52 (by decide +kernel) (by decide +kernel), ?_⟩
  refine List.forall_mem_cons.mpr ⟨zg1 44 (by decide +kernel) (by decide +kernel), ?_⟩
  refine List.forall_mem_cons.mpr ⟨zg1 49 (by decide +kernel) (by decide +kernel), ?_⟩
  refine List.forall_mem_cons.mpr ⟨zg1 54 (by decide +kernel) (by decide +kernel), ?_⟩
  refine List.forall_mem_cons.mpr ⟨zg1 57 (by decide +kernel) (by decide +kernel), ?_⟩
  refine List.forall_mem_cons.mpr ⟨zg1 42 (by decide +kernel) (by decide +kernel), ?_⟩
  refine List.forall_mem_cons.mpr ⟨zg1 60 (by decide +kernel) (by decide +kernel), ?_⟩
  refine List.forall_mem_cons.mpr ⟨zg1 187 (by decide +kernel) (by decide +kernel), ?_⟩
  refine List.forall_mem_cons.mpr ⟨zg1 189 (by decide +kernel) (by decide +kernel), ?_⟩
  refine List.forall_mem_cons.mpr ⟨zg1 190 (by decide +kernel) (by decide +kernel), ?_⟩
  refine List.forall_mem_cons.mpr ⟨zg1 191 (by decide +kernel) (by decide +kernel), ?_⟩
  refine List.forall_mem_cons.mpr ⟨zg1 196 (by decide +kernel) (by decide +kernel), ?_⟩
  refine List.forall_mem_cons.mpr ⟨zg1 188 (by decide +kernel) (by decide +kernel), ?_⟩
  refine List.forall_mem_cons.mpr ⟨zg1 173 (by decide +kernel) (by decide +kernel), ?_⟩
  refine List.forall_mem_cons.mpr ⟨zg1 195 (by decide +kernel) (by decide +kernel), ?_⟩
  refine List.forall_mem_cons.mpr ⟨zg1 193 (by decide +kernel) (by decide +kernel), ?_⟩
  refine List.forall_mem_cons.mpr ⟨zg1 194 (by decide +kernel) (by decide +kernel), ?_⟩
  refine List.forall_mem_cons.mpr ⟨zg1 171 (by decide +kernel) (by decide +kernel), ?_⟩
  refine List.forall_mem_cons.mpr ⟨zg1 192 (by decide +kernel) (by decide +kernel), ?_⟩
  refine List.forall_mem_cons.mpr ⟨zg1 152 (by decide +kernel) (by decide +kernel), ?_⟩
  refine List.forall_mem_cons.mpr ⟨zg1 154 (by decide +kernel) (by decide +kernel), ?_⟩
  refine List.forall_mem_cons.mpr ⟨zg1 155 (by decide +kernel) (by decide +kernel), ?_⟩
  refine List.forall_mem_cons.mpr ⟨zg1 51 (by decide +kernel) (by decide +kernel), ?_⟩
  refine List.forall_mem_cons.mpr ⟨zg1 169 (by decide +kernel) (by decide +kernel), ?_⟩
  refine List.forall_mem_cons.mpr ⟨zg1 170 (by decide +kernel) (by decide +kernel), ?_⟩
  refine List.forall_mem_cons.mpr ⟨zg1 172 (by decide +kernel) (by decide +kernel), ?_⟩
  refine List.forall_mem_cons.mpr ⟨zg1 53 (by decide +kernel) (by decide +kernel), ?_⟩
  refine List.forall_mem_cons.mpr ⟨zg1 56 (by decide +kernel) (by decide +kernel), ?_⟩
  refine List.forall_mem_cons.mpr ⟨zg1 48 (by decide +kernel) (by decide +kernel), ?_⟩
  refine List.forall_mem_cons.mpr ⟨zg1 59 (by decide +kernel) (by decide +kernel), ?_⟩
  refine List.forall_mem_cons.mpr ⟨zg2 135 (by decide +kernel) (by decide +kernel), ?_⟩
  refine List.forall_mem_cons.mpr ⟨zg2 136 (by decide +kernel) (by decide +kernel), ?_⟩
  refine List.forall_mem_cons.mpr ⟨zg2 137 (by decide +kernel) (by decide +kernel), ?_⟩
  refine List.forall_mem_cons.mpr ⟨zg2 138 (by decide +kernel) (by decide +kernel), ?_⟩
  refine List.forall_mem_cons.mpr ⟨zg2 140 (by decide +kernel) (by decide +kernel), ?_⟩
  refine List.forall_mem_cons.mpr ⟨zg2 143 (by decide +kernel) (by decide +kernel), ?_⟩
  refine List.forall_mem_cons.mpr ⟨zg2 144 (by decide +kernel) (by decide +kernel), ?_⟩
  refine List.forall_mem_cons.mpr ⟨zg2 145 (by decide +kernel) (by decide +kernel), ?_⟩
  refine List.forall_mem_cons.mpr ⟨zg2 141 (by decide +kernel) (by decide +kernel), ?_⟩
  refine List.forall_mem_cons.mpr ⟨zg2 142 (by decide +kernel) (by decide +kernel), ?_⟩
  refine List.forall_mem_cons.mpr ⟨zg1 81 (by decide +kernel) (by decide +kernel), ?_⟩
  refine List.forall_mem_cons.mpr ⟨zg1 74 (by decide +kernel) (by decide +kernel), ?_⟩
  refine List.forall_mem_cons.mpr ⟨zg1 78 (by decide +kernel) (by decide +kernel), ?_⟩
  refine List.forall_mem_cons.mpr ⟨zg1 43 (by decide +kernel) (by decide +kernel), ?_⟩
  refine List.forall_mem_cons.mpr ⟨zg1 46 (by decide +kernel) (by decide +kernel), ?_⟩
  refine List.forall_mem_cons.mpr ⟨zg1 50 (by decide +kernel) (by decide +kernel), ?_⟩
  refine List.forall_mem_cons.mpr ⟨zg1 55 (by decide +kernel) (by decide +kernel), ?_⟩
  refine List.forall_mem_cons.mpr ⟨zg1 58 (by decide +kernel) (by decide +kernel), ?_⟩
  refine List.forall_mem_cons.mpr ⟨zg1 80 (by decide +kernel) (by decide +kernel), ?_⟩
  refine List.forall_mem_cons.mpr ⟨zg1 76 (by decide +kernel) (by decide +kernel), ?_⟩
  refine List.forall_mem_cons.mpr ⟨zg1 84 (by decide +kernel) (by decide +kernel), ?_⟩
  refine List.forall_mem_cons.mpr ⟨zg1 86 (by decide +kernel) (by decide +kernel), ?_⟩
  refine List.forall_mem_cons.mpr ⟨zg1 156 (by decide +kernel) (by decide +kernel), ?_⟩
  refine List.forall_mem_cons.mpr ⟨zg1 153 (by decide +kernel) (by decide +kernel), ?_⟩
  refine List.forall_mem_cons.mpr ⟨zg2 139 (by decide +kernel) (by decide +kernel), ?_⟩
  exact List.forall_mem_nil _
theorem zST_ok : ∀ q ∈ zST, Cond.methodLink (zR q.1) q.2.1 (zY q.2.2.1) ∈ zGL ∧ Cond.static (zY q.2.2.1) ∈ zGL := by
  unfold zST
  refine List.forall_mem_cons.mpr ⟨⟨zg3 104 (by decide +kernel) (by decide +kernel), zg2 236 (by decide +kernel) (by decide +kernel)⟩, ?_⟩
  refine List.forall_mem_cons.mpr ⟨⟨zg2 81 (by decide +kernel) (by decide +kernel), zg2 82 (by decide +kernel) (by decide +kernel)⟩, ?_⟩
  refine List.forall_mem_cons.mpr ⟨⟨zg2 232 (by decide +kernel) (by decide +kernel), zg2 233 (by decide +kernel) (by decide +kernel)⟩, ?_⟩
  refine List.forall_mem_cons.mpr ⟨⟨zg3 1 (by decide +kernel) (by decide +kernel), zg3 2 (by decide +kernel) (by decide +kernel)⟩, ?_⟩
  refine List.forall_mem_cons.mpr ⟨⟨zg3 4 (by decide +kernel) (by decide +kernel), zg3 5 (by decide +kernel) (by decide +kernel)⟩, ?_⟩
  refine List.forall_mem_cons.mpr ⟨⟨zg2 235 (by decide +kernel) (by decide +kernel), zg2 236 (by decide +kernel) (by decide +kernel)⟩, ?_⟩
  refine List.forall_mem_cons.mpr ⟨⟨zg2 182 (by decide +kernel) (by decide +kernel), zg2 183 (by decide +kernel) (by decide +kernel)⟩, ?_⟩
  refine List.forall_mem_cons.mpr ⟨⟨zg2 197 (by decide +kernel) (by decide +kernel), zg2 198 (by decide +kernel) (by decide +kernel)⟩, ?_⟩
  refine List.forall_mem_cons.mpr ⟨⟨zg3 120 (by decide +kernel) (by decide +kernel), zg3 121 (by decide +kernel) (by decide +kernel)⟩, ?_⟩
  refine List.forall_mem_cons.mpr ⟨⟨zg3 131 (by decide +kernel) (by decide +kernel), zg3 132 (by decide +kernel) (by decide +kernel)⟩, ?_⟩
  refine List.forall_mem_cons.mpr ⟨⟨zg3 36 (by decide +kernel) (by decide +kernel), zg3 8 (by decide +kernel) (by decide +kernel)⟩, ?_⟩
  refine List.forall_mem_cons.mpr ⟨⟨zg3 151 (by decide +kernel) (by decide +kernel), zg3 58 (by decide +kernel) (by decide +kernel)⟩, ?_⟩
  refine List.forall_mem_cons.mpr ⟨⟨zg3 134 (by decide +kernel) (by decide +kernel), zg2 236 (by decide +kernel) (by decide +kernel)⟩, ?_⟩
  refine List.forall_mem_cons.mpr ⟨⟨zg4 0 (by decide +kernel) (by decide +kernel), zg4 1 (by decide +kernel) (by decide +kernel)⟩, ?_⟩
  refine List.forall_mem_cons.mpr ⟨⟨zg3 237 (by decide +kernel) (by decide +kernel), zg3 238 (by decide +kernel) (by decide +kernel)⟩, ?_⟩
  refine List.forall_mem_cons.mpr ⟨⟨zg4 6 (by decide +kernel) (by decide +kernel), zg2 236 (by decide +kernel) (by decide +kernel)⟩, ?_⟩
  refine List.forall_mem_cons.mpr ⟨⟨zg4 3 (by decide +kernel) (by decide +kernel), zg4 4 (by decide +kernel) (by decide +kernel)⟩, ?_⟩
  exact List.forall_mem_nil _
theorem zSN_ok : ∀ q ∈ zSN, Cond.methodLinkNest (zR q.1) q.2.1 (zY q.2.2.1) RX11 ∈ lw_tbl ∧ Cond.static (zY q.2.2.1) ∈ zGL := by
  unfold zSN
  refine List.forall_mem_cons.mpr ⟨⟨zt3 57 (by decide +kernel), zg3 58 (by decide +kernel) (by decide +kernel)⟩, ?_⟩
  refine List.forall_mem_cons.mpr ⟨⟨zt3 212 (by decide +kernel), zg3 8 (by decide +kernel) (by decide +kernel)⟩, ?_⟩
  refine List.forall_mem_cons.mpr ⟨⟨zt3 65 (by decide +kernel), zg3 58 (by decide +kernel) (by decide +kernel)⟩, ?_⟩
  refine List.forall_mem_cons.mpr ⟨⟨zt3 7 (by decide +kernel), zg3 8 (by decide +kernel) (by decide +kernel)⟩, ?_⟩
  exact List.forall_mem_nil _
theorem zIT_ok : ∀ q ∈ zIT, Cond.methodLink (zR q.1) q.2.1 (zY q.2.2.1) ∈ zGL ∧ Cond.instanceMethod (zY q.2.2.1) ∈ zGL := by
  unfold zIT
  refine List.forall_mem_cons.mpr ⟨⟨zg1 31 (by decide +kernel) (by decide +kernel), zg1 32 (by decide +kernel) (by decide +kernel)⟩, ?_⟩
  refine List.forall_mem_cons.mpr ⟨⟨zg1 183 (by decide +kernel) (by decide +kernel), zg1 184 (by decide +kernel) (by decide +kernel)⟩, ?_⟩
  refine List.forall_mem_cons.mpr ⟨⟨zg1 21 (by decide +kernel) (by decide +kernel), zg1 22 (by decide +kernel) (by decide +kernel)⟩, ?_⟩
  exact List.forall_mem_nil _
theorem zIN_ok : ∀ q ∈ zIN, Cond.methodLinkNest (zR q.1) q.2.1 (zY q.2.2.1) RX11 ∈ lw_tbl ∧ Cond.instanceMethod (zY q.2.2.1) ∈ zGL := by
  unfold zIN
  refine List.forall_mem_cons.mpr ⟨⟨zt1 38 (by decide +kernel), zg1 39 (by decide +kernel) (by decide +kernel)⟩, ?_⟩
  refine List.forall_mem_cons.mpr ⟨⟨zt1 124 (by decide +kernel), zg1 108 (by decide +kernel) (by decide +kernel)⟩, ?_⟩
  refine List.forall_mem_cons.mpr ⟨⟨zt1 117 (by decide +kernel), zg1 108 (by decide +kernel) (by decide +kernel)⟩, ?_⟩
  refine List.forall_mem_cons.mpr ⟨⟨zt1 131 (by decide +kernel), zg1 115 (by decide +kernel) (by decide +kernel)⟩, ?_⟩
  refine List.forall_mem_cons.mpr ⟨⟨zt1 138 (by decide +kernel), zg1 122 (by decide +kernel) (by decide +kernel)⟩, ?_⟩
  refine List.forall_mem_cons.mpr ⟨⟨zt1 145 (by decide +kernel), zg1 108 (by decide +kernel) (by decide +kernel)⟩, ?_⟩
  refine List.forall_mem_cons.mpr ⟨⟨zt1 107 (by decide +kernel), zg1 108 (by decide +kernel) (by decide +kernel)⟩, ?_⟩
  refine List.forall_mem_cons.mpr ⟨⟨zt1 114 (by decide +kernel), zg1 115 (by decide +kernel) (by decide +kernel)⟩, ?_⟩
  refine List.forall_mem_cons.mpr ⟨⟨zt1 121 (by decide +kernel), zg1 122 (by decide +kernel) (by decide +kernel)⟩, ?_⟩
  refine List.forall_mem_cons.mpr ⟨⟨zt1 128 (by decide +kernel), zg1 129 (by decide +kernel) (by decide +kernel)⟩, ?_⟩
  refine List.forall_mem_cons.mpr ⟨⟨zt1 135 (by decide +kernel), zg1 136 (by decide +kernel) (by decide +kernel)⟩, ?_⟩
  refine List.forall_mem_cons.mpr ⟨⟨zt1 142 (by decide +kernel), zg1 143 (by decide +kernel) (by decide +kernel)⟩, ?_⟩
  refine List.forall_mem_cons.mpr ⟨⟨zt1 148 (by decide +kernel), zg1 149 (by decide +kernel) (by decide +kernel)⟩, ?_⟩
  refine List.forall_mem_cons.mpr ⟨⟨zt1 165 (by decide +kernel), zg1 166 (by decide +kernel) (by decide +kernel)⟩, ?_⟩
  exact List.forall_mem_nil _
theorem zOT_ok : ∀ q ∈ zOT, Cond.methodLink (zR q.1) q.2 Lib.objectInit ∈ zGL := by
  unfold zOT
  refine List.forall_mem_cons.mpr ⟨zg1 34 (by decide +kernel) (by decide +kernel), ?_⟩
  refine List.forall_mem_cons.mpr ⟨zg1 41 (by decide +kernel) (by decide +kernel), ?_⟩
  refine List.forall_mem_cons.mpr ⟨zg1 186 (by decide +kernel) (by decide +kernel), ?_⟩
  refine List.forall_mem_cons.mpr ⟨zg1 151 (by decide +kernel) (by decide +kernel), ?_⟩
  refine List.forall_mem_cons.mpr ⟨zg1 110 (by decide +kernel) (by decide +kernel), ?_⟩
  refine List.forall_mem_cons.mpr ⟨zg1 168 (by decide +kernel) (by decide +kernel), ?_⟩
  refine List.forall_mem_cons.mpr ⟨zg1 24 (by decide +kernel) (by decide +kernel), ?_⟩
  exact List.forall_mem_nil _
theorem zOI_ok : Cond.instanceMethod Lib.objectInit ∈ zGL ∧ Cond.code Lib.objectInit ⟨#[0xb1]⟩ 1 none ∈ zGL := ⟨zg1 25 (by decide +kernel) (by decide +kernel), zg1 26 (by decide +kernel) (by decide +kernel)⟩
theorem zUT_ok : ∀ q ∈ zUT, Cond.methodLink (zR q.1) q.2.1 (zY q.2.2.1) ∈ zGL ∧ Cond.sameMethod (zY q.2.2.1).cls (zY q.2.2.1).cls (zY q.2.2.1).name (zY q.2.2.1).desc ∈ zGL ∧ Cond.superclass (zR q.1) (zY q.2.2.1).cls ∈ zGL ∧ Cond.instanceMethod (zY q.2.2.1) ∈ zGL := by
  unfold zUT
  refine List.forall_mem_cons.mpr ⟨⟨zg3 21 (by decide +kernel) (by decide +kernel), zg3 17 (by decide +kernel) (by decide +kernel), zg1 125 (by decide +kernel) (by decide +kernel), zg3 15 (by decide +kernel) (by decide +kernel)⟩, ?_⟩
  refine List.forall_mem_cons.mpr ⟨⟨zg3 44 (by decide +kernel) (by decide +kernel), zg3 40 (by decide +kernel) (by decide +kernel), zg1 125 (by decide +kernel) (by decide +kernel), zg3 38 (by decide +kernel) (by decide +kernel)⟩, ?_⟩
  refine List.forall_mem_cons.mpr ⟨⟨zg3 77 (by decide +kernel) (by decide +kernel), zg3 73 (by decide +kernel) (by decide +kernel), zg1 125 (by decide +kernel) (by decide +kernel), zg3 71 (by decide +kernel) (by decide +kernel)⟩, ?_⟩
  refine List.forall_mem_cons.mpr ⟨⟨zg3 25 (by decide +kernel) (by decide +kernel), zg3 17 (by decide +kernel) (by decide +kernel), zg1 118 (by decide +kernel) (by decide +kernel), zg3 15 (by decide +kernel) (by decide +kernel)⟩, ?_⟩
  refine List.forall_mem_cons.mpr ⟨⟨zg3 48 (by decide +kernel) (by decide +kernel), zg3 40 (by decide +kernel) (by decide +kernel), zg1 118 (by decide +kernel) (by decide +kernel), zg3 38 (by decide +kernel) (by decide +kernel)⟩, ?_⟩
  refine List.forall_mem_cons.mpr ⟨⟨zg3 52 (by decide +kernel) (by decide +kernel), zg4 8 (by decide +kernel) (by decide +kernel), zg1 132 (by decide +kernel) (by decide +kernel), zg3 46 (by decide +kernel) (by decide +kernel)⟩, ?_⟩
  refine List.forall_mem_cons.mpr ⟨⟨zg3 30 (by decide +kernel) (by decide +kernel), zg4 7 (by decide +kernel) (by decide +kernel), zg1 139 (by decide +kernel) (by decide +kernel), zg3 19 (by decide +kernel) (by decide +kernel)⟩, ?_⟩
  refine List.forall_mem_cons.mpr ⟨⟨zg3 56 (by decide +kernel) (by decide +kernel), zg4 9 (by decide +kernel) (by decide +kernel), zg1 139 (by decide +kernel) (by decide +kernel), zg3 42 (by decide +kernel) (by decide +kernel)⟩, ?_⟩
  refine List.forall_mem_cons.mpr ⟨⟨zg3 87 (by decide +kernel) (by decide +kernel), zg4 10 (by decide +kernel) (by decide +kernel), zg1 139 (by decide +kernel) (by decide +kernel), zg3 75 (by decide +kernel) (by decide +kernel)⟩, ?_⟩
  refine List.forall_mem_cons.mpr ⟨⟨zg3 34 (by decide +kernel) (by decide +kernel), zg3 17 (by decide +kernel) (by decide +kernel), zg1 146 (by decide +kernel) (by decide +kernel), zg3 15 (by decide +kernel) (by decide +kernel)⟩, ?_⟩
  refine List.forall_mem_cons.mpr ⟨⟨zg3 63 (by decide +kernel) (by decide +kernel), zg3 40 (by decide +kernel) (by decide +kernel), zg1 146 (by decide +kernel) (by decide +kernel), zg3 38 (by decide +kernel) (by decide +kernel)⟩, ?_⟩
  refine List.forall_mem_cons.mpr ⟨⟨zg3 91 (by decide +kernel) (by decide +kernel), zg3 73 (by decide +kernel) (by decide +kernel), zg1 146 (by decide +kernel) (by decide +kernel), zg3 71 (by decide +kernel) (by decide +kernel)⟩, ?_⟩
  exact List.forall_mem_nil _
theorem zsel_of {q : MethodName × Nat} (h : q ∈ lw_privs) (g : goodWord (Cond.selects q.1.cls q.1 q.1) = true) : Cond.selects q.1.cls q.1 q.1 ∈ zGL := List.mem_filter.mpr ⟨List.mem_append_left _ (List.mem_map.mpr ⟨q, h, rfl⟩), g⟩
theorem zVT_ok : ∀ q ∈ zVT, Cond.methodLink (zR q.1) q.2.1 (zY q.2.2.2.1) ∈ zGL ∧ Cond.instanceMethod (zY q.2.2.2.1) ∈ zGL ∧ Cond.selects (zR q.2.2.1) (zY q.2.2.2.1) (zY q.2.2.2.1) ∈ zGL := by
  unfold zVT
  refine List.forall_mem_cons.mpr ⟨⟨zg3 164 (by decide +kernel) (by decide +kernel), zg3 165 (by decide +kernel) (by decide +kernel), zg3 166 (by decide +kernel) (by decide +kernel)⟩, ?_⟩
  refine List.forall_mem_cons.mpr ⟨⟨zg2 35 (by decide +kernel) (by decide +kernel), zg2 37 (by decide +kernel) (by decide +kernel), zsel_of (q := (zY 50, 10)) (by decide +kernel) (by decide +kernel)⟩, ?_⟩
  refine List.forall_mem_cons.mpr ⟨⟨zg2 87 (by decide +kernel) (by decide +kernel), zg2 89 (by decide +kernel) (by decide +kernel), zsel_of (q := (zY 39, 10)) (by decide +kernel) (by decide +kernel)⟩, ?_⟩
  refine List.forall_mem_cons.mpr ⟨⟨zg2 91 (by decide +kernel) (by decide +kernel), zg2 93 (by decide +kernel) (by decide +kernel), zsel_of (q := (zY 47, 10)) (by decide +kernel) (by decide +kernel)⟩, ?_⟩
  refine List.forall_mem_cons.mpr ⟨⟨zg2 103 (by decide +kernel) (by decide +kernel), zg2 105 (by decide +kernel) (by decide +kernel), zsel_of (q := (zY 40, 10)) (by decide +kernel) (by decide +kernel)⟩, ?_⟩
  refine List.forall_mem_cons.mpr ⟨⟨zg2 107 (by decide +kernel) (by decide +kernel), zg2 109 (by decide +kernel) (by decide +kernel), zsel_of (q := (zY 41, 10)) (by decide +kernel) (by decide +kernel)⟩, ?_⟩
  refine List.forall_mem_cons.mpr ⟨⟨zg2 95 (by decide +kernel) (by decide +kernel), zg2 97 (by decide +kernel) (by decide +kernel), zsel_of (q := (zY 49, 10)) (by decide +kernel) (by decide +kernel)⟩, ?_⟩
  refine List.forall_mem_cons.mpr ⟨⟨zg2 119 (by decide +kernel) (by decide +kernel), zg2 120 (by decide +kernel) (by decide +kernel), zg2 121 (by decide +kernel) (by decide +kernel)⟩, ?_⟩
  refine List.forall_mem_cons.mpr ⟨⟨zg2 111 (by decide +kernel) (by decide +kernel), zg2 113 (by decide +kernel) (by decide +kernel), zsel_of (q := (zY 42, 10)) (by decide +kernel) (by decide +kernel)⟩, ?_⟩
  refine List.forall_mem_cons.mpr ⟨⟨zg2 115 (by decide +kernel) (by decide +kernel), zg2 117 (by decide +kernel) (by decide +kernel), zsel_of (q := (zY 46, 10)) (by decide +kernel) (by decide +kernel)⟩, ?_⟩
  refine List.forall_mem_cons.mpr ⟨⟨zg2 123 (by decide +kernel) (by decide +kernel), zg2 125 (by decide +kernel) (by decide +kernel), zsel_of (q := (zY 43, 10)) (by decide +kernel) (by decide +kernel)⟩, ?_⟩
  refine List.forall_mem_cons.mpr ⟨⟨zg2 127 (by decide +kernel) (by decide +kernel), zg2 129 (by decide +kernel) (by decide +kernel), zsel_of (q := (zY 44, 10)) (by decide +kernel) (by decide +kernel)⟩, ?_⟩
  refine List.forall_mem_cons.mpr ⟨⟨zg2 131 (by decide +kernel) (by decide +kernel), zg2 133 (by decide +kernel) (by decide +kernel), zsel_of (q := (zY 45, 10)) (by decide +kernel) (by decide +kernel)⟩, ?_⟩
  refine List.forall_mem_cons.mpr ⟨⟨zg2 99 (by decide +kernel) (by decide +kernel), zg2 101 (by decide +kernel) (by decide +kernel), zsel_of (q := (zY 48, 10)) (by decide +kernel) (by decide +kernel)⟩, ?_⟩
  refine List.forall_mem_cons.mpr ⟨⟨zg2 39 (by decide +kernel) (by decide +kernel), zg2 41 (by decide +kernel) (by decide +kernel), zsel_of (q := (zY 52, 10)) (by decide +kernel) (by decide +kernel)⟩, ?_⟩
  refine List.forall_mem_cons.mpr ⟨⟨zg2 73 (by decide +kernel) (by decide +kernel), zg2 75 (by decide +kernel) (by decide +kernel), zsel_of (q := (zY 51, 10)) (by decide +kernel) (by decide +kernel)⟩, ?_⟩
  refine List.forall_mem_cons.mpr ⟨⟨zg2 43 (by decide +kernel) (by decide +kernel), zg2 45 (by decide +kernel) (by decide +kernel), zsel_of (q := (zY 53, 10)) (by decide +kernel) (by decide +kernel)⟩, ?_⟩
  refine List.forall_mem_cons.mpr ⟨⟨zg2 77 (by decide +kernel) (by decide +kernel), zg2 79 (by decide +kernel) (by decide +kernel), zsel_of (q := (zY 54, 10)) (by decide +kernel) (by decide +kernel)⟩, ?_⟩
  refine List.forall_mem_cons.mpr ⟨⟨zg2 47 (by decide +kernel) (by decide +kernel), zg2 49 (by decide +kernel) (by decide +kernel), zsel_of (q := (zY 56, 10)) (by decide +kernel) (by decide +kernel)⟩, ?_⟩
  refine List.forall_mem_cons.mpr ⟨⟨zg2 63 (by decide +kernel) (by decide +kernel), zg2 65 (by decide +kernel) (by decide +kernel), zsel_of (q := (zY 57, 10)) (by decide +kernel) (by decide +kernel)⟩, ?_⟩
  refine List.forall_mem_cons.mpr ⟨⟨zg2 52 (by decide +kernel) (by decide +kernel), zg2 54 (by decide +kernel) (by decide +kernel), zsel_of (q := (zY 58, 10)) (by decide +kernel) (by decide +kernel)⟩, ?_⟩
  refine List.forall_mem_cons.mpr ⟨⟨zg2 27 (by decide +kernel) (by decide +kernel), zg2 28 (by decide +kernel) (by decide +kernel), zg2 29 (by decide +kernel) (by decide +kernel)⟩, ?_⟩
  refine List.forall_mem_cons.mpr ⟨⟨zg2 31 (by decide +kernel) (by decide +kernel), zg2 32 (by decide +kernel) (by decide +kernel), zg2 33 (by decide +kernel) (by decide +kernel)⟩, ?_⟩
  refine List.forall_mem_cons.mpr ⟨⟨zg2 178 (by decide +kernel) (by decide +kernel), zg2 179 (by decide +kernel) (by decide +kernel), zg2 180 (by decide +kernel) (by decide +kernel)⟩, ?_⟩
  refine List.forall_mem_cons.mpr ⟨⟨zg2 185 (by decide +kernel) (by decide +kernel), zg2 186 (by decide +kernel) (by decide +kernel), zg2 187 (by decide +kernel) (by decide +kernel)⟩, ?_⟩
  refine List.forall_mem_cons.mpr ⟨⟨zg2 189 (by decide +kernel) (by decide +kernel), zg2 190 (by decide +kernel) (by decide +kernel), zg2 191 (by decide +kernel) (by decide +kernel)⟩, ?_⟩
  refine List.forall_mem_cons.mpr ⟨⟨zg2 212 (by decide +kernel) (by decide +kernel), zg2 214 (by decide +kernel) (by decide +kernel), zsel_of (q := (zY 94, 13)) (by decide +kernel) (by decide +kernel)⟩, ?_⟩
  refine List.forall_mem_cons.mpr ⟨⟨zg2 220 (by decide +kernel) (by decide +kernel), zg2 222 (by decide +kernel) (by decide +kernel), zsel_of (q := (zY 93, 13)) (by decide +kernel) (by decide +kernel)⟩, ?_⟩
  refine List.forall_mem_cons.mpr ⟨⟨zg3 66 (by decide +kernel) (by decide +kernel), zg3 68 (by decide +kernel) (by decide +kernel), zsel_of (q := (zY 95, 13)) (by decide +kernel) (by decide +kernel)⟩, ?_⟩
  refine List.forall_mem_cons.mpr ⟨⟨zg3 93 (by decide +kernel) (by decide +kernel), zg3 95 (by decide +kernel) (by decide +kernel), zsel_of (q := (zY 96, 13)) (by decide +kernel) (by decide +kernel)⟩, ?_⟩
  refine List.forall_mem_cons.mpr ⟨⟨zg3 123 (by decide +kernel) (by decide +kernel), zg3 124 (by decide +kernel) (by decide +kernel), zg3 125 (by decide +kernel) (by decide +kernel)⟩, ?_⟩
  refine List.forall_mem_cons.mpr ⟨⟨zg3 127 (by decide +kernel) (by decide +kernel), zg3 129 (by decide +kernel) (by decide +kernel), zsel_of (q := (zY 98, 13)) (by decide +kernel) (by decide +kernel)⟩, ?_⟩
  refine List.forall_mem_cons.mpr ⟨⟨zg3 139 (by decide +kernel) (by decide +kernel), zg3 141 (by decide +kernel) (by decide +kernel), zsel_of (q := (zY 99, 13)) (by decide +kernel) (by decide +kernel)⟩, ?_⟩
  refine List.forall_mem_cons.mpr ⟨⟨zg3 156 (by decide +kernel) (by decide +kernel), zg3 158 (by decide +kernel) (by decide +kernel), zsel_of (q := (zY 91, 13)) (by decide +kernel) (by decide +kernel)⟩, ?_⟩
  refine List.forall_mem_cons.mpr ⟨⟨zg3 160 (by decide +kernel) (by decide +kernel), zg3 161 (by decide +kernel) (by decide +kernel), zg3 162 (by decide +kernel) (by decide +kernel)⟩, ?_⟩
  refine List.forall_mem_cons.mpr ⟨⟨zg2 216 (by decide +kernel) (by decide +kernel), zg2 218 (by decide +kernel) (by decide +kernel), zsel_of (q := (zY 92, 13)) (by decide +kernel) (by decide +kernel)⟩, ?_⟩
  refine List.forall_mem_cons.mpr ⟨⟨zg2 224 (by decide +kernel) (by decide +kernel), zg2 226 (by decide +kernel) (by decide +kernel), zsel_of (q := (zY 87, 13)) (by decide +kernel) (by decide +kernel)⟩, ?_⟩
  refine List.forall_mem_cons.mpr ⟨⟨zg2 228 (by decide +kernel) (by decide +kernel), zg2 229 (by decide +kernel) (by decide +kernel), zg2 230 (by decide +kernel) (by decide +kernel)⟩, ?_⟩
  refine List.forall_mem_cons.mpr ⟨⟨zg3 14 (by decide +kernel) (by decide +kernel), zg3 15 (by decide +kernel) (by decide +kernel), zg3 16 (by decide +kernel) (by decide +kernel)⟩, ?_⟩
  refine List.forall_mem_cons.mpr ⟨⟨zg3 37 (by decide +kernel) (by decide +kernel), zg3 38 (by decide +kernel) (by decide +kernel), zg3 39 (by decide +kernel) (by decide +kernel)⟩, ?_⟩
  refine List.forall_mem_cons.mpr ⟨⟨zg3 70 (by decide +kernel) (by decide +kernel), zg3 71 (by decide +kernel) (by decide +kernel), zg3 72 (by decide +kernel) (by decide +kernel)⟩, ?_⟩
  refine List.forall_mem_cons.mpr ⟨⟨zg3 97 (by decide +kernel) (by decide +kernel), zg3 98 (by decide +kernel) (by decide +kernel), zg3 99 (by decide +kernel) (by decide +kernel)⟩, ?_⟩
  refine List.forall_mem_cons.mpr ⟨⟨zg3 143 (by decide +kernel) (by decide +kernel), zg3 144 (by decide +kernel) (by decide +kernel), zg3 145 (by decide +kernel) (by decide +kernel)⟩, ?_⟩
  refine List.forall_mem_cons.mpr ⟨⟨zg3 147 (by decide +kernel) (by decide +kernel), zg3 149 (by decide +kernel) (by decide +kernel), zsel_of (q := (zY 100, 13)) (by decide +kernel) (by decide +kernel)⟩, ?_⟩
  refine List.forall_mem_cons.mpr ⟨⟨zg3 172 (by decide +kernel) (by decide +kernel), zg3 174 (by decide +kernel) (by decide +kernel), zsel_of (q := (zY 97, 13)) (by decide +kernel) (by decide +kernel)⟩, ?_⟩
  refine List.forall_mem_cons.mpr ⟨⟨zg3 180 (by decide +kernel) (by decide +kernel), zg3 182 (by decide +kernel) (by decide +kernel), zsel_of (q := (zY 108, 13)) (by decide +kernel) (by decide +kernel)⟩, ?_⟩
  refine List.forall_mem_cons.mpr ⟨⟨zg3 192 (by decide +kernel) (by decide +kernel), zg3 194 (by decide +kernel) (by decide +kernel), zsel_of (q := (zY 116, 13)) (by decide +kernel) (by decide +kernel)⟩, ?_⟩
  refine List.forall_mem_cons.mpr ⟨⟨zg3 196 (by decide +kernel) (by decide +kernel), zg3 198 (by decide +kernel) (by decide +kernel), zsel_of (q := (zY 114, 13)) (by decide +kernel) (by decide +kernel)⟩, ?_⟩
  refine List.forall_mem_cons.mpr ⟨⟨zg3 200 (by decide +kernel) (by decide +kernel), zg3 202 (by decide +kernel) (by decide +kernel), zsel_of (q := (zY 115, 13)) (by decide +kernel) (by decide +kernel)⟩, ?_⟩
  refine List.forall_mem_cons.mpr ⟨⟨zg3 208 (by decide +kernel) (by decide +kernel), zg3 209 (by decide +kernel) (by decide +kernel), zg3 210 (by decide +kernel) (by decide +kernel)⟩, ?_⟩
  refine List.forall_mem_cons.mpr ⟨⟨zg3 213 (by decide +kernel) (by decide +kernel), zg3 214 (by decide +kernel) (by decide +kernel), zg3 215 (by decide +kernel) (by decide +kernel)⟩, ?_⟩
  refine List.forall_mem_cons.mpr ⟨⟨zg3 233 (by decide +kernel) (by decide +kernel), zg3 234 (by decide +kernel) (by decide +kernel), zg3 235 (by decide +kernel) (by decide +kernel)⟩, ?_⟩
  refine List.forall_mem_cons.mpr ⟨⟨zg2 193 (by decide +kernel) (by decide +kernel), zg2 194 (by decide +kernel) (by decide +kernel), zg2 195 (by decide +kernel) (by decide +kernel)⟩, ?_⟩
  refine List.forall_mem_cons.mpr ⟨⟨zg3 168 (by decide +kernel) (by decide +kernel), zg3 169 (by decide +kernel) (by decide +kernel), zg3 170 (by decide +kernel) (by decide +kernel)⟩, ?_⟩
  refine List.forall_mem_cons.mpr ⟨⟨zg3 176 (by decide +kernel) (by decide +kernel), zg3 177 (by decide +kernel) (by decide +kernel), zg3 178 (by decide +kernel) (by decide +kernel)⟩, ?_⟩
  refine List.forall_mem_cons.mpr ⟨⟨zg3 184 (by decide +kernel) (by decide +kernel), zg3 185 (by decide +kernel) (by decide +kernel), zg3 186 (by decide +kernel) (by decide +kernel)⟩, ?_⟩
  refine List.forall_mem_cons.mpr ⟨⟨zg3 225 (by decide +kernel) (by decide +kernel), zg3 226 (by decide +kernel) (by decide +kernel), zg3 227 (by decide +kernel) (by decide +kernel)⟩, ?_⟩
  refine List.forall_mem_cons.mpr ⟨⟨zg3 229 (by decide +kernel) (by decide +kernel), zg3 230 (by decide +kernel) (by decide +kernel), zg3 231 (by decide +kernel) (by decide +kernel)⟩, ?_⟩
  refine List.forall_mem_cons.mpr ⟨⟨zg3 116 (by decide +kernel) (by decide +kernel), zg3 117 (by decide +kernel) (by decide +kernel), zg3 118 (by decide +kernel) (by decide +kernel)⟩, ?_⟩
  refine List.forall_mem_cons.mpr ⟨⟨zg2 204 (by decide +kernel) (by decide +kernel), zg2 205 (by decide +kernel) (by decide +kernel), zg2 206 (by decide +kernel) (by decide +kernel)⟩, ?_⟩
  refine List.forall_mem_cons.mpr ⟨⟨zg3 217 (by decide +kernel) (by decide +kernel), zg3 218 (by decide +kernel) (by decide +kernel), zg3 219 (by decide +kernel) (by decide +kernel)⟩, ?_⟩
  refine List.forall_mem_cons.mpr ⟨⟨zg2 200 (by decide +kernel) (by decide +kernel), zg2 201 (by decide +kernel) (by decide +kernel), zg2 202 (by decide +kernel) (by decide +kernel)⟩, ?_⟩
  refine List.forall_mem_cons.mpr ⟨⟨zg3 152 (by decide +kernel) (by decide +kernel), zg3 153 (by decide +kernel) (by decide +kernel), zg3 154 (by decide +kernel) (by decide +kernel)⟩, ?_⟩
  refine List.forall_mem_cons.mpr ⟨⟨zg3 135 (by decide +kernel) (by decide +kernel), zg3 136 (by decide +kernel) (by decide +kernel), zg3 137 (by decide +kernel) (by decide +kernel)⟩, ?_⟩
  refine List.forall_mem_cons.mpr ⟨⟨zg3 221 (by decide +kernel) (by decide +kernel), zg3 222 (by decide +kernel) (by decide +kernel), zg3 223 (by decide +kernel) (by decide +kernel)⟩, ?_⟩
  refine List.forall_mem_cons.mpr ⟨⟨zg2 174 (by decide +kernel) (by decide +kernel), zg2 175 (by decide +kernel) (by decide +kernel), zg2 176 (by decide +kernel) (by decide +kernel)⟩, ?_⟩
  refine List.forall_mem_cons.mpr ⟨⟨zg2 208 (by decide +kernel) (by decide +kernel), zg2 209 (by decide +kernel) (by decide +kernel), zg2 210 (by decide +kernel) (by decide +kernel)⟩, ?_⟩
  refine List.forall_mem_cons.mpr ⟨⟨zg3 204 (by decide +kernel) (by decide +kernel), zg3 205 (by decide +kernel) (by decide +kernel), zg3 206 (by decide +kernel) (by decide +kernel)⟩, ?_⟩
  refine List.forall_mem_cons.mpr ⟨⟨zg3 188 (by decide +kernel) (by decide +kernel), zg3 189 (by decide +kernel) (by decide +kernel), zg3 190 (by decide +kernel) (by decide +kernel)⟩, ?_⟩
  exact List.forall_mem_nil _
theorem zWT_ok : ∀ q ∈ zWT, Cond.methodLink (zR q.1) q.2.1 (zY q.2.2.2.2.2) ∈ zGL ∧ Cond.sameMethod (zY q.2.2.2.2.2).cls (zY q.2.2.2.2.2).cls (zY q.2.2.2.2.2).name (zY q.2.2.2.2.2).desc ∈ zGL ∧ Cond.instanceMethod (zY q.2.2.2.2.2) ∈ zGL ∧ Cond.selects (zR q.2.2.1) (zY q.2.2.2.2.2) (zY q.2.2.2.1) ∈ zGL ∧ Cond.instanceMethod (zY q.2.2.2.1) ∈ zGL := by
  unfold zWT
  refine List.forall_mem_cons.mpr ⟨⟨zg3 14 (by decide +kernel) (by decide +kernel), zg3 17 (by decide +kernel) (by decide +kernel), zg3 15 (by decide +kernel) (by decide +kernel), zg3 18 (by decide +kernel) (by decide +kernel), zg3 19 (by decide +kernel) (by decide +kernel)⟩, ?_⟩
  refine List.forall_mem_cons.mpr ⟨⟨zg3 14 (by decide +kernel) (by decide +kernel), zg3 17 (by decide +kernel) (by decide +kernel), zg3 15 (by decide +kernel) (by decide +kernel), zg3 22 (by decide +kernel) (by decide +kernel), zg3 23 (by decide +kernel) (by decide +kernel)⟩, ?_⟩
  refine List.forall_mem_cons.mpr ⟨⟨zg3 14 (by decide +kernel) (by decide +kernel), zg3 17 (by decide +kernel) (by decide +kernel), zg3 15 (by decide +kernel) (by decide +kernel), zg3 26 (by decide +kernel) (by decide +kernel), zg3 23 (by decide +kernel) (by decide +kernel)⟩, ?_⟩
  refine List.forall_mem_cons.mpr ⟨⟨zg3 14 (by decide +kernel) (by decide +kernel), zg3 17 (by decide +kernel) (by decide +kernel), zg3 15 (by decide +kernel) (by decide +kernel), zg3 27 (by decide +kernel) (by decide +kernel), zg3 28 (by decide +kernel) (by decide +kernel)⟩, ?_⟩
  refine List.forall_mem_cons.mpr ⟨⟨zg3 14 (by decide +kernel) (by decide +kernel), zg3 17 (by decide +kernel) (by decide +kernel), zg3 15 (by decide +kernel) (by decide +kernel), zg3 31 (by decide +kernel) (by decide +kernel), zg3 32 (by decide +kernel) (by decide +kernel)⟩, ?_⟩
  refine List.forall_mem_cons.mpr ⟨⟨zg3 37 (by decide +kernel) (by decide +kernel), zg3 40 (by decide +kernel) (by decide +kernel), zg3 38 (by decide +kernel) (by decide +kernel), zg3 41 (by decide +kernel) (by decide +kernel), zg3 42 (by decide +kernel) (by decide +kernel)⟩, ?_⟩
  refine List.forall_mem_cons.mpr ⟨⟨zg3 37 (by decide +kernel) (by decide +kernel), zg3 40 (by decide +kernel) (by decide +kernel), zg3 38 (by decide +kernel) (by decide +kernel), zg3 45 (by decide +kernel) (by decide +kernel), zg3 46 (by decide +kernel) (by decide +kernel)⟩, ?_⟩
  refine List.forall_mem_cons.mpr ⟨⟨zg3 37 (by decide +kernel) (by decide +kernel), zg3 40 (by decide +kernel) (by decide +kernel), zg3 38 (by decide +kernel) (by decide +kernel), zg3 49 (by decide +kernel) (by decide +kernel), zg3 50 (by decide +kernel) (by decide +kernel)⟩, ?_⟩
  refine List.forall_mem_cons.mpr ⟨⟨zg3 37 (by decide +kernel) (by decide +kernel), zg3 40 (by decide +kernel) (by decide +kernel), zg3 38 (by decide +kernel) (by decide +kernel), zg3 53 (by decide +kernel) (by decide +kernel), zg3 54 (by decide +kernel) (by decide +kernel)⟩, ?_⟩
  refine List.forall_mem_cons.mpr ⟨⟨zg3 37 (by decide +kernel) (by decide +kernel), zg3 40 (by decide +kernel) (by decide +kernel), zg3 38 (by decide +kernel) (by decide +kernel), zg3 60 (by decide +kernel) (by decide +kernel), zg3 61 (by decide +kernel) (by decide +kernel)⟩, ?_⟩
  refine List.forall_mem_cons.mpr ⟨⟨zg3 70 (by decide +kernel) (by decide +kernel), zg3 73 (by decide +kernel) (by decide +kernel), zg3 71 (by decide +kernel) (by decide +kernel), zg3 74 (by decide +kernel) (by decide +kernel), zg3 75 (by decide +kernel) (by decide +kernel)⟩, ?_⟩
  refine List.forall_mem_cons.mpr ⟨⟨zg3 70 (by decide +kernel) (by decide +kernel), zg3 73 (by decide +kernel) (by decide +kernel), zg3 71 (by decide +kernel) (by decide +kernel), zg3 78 (by decide +kernel) (by decide +kernel), zg3 79 (by decide +kernel) (by decide +kernel)⟩, ?_⟩
  refine List.forall_mem_cons.mpr ⟨⟨zg3 70 (by decide +kernel) (by decide +kernel), zg3 73 (by decide +kernel) (by decide +kernel), zg3 71 (by decide +kernel) (by decide +kernel), zg3 81 (by decide +kernel) (by decide +kernel), zg3 82 (by decide +kernel) (by decide +kernel)⟩, ?_⟩
  refine List.forall_mem_cons.mpr ⟨⟨zg3 70 (by decide +kernel) (by decide +kernel), zg3 73 (by decide +kernel) (by decide +kernel), zg3 71 (by decide +kernel) (by decide +kernel), zg3 84 (by decide +kernel) (by decide +kernel), zg3 85 (by decide +kernel) (by decide +kernel)⟩, ?_⟩
  refine List.forall_mem_cons.mpr ⟨⟨zg3 70 (by decide +kernel) (by decide +kernel), zg3 73 (by decide +kernel) (by decide +kernel), zg3 71 (by decide +kernel) (by decide +kernel), zg3 88 (by decide +kernel) (by decide +kernel), zg3 89 (by decide +kernel) (by decide +kernel)⟩, ?_⟩
  refine List.forall_mem_cons.mpr ⟨⟨zg3 97 (by decide +kernel) (by decide +kernel), zg3 100 (by decide +kernel) (by decide +kernel), zg3 98 (by decide +kernel) (by decide +kernel), zg3 101 (by decide +kernel) (by decide +kernel), zg3 102 (by decide +kernel) (by decide +kernel)⟩, ?_⟩
  refine List.forall_mem_cons.mpr ⟨⟨zg3 97 (by decide +kernel) (by decide +kernel), zg3 100 (by decide +kernel) (by decide +kernel), zg3 98 (by decide +kernel) (by decide +kernel), zg3 105 (by decide +kernel) (by decide +kernel), zg3 106 (by decide +kernel) (by decide +kernel)⟩, ?_⟩
  refine List.forall_mem_cons.mpr ⟨⟨zg3 97 (by decide +kernel) (by decide +kernel), zg3 100 (by decide +kernel) (by decide +kernel), zg3 98 (by decide +kernel) (by decide +kernel), zg3 108 (by decide +kernel) (by decide +kernel), zg3 109 (by decide +kernel) (by decide +kernel)⟩, ?_⟩
  refine List.forall_mem_cons.mpr ⟨⟨zg3 97 (by decide +kernel) (by decide +kernel), zg3 100 (by decide +kernel) (by decide +kernel), zg3 98 (by decide +kernel) (by decide +kernel), zg3 111 (by decide +kernel) (by decide +kernel), zg3 102 (by decide +kernel) (by decide +kernel)⟩, ?_⟩
  refine List.forall_mem_cons.mpr ⟨⟨zg3 97 (by decide +kernel) (by decide +kernel), zg3 100 (by decide +kernel) (by decide +kernel), zg3 98 (by decide +kernel) (by decide +kernel), zg3 112 (by decide +kernel) (by decide +kernel), zg3 113 (by decide +kernel) (by decide +kernel)⟩, ?_⟩
  exact List.forall_mem_nil _
theorem zCT_ok : ∀ q ∈ zCT, Cond.classLink (zR q.1) q.2.1 (zR q.2.2) ∈ zGL ∧ Cond.instantiable (zR q.2.2) (zNF q.2.2) ∈ zGL ∧ Cond.initialized (zR q.2.2) ∈ zGL := by
  unfold zCT
  refine List.forall_mem_cons.mpr ⟨⟨zg1 35 (by decide +kernel) (by decide +kernel), zg1 37 (by decide +kernel) (by decide +kernel), zg1 3 (by decide +kernel) (by decide +kernel)⟩, ?_⟩
  refine List.forall_mem_cons.mpr ⟨⟨zg1 29 (by decide +kernel) (by decide +kernel), zg1 30 (by decide +kernel) (by decide +kernel), zg1 2 (by decide +kernel) (by decide +kernel)⟩, ?_⟩
  refine List.forall_mem_cons.mpr ⟨⟨zg1 27 (by decide +kernel) (by decide +kernel), zg1 106 (by decide +kernel) (by decide +kernel), zg1 4 (by decide +kernel) (by decide +kernel)⟩, ?_⟩
  refine List.forall_mem_cons.mpr ⟨⟨zg1 112 (by decide +kernel) (by decide +kernel), zg1 113 (by decide +kernel) (by decide +kernel), zg1 5 (by decide +kernel) (by decide +kernel)⟩, ?_⟩
  refine List.forall_mem_cons.mpr ⟨⟨zg1 119 (by decide +kernel) (by decide +kernel), zg1 120 (by decide +kernel) (by decide +kernel), zg1 6 (by decide +kernel) (by decide +kernel)⟩, ?_⟩
  refine List.forall_mem_cons.mpr ⟨⟨zg1 126 (by decide +kernel) (by decide +kernel), zg1 127 (by decide +kernel) (by decide +kernel), zg1 7 (by decide +kernel) (by decide +kernel)⟩, ?_⟩
  refine List.forall_mem_cons.mpr ⟨⟨zg1 133 (by decide +kernel) (by decide +kernel), zg1 134 (by decide +kernel) (by decide +kernel), zg1 8 (by decide +kernel) (by decide +kernel)⟩, ?_⟩
  refine List.forall_mem_cons.mpr ⟨⟨zg1 140 (by decide +kernel) (by decide +kernel), zg1 141 (by decide +kernel) (by decide +kernel), zg1 9 (by decide +kernel) (by decide +kernel)⟩, ?_⟩
  refine List.forall_mem_cons.mpr ⟨⟨zg1 104 (by decide +kernel) (by decide +kernel), zg1 147 (by decide +kernel) (by decide +kernel), zg1 10 (by decide +kernel) (by decide +kernel)⟩, ?_⟩
  refine List.forall_mem_cons.mpr ⟨⟨zg1 102 (by decide +kernel) (by decide +kernel), zg1 164 (by decide +kernel) (by decide +kernel), zg1 11 (by decide +kernel) (by decide +kernel)⟩, ?_⟩
  refine List.forall_mem_cons.mpr ⟨⟨zg1 181 (by decide +kernel) (by decide +kernel), zg1 182 (by decide +kernel) (by decide +kernel), zg1 12 (by decide +kernel) (by decide +kernel)⟩, ?_⟩
  refine List.forall_mem_cons.mpr ⟨⟨zg1 19 (by decide +kernel) (by decide +kernel), zg1 20 (by decide +kernel) (by decide +kernel), zg1 1 (by decide +kernel) (by decide +kernel)⟩, ?_⟩
  refine List.forall_mem_cons.mpr ⟨⟨zg1 29 (by decide +kernel) (by decide +kernel), zg1 30 (by decide +kernel) (by decide +kernel), zg1 2 (by decide +kernel) (by decide +kernel)⟩, ?_⟩
  exact List.forall_mem_nil _
def zAc (t : Nat) : Nat := zgt 0 [0, 0, 5, 8, 9, 10] t
theorem zAT_ok : ∀ q ∈ zAT, Cond.classLink (zR q.1) q.2.1 (zR (zAc q.2.2)) ∈ zGL := by
  unfold zAT
  refine List.forall_mem_cons.mpr ⟨zg1 35 (by decide +kernel) (by decide +kernel), ?_⟩
  refine List.forall_mem_cons.mpr ⟨zg1 27 (by decide +kernel) (by decide +kernel), ?_⟩
  refine List.forall_mem_cons.mpr ⟨zg1 102 (by decide +kernel) (by decide +kernel), ?_⟩
  refine List.forall_mem_cons.mpr ⟨zg1 104 (by decide +kernel) (by decide +kernel), ?_⟩
  exact List.forall_mem_nil _
theorem zAO_ok : ∀ c ∈ [5, 8, 9, 10], Cond.arrayOver (.object (zR c)) ∈ lw_tbl := by
  refine List.forall_mem_cons.mpr ⟨zt1 36 (by decide +kernel), ?_⟩
  refine List.forall_mem_cons.mpr ⟨zt1 105 (by decide +kernel), ?_⟩
  refine List.forall_mem_cons.mpr ⟨zt1 28 (by decide +kernel), ?_⟩
  refine List.forall_mem_cons.mpr ⟨zt1 103 (by decide +kernel), ?_⟩
  exact List.forall_mem_nil _
theorem zCA_ok : ∀ c ∈ [1, 2, 3, 4, 6], Cond.castable (zR c) RX9 ∈ lw_tbl := by
  refine List.forall_mem_cons.mpr ⟨zt4 12 (by decide +kernel), ?_⟩
  refine List.forall_mem_cons.mpr ⟨zt4 11 (by decide +kernel), ?_⟩
  refine List.forall_mem_cons.mpr ⟨zt4 13 (by decide +kernel), ?_⟩
  refine List.forall_mem_cons.mpr ⟨zt4 14 (by decide +kernel), ?_⟩
  refine List.forall_mem_cons.mpr ⟨zt4 15 (by decide +kernel), ?_⟩
  exact List.forall_mem_nil _
theorem zAI_ok : Cond.arrayClass .int ∈ zGL ∧ True := ⟨zg1 72 (by decide +kernel) (by decide +kernel), trivial⟩
def zSK : List (Nat × Nat) := [(11, 74), (7, 121), (7, 127), (7, 129), (7, 131), (7, 133), (7, 135), (7, 137), (7, 139), (7, 141), (7, 143), (7, 145), (7, 147)]
def zSX : List String := ["keeps memory ; tires 0 ; learns 0 ;", "words", "memory", "number", "day", "parts", "said", "keeps", "tires", "learns", "or", "and", "not"]
theorem zSR_ok : ∀ i, i < 13 → Cond.stringRef (zR (zgt (0, 0) zSK i).1) (zgt (0, 0) zSK i).2 (zgt "" zSX i) ∈ lw_tbl := by
  intro i hi
  match i, hi with
  | 0, _ => exact zt1 218 (by decide +kernel)
  | 1, _ => exact zt2 51 (by decide +kernel)
  | 2, _ => exact zt2 58 (by decide +kernel)
  | 3, _ => exact zt2 59 (by decide +kernel)
  | 4, _ => exact zt2 60 (by decide +kernel)
  | 5, _ => exact zt2 61 (by decide +kernel)
  | 6, _ => exact zt2 62 (by decide +kernel)
  | 7, _ => exact zt2 67 (by decide +kernel)
  | 8, _ => exact zt2 68 (by decide +kernel)
  | 9, _ => exact zt2 69 (by decide +kernel)
  | 10, _ => exact zt2 70 (by decide +kernel)
  | 11, _ => exact zt2 71 (by decide +kernel)
  | 12, _ => exact zt2 72 (by decide +kernel)
  | i + 13, h => exact absurd h (by omega)
theorem zGTs : ∀ q ∈ zGT, q.2.2 < 13 ∧ (q.1, q.2.1) = zgt (0, 0) zSK q.2.2 := by decide +kernel
theorem zKT_ok : ∀ q ∈ zKT, Cond.constant (zR q.1) q.2.1 (Int32.ofInt q.2.2) ∈ zGL := by
  unfold zKT
  refine List.forall_mem_cons.mpr ⟨zg2 238 (by decide +kernel) (by decide +kernel), ?_⟩
  refine List.forall_mem_cons.mpr ⟨zg2 239 (by decide +kernel) (by decide +kernel), ?_⟩
  refine List.forall_mem_cons.mpr ⟨zg3 0 (by decide +kernel) (by decide +kernel), ?_⟩
  exact List.forall_mem_nil _
theorem zLT_ok : ∀ q ∈ zLT, Cond.constantLong (zR q.1) q.2.1 (Int64.ofInt q.2.2) ∈ zGL := by
  unfold zLT
  exact List.forall_mem_nil _
theorem zKTr : ∀ q ∈ zKT, -2147483648 ≤ q.2.2 ∧ q.2.2 ≤ 2147483647 := by decide +kernel
theorem zLTr : ∀ q ∈ zLT, -9223372036854775808 ≤ q.2.2 ∧ q.2.2 ≤ 9223372036854775807 := by decide +kernel
theorem zYT_ok : ∀ q ∈ zYT, Cond.methodLink (zR q.1) q.2 arraycopyName ∈ zGL := by
  unfold zYT
  exact List.forall_mem_nil _
theorem zMT_ok : ∀ k, k < 205 → Cond.code (zY k) (zB k) (zL k) (zTr k) ∈ zGL ∧ Cond.initialized (zY k).cls ∈ zGL := by
  intro k hk
  match k, hk with
  | 0, _ => exact ⟨zg1 33 (by decide +kernel) (by decide +kernel), zg1 2 (by decide +kernel) (by decide +kernel)⟩
  | 1, _ => exact ⟨zg2 181 (by decide +kernel) (by decide +kernel), zg1 2 (by decide +kernel) (by decide +kernel)⟩
  | 2, _ => exact ⟨zg3 146 (by decide +kernel) (by decide +kernel), zg1 2 (by decide +kernel) (by decide +kernel)⟩
  | 3, _ => exact ⟨zg3 163 (by decide +kernel) (by decide +kernel), zg1 2 (by decide +kernel) (by decide +kernel)⟩
  | 4, _ => exact ⟨zg1 123 (by decide +kernel) (by decide +kernel), zg1 6 (by decide +kernel) (by decide +kernel)⟩
  | 5, _ => exact ⟨zg3 122 (by decide +kernel) (by decide +kernel), zg1 1 (by decide +kernel) (by decide +kernel)⟩
  | 6, _ => exact ⟨zg3 20 (by decide +kernel) (by decide +kernel), zg1 6 (by decide +kernel) (by decide +kernel)⟩
  | 7, _ => exact ⟨zg3 43 (by decide +kernel) (by decide +kernel), zg1 6 (by decide +kernel) (by decide +kernel)⟩
  | 8, _ => exact ⟨zg3 76 (by decide +kernel) (by decide +kernel), zg1 6 (by decide +kernel) (by decide +kernel)⟩
  | 9, _ => exact ⟨zg3 103 (by decide +kernel) (by decide +kernel), zg1 6 (by decide +kernel) (by decide +kernel)⟩
  | 10, _ => exact ⟨zg1 116 (by decide +kernel) (by decide +kernel), zg1 5 (by decide +kernel) (by decide +kernel)⟩
  | 11, _ => exact ⟨zg3 122 (by decide +kernel) (by decide +kernel), zg1 1 (by decide +kernel) (by decide +kernel)⟩
  | 12, _ => exact ⟨zg3 24 (by decide +kernel) (by decide +kernel), zg1 5 (by decide +kernel) (by decide +kernel)⟩
  | 13, _ => exact ⟨zg3 47 (by decide +kernel) (by decide +kernel), zg1 5 (by decide +kernel) (by decide +kernel)⟩
  | 14, _ => exact ⟨zg3 80 (by decide +kernel) (by decide +kernel), zg1 5 (by decide +kernel) (by decide +kernel)⟩
  | 15, _ => exact ⟨zg3 107 (by decide +kernel) (by decide +kernel), zg1 5 (by decide +kernel) (by decide +kernel)⟩
  | 16, _ => exact ⟨zg1 130 (by decide +kernel) (by decide +kernel), zg1 7 (by decide +kernel) (by decide +kernel)⟩
  | 17, _ => exact ⟨zg3 122 (by decide +kernel) (by decide +kernel), zg1 1 (by decide +kernel) (by decide +kernel)⟩
  | 18, _ => exact ⟨zg3 51 (by decide +kernel) (by decide +kernel), zg1 7 (by decide +kernel) (by decide +kernel)⟩
  | 19, _ => exact ⟨zg3 83 (by decide +kernel) (by decide +kernel), zg1 7 (by decide +kernel) (by decide +kernel)⟩
  | 20, _ => exact ⟨zg3 110 (by decide +kernel) (by decide +kernel), zg1 7 (by decide +kernel) (by decide +kernel)⟩
  | 21, _ => exact ⟨zg1 137 (by decide +kernel) (by decide +kernel), zg1 8 (by decide +kernel) (by decide +kernel)⟩
  | 22, _ => exact ⟨zg3 122 (by decide +kernel) (by decide +kernel), zg1 1 (by decide +kernel) (by decide +kernel)⟩
  | 23, _ => exact ⟨zg3 29 (by decide +kernel) (by decide +kernel), zg1 8 (by decide +kernel) (by decide +kernel)⟩
  | 24, _ => exact ⟨zg3 55 (by decide +kernel) (by decide +kernel), zg1 8 (by decide +kernel) (by decide +kernel)⟩
  | 25, _ => exact ⟨zg3 86 (by decide +kernel) (by decide +kernel), zg1 8 (by decide +kernel) (by decide +kernel)⟩
  | 26, _ => exact ⟨zg1 40 (by decide +kernel) (by decide +kernel), zg1 3 (by decide +kernel) (by decide +kernel)⟩
  | 27, _ => exact ⟨zg2 188 (by decide +kernel) (by decide +kernel), zg1 3 (by decide +kernel) (by decide +kernel)⟩
  | 28, _ => exact ⟨zg2 192 (by decide +kernel) (by decide +kernel), zg1 3 (by decide +kernel) (by decide +kernel)⟩
  | 29, _ => exact ⟨zg3 167 (by decide +kernel) (by decide +kernel), zg1 3 (by decide +kernel) (by decide +kernel)⟩
  | 30, _ => exact ⟨zg1 144 (by decide +kernel) (by decide +kernel), zg1 9 (by decide +kernel) (by decide +kernel)⟩
  | 31, _ => exact ⟨zg3 122 (by decide +kernel) (by decide +kernel), zg1 1 (by decide +kernel) (by decide +kernel)⟩
  | 32, _ => exact ⟨zg3 33 (by decide +kernel) (by decide +kernel), zg1 9 (by decide +kernel) (by decide +kernel)⟩
  | 33, _ => exact ⟨zg3 62 (by decide +kernel) (by decide +kernel), zg1 9 (by decide +kernel) (by decide +kernel)⟩
  | 34, _ => exact ⟨zg3 90 (by decide +kernel) (by decide +kernel), zg1 9 (by decide +kernel) (by decide +kernel)⟩
  | 35, _ => exact ⟨zg3 114 (by decide +kernel) (by decide +kernel), zg1 9 (by decide +kernel) (by decide +kernel)⟩
  | 36, _ => exact ⟨zg1 185 (by decide +kernel) (by decide +kernel), zg1 12 (by decide +kernel) (by decide +kernel)⟩
  | 37, _ => exact ⟨zg2 30 (by decide +kernel) (by decide +kernel), zg1 12 (by decide +kernel) (by decide +kernel)⟩
  | 38, _ => exact ⟨zg2 34 (by decide +kernel) (by decide +kernel), zg1 12 (by decide +kernel) (by decide +kernel)⟩
  | 39, _ => exact ⟨zg2 90 (by decide +kernel) (by decide +kernel), zg1 12 (by decide +kernel) (by decide +kernel)⟩
  | 40, _ => exact ⟨zg2 106 (by decide +kernel) (by decide +kernel), zg1 12 (by decide +kernel) (by decide +kernel)⟩
  | 41, _ => exact ⟨zg2 110 (by decide +kernel) (by decide +kernel), zg1 12 (by decide +kernel) (by decide +kernel)⟩
  | 42, _ => exact ⟨zg2 114 (by decide +kernel) (by decide +kernel), zg1 12 (by decide +kernel) (by decide +kernel)⟩
  | 43, _ => exact ⟨zg2 126 (by decide +kernel) (by decide +kernel), zg1 12 (by decide +kernel) (by decide +kernel)⟩
  | 44, _ => exact ⟨zg2 130 (by decide +kernel) (by decide +kernel), zg1 12 (by decide +kernel) (by decide +kernel)⟩
  | 45, _ => exact ⟨zg2 134 (by decide +kernel) (by decide +kernel), zg1 12 (by decide +kernel) (by decide +kernel)⟩
  | 46, _ => exact ⟨zg2 118 (by decide +kernel) (by decide +kernel), zg1 12 (by decide +kernel) (by decide +kernel)⟩
  | 47, _ => exact ⟨zg2 94 (by decide +kernel) (by decide +kernel), zg1 12 (by decide +kernel) (by decide +kernel)⟩
  | 48, _ => exact ⟨zg2 102 (by decide +kernel) (by decide +kernel), zg1 12 (by decide +kernel) (by decide +kernel)⟩
  | 49, _ => exact ⟨zg2 98 (by decide +kernel) (by decide +kernel), zg1 12 (by decide +kernel) (by decide +kernel)⟩
  | 50, _ => exact ⟨zg2 38 (by decide +kernel) (by decide +kernel), zg1 12 (by decide +kernel) (by decide +kernel)⟩
  | 51, _ => exact ⟨zg2 76 (by decide +kernel) (by decide +kernel), zg1 12 (by decide +kernel) (by decide +kernel)⟩
  | 52, _ => exact ⟨zg2 42 (by decide +kernel) (by decide +kernel), zg1 12 (by decide +kernel) (by decide +kernel)⟩
  | 53, _ => exact ⟨zg2 46 (by decide +kernel) (by decide +kernel), zg1 12 (by decide +kernel) (by decide +kernel)⟩
  | 54, _ => exact ⟨zg2 80 (by decide +kernel) (by decide +kernel), zg1 12 (by decide +kernel) (by decide +kernel)⟩
  | 55, _ => exact ⟨zg2 83 (by decide +kernel) (by decide +kernel), zg1 12 (by decide +kernel) (by decide +kernel)⟩
  | 56, _ => exact ⟨zg2 50 (by decide +kernel) (by decide +kernel), zg1 12 (by decide +kernel) (by decide +kernel)⟩
  | 57, _ => exact ⟨zg2 66 (by decide +kernel) (by decide +kernel), zg1 12 (by decide +kernel) (by decide +kernel)⟩
  | 58, _ => exact ⟨zg2 55 (by decide +kernel) (by decide +kernel), zg1 12 (by decide +kernel) (by decide +kernel)⟩
  | 59, _ => exact ⟨zg1 150 (by decide +kernel) (by decide +kernel), zg1 10 (by decide +kernel) (by decide +kernel)⟩
  | 60, _ => exact ⟨zg3 126 (by decide +kernel) (by decide +kernel), zg1 10 (by decide +kernel) (by decide +kernel)⟩
  | 61, _ => exact ⟨zg3 236 (by decide +kernel) (by decide +kernel), zg1 10 (by decide +kernel) (by decide +kernel)⟩
  | 62, _ => exact ⟨zg3 211 (by decide +kernel) (by decide +kernel), zg1 10 (by decide +kernel) (by decide +kernel)⟩
  | 63, _ => exact ⟨zg3 216 (by decide +kernel) (by decide +kernel), zg1 10 (by decide +kernel) (by decide +kernel)⟩
  | 64, _ => exact ⟨zg1 109 (by decide +kernel) (by decide +kernel), zg1 4 (by decide +kernel) (by decide +kernel)⟩
  | 65, _ => exact ⟨zg3 122 (by decide +kernel) (by decide +kernel), zg1 1 (by decide +kernel) (by decide +kernel)⟩
  | 66, _ => exact ⟨zg3 35 (by decide +kernel) (by decide +kernel), zg1 4 (by decide +kernel) (by decide +kernel)⟩
  | 67, _ => exact ⟨zg3 64 (by decide +kernel) (by decide +kernel), zg1 4 (by decide +kernel) (by decide +kernel)⟩
  | 68, _ => exact ⟨zg3 92 (by decide +kernel) (by decide +kernel), zg1 4 (by decide +kernel) (by decide +kernel)⟩
  | 69, _ => exact ⟨zg3 115 (by decide +kernel) (by decide +kernel), zg1 4 (by decide +kernel) (by decide +kernel)⟩
  | 70, _ => exact ⟨zg1 167 (by decide +kernel) (by decide +kernel), zg1 11 (by decide +kernel) (by decide +kernel)⟩
  | 71, _ => exact ⟨zg2 122 (by decide +kernel) (by decide +kernel), zg1 11 (by decide +kernel) (by decide +kernel)⟩
  | 72, _ => exact ⟨zg2 231 (by decide +kernel) (by decide +kernel), zg1 11 (by decide +kernel) (by decide +kernel)⟩
  | 73, _ => exact ⟨zg2 234 (by decide +kernel) (by decide +kernel), zg1 11 (by decide +kernel) (by decide +kernel)⟩
  | 74, _ => exact ⟨zg3 3 (by decide +kernel) (by decide +kernel), zg1 11 (by decide +kernel) (by decide +kernel)⟩
  | 75, _ => exact ⟨zg3 6 (by decide +kernel) (by decide +kernel), zg1 11 (by decide +kernel) (by decide +kernel)⟩
  | 76, _ => exact ⟨zg1 23 (by decide +kernel) (by decide +kernel), zg1 1 (by decide +kernel) (by decide +kernel)⟩
  | 77, _ => exact ⟨zg2 177 (by decide +kernel) (by decide +kernel), zg1 1 (by decide +kernel) (by decide +kernel)⟩
  | 78, _ => exact ⟨zg2 196 (by decide +kernel) (by decide +kernel), zg1 1 (by decide +kernel) (by decide +kernel)⟩
  | 79, _ => exact ⟨zg2 203 (by decide +kernel) (by decide +kernel), zg1 1 (by decide +kernel) (by decide +kernel)⟩
  | 80, _ => exact ⟨zg2 207 (by decide +kernel) (by decide +kernel), zg1 1 (by decide +kernel) (by decide +kernel)⟩
  | 81, _ => exact ⟨zg2 211 (by decide +kernel) (by decide +kernel), zg1 1 (by decide +kernel) (by decide +kernel)⟩
  | 82, _ => exact ⟨zg2 184 (by decide +kernel) (by decide +kernel), zg1 1 (by decide +kernel) (by decide +kernel)⟩
  | 83, _ => exact ⟨zg2 199 (by decide +kernel) (by decide +kernel), zg1 1 (by decide +kernel) (by decide +kernel)⟩
  | 84, _ => exact ⟨zg3 122 (by decide +kernel) (by decide +kernel), zg1 1 (by decide +kernel) (by decide +kernel)⟩
  | 85, _ => exact ⟨zg3 122 (by decide +kernel) (by decide +kernel), zg1 1 (by decide +kernel) (by decide +kernel)⟩
  | 86, _ => exact ⟨zg3 122 (by decide +kernel) (by decide +kernel), zg1 1 (by decide +kernel) (by decide +kernel)⟩
  | 87, _ => exact ⟨zg2 227 (by decide +kernel) (by decide +kernel), zg1 1 (by decide +kernel) (by decide +kernel)⟩
  | 88, _ => exact ⟨zg3 119 (by decide +kernel) (by decide +kernel), zg1 1 (by decide +kernel) (by decide +kernel)⟩
  | 89, _ => exact ⟨zg3 138 (by decide +kernel) (by decide +kernel), zg1 1 (by decide +kernel) (by decide +kernel)⟩
  | 90, _ => exact ⟨zg3 155 (by decide +kernel) (by decide +kernel), zg1 1 (by decide +kernel) (by decide +kernel)⟩
  | 91, _ => exact ⟨zg3 159 (by decide +kernel) (by decide +kernel), zg1 1 (by decide +kernel) (by decide +kernel)⟩
  | 92, _ => exact ⟨zg2 219 (by decide +kernel) (by decide +kernel), zg1 1 (by decide +kernel) (by decide +kernel)⟩
  | 93, _ => exact ⟨zg2 223 (by decide +kernel) (by decide +kernel), zg1 1 (by decide +kernel) (by decide +kernel)⟩
  | 94, _ => exact ⟨zg2 215 (by decide +kernel) (by decide +kernel), zg1 1 (by decide +kernel) (by decide +kernel)⟩
  | 95, _ => exact ⟨zg3 69 (by decide +kernel) (by decide +kernel), zg1 1 (by decide +kernel) (by decide +kernel)⟩
  | 96, _ => exact ⟨zg3 96 (by decide +kernel) (by decide +kernel), zg1 1 (by decide +kernel) (by decide +kernel)⟩
  | 97, _ => exact ⟨zg3 175 (by decide +kernel) (by decide +kernel), zg1 1 (by decide +kernel) (by decide +kernel)⟩
  | 98, _ => exact ⟨zg3 130 (by decide +kernel) (by decide +kernel), zg1 1 (by decide +kernel) (by decide +kernel)⟩
  | 99, _ => exact ⟨zg3 142 (by decide +kernel) (by decide +kernel), zg1 1 (by decide +kernel) (by decide +kernel)⟩
  | 100, _ => exact ⟨zg3 150 (by decide +kernel) (by decide +kernel), zg1 1 (by decide +kernel) (by decide +kernel)⟩
  | 101, _ => exact ⟨zg3 133 (by decide +kernel) (by decide +kernel), zg1 1 (by decide +kernel) (by decide +kernel)⟩
  | 102, _ => exact ⟨zg3 59 (by decide +kernel) (by decide +kernel), zg1 1 (by decide +kernel) (by decide +kernel)⟩
  | 103, _ => exact ⟨zg3 9 (by decide +kernel) (by decide +kernel), zg1 1 (by decide +kernel) (by decide +kernel)⟩
  | 104, _ => exact ⟨zg3 171 (by decide +kernel) (by decide +kernel), zg1 1 (by decide +kernel) (by decide +kernel)⟩
  | 105, _ => exact ⟨zg3 122 (by decide +kernel) (by decide +kernel), zg1 1 (by decide +kernel) (by decide +kernel)⟩
  | 106, _ => exact ⟨zg3 122 (by decide +kernel) (by decide +kernel), zg1 1 (by decide +kernel) (by decide +kernel)⟩
  | 107, _ => exact ⟨zg3 179 (by decide +kernel) (by decide +kernel), zg1 1 (by decide +kernel) (by decide +kernel)⟩
  | 108, _ => exact ⟨zg3 183 (by decide +kernel) (by decide +kernel), zg1 1 (by decide +kernel) (by decide +kernel)⟩
  | 109, _ => exact ⟨zg3 187 (by decide +kernel) (by decide +kernel), zg1 1 (by decide +kernel) (by decide +kernel)⟩
  | 110, _ => exact ⟨zg3 122 (by decide +kernel) (by decide +kernel), zg1 1 (by decide +kernel) (by decide +kernel)⟩
  | 111, _ => exact ⟨zg3 122 (by decide +kernel) (by decide +kernel), zg1 1 (by decide +kernel) (by decide +kernel)⟩
  | 112, _ => exact ⟨zg3 122 (by decide +kernel) (by decide +kernel), zg1 1 (by decide +kernel) (by decide +kernel)⟩
  | 113, _ => exact ⟨zg3 191 (by decide +kernel) (by decide +kernel), zg1 1 (by decide +kernel) (by decide +kernel)⟩
  | 114, _ => exact ⟨zg3 199 (by decide +kernel) (by decide +kernel), zg1 1 (by decide +kernel) (by decide +kernel)⟩
  | 115, _ => exact ⟨zg3 203 (by decide +kernel) (by decide +kernel), zg1 1 (by decide +kernel) (by decide +kernel)⟩
  | 116, _ => exact ⟨zg3 195 (by decide +kernel) (by decide +kernel), zg1 1 (by decide +kernel) (by decide +kernel)⟩
  | 117, _ => exact ⟨zg3 207 (by decide +kernel) (by decide +kernel), zg1 1 (by decide +kernel) (by decide +kernel)⟩
  | 118, _ => exact ⟨zg3 122 (by decide +kernel) (by decide +kernel), zg1 1 (by decide +kernel) (by decide +kernel)⟩
  | 119, _ => exact ⟨zg3 122 (by decide +kernel) (by decide +kernel), zg1 1 (by decide +kernel) (by decide +kernel)⟩
  | 120, _ => exact ⟨zg3 122 (by decide +kernel) (by decide +kernel), zg1 1 (by decide +kernel) (by decide +kernel)⟩
  | 121, _ => exact ⟨zg3 220 (by decide +kernel) (by decide +kernel), zg1 1 (by decide +kernel) (by decide +kernel)⟩
  | 122, _ => exact ⟨zg3 224 (by decide +kernel) (by decide +kernel), zg1 1 (by decide +kernel) (by decide +kernel)⟩
  | 123, _ => exact ⟨zg3 122 (by decide +kernel) (by decide +kernel), zg1 1 (by decide +kernel) (by decide +kernel)⟩
  | 124, _ => exact ⟨zg3 228 (by decide +kernel) (by decide +kernel), zg1 1 (by decide +kernel) (by decide +kernel)⟩
  | 125, _ => exact ⟨zg3 232 (by decide +kernel) (by decide +kernel), zg1 1 (by decide +kernel) (by decide +kernel)⟩
  | 126, _ => exact ⟨zg3 122 (by decide +kernel) (by decide +kernel), zg1 1 (by decide +kernel) (by decide +kernel)⟩
  | 127, _ => exact ⟨zg3 122 (by decide +kernel) (by decide +kernel), zg1 1 (by decide +kernel) (by decide +kernel)⟩
  | 128, _ => exact ⟨zg3 122 (by decide +kernel) (by decide +kernel), zg1 1 (by decide +kernel) (by decide +kernel)⟩
  | 129, _ => exact ⟨zg3 122 (by decide +kernel) (by decide +kernel), zg1 1 (by decide +kernel) (by decide +kernel)⟩
  | 130, _ => exact ⟨zg4 5 (by decide +kernel) (by decide +kernel), zg1 18 (by decide +kernel) (by decide +kernel)⟩
  | 131, _ => exact ⟨zg4 2 (by decide +kernel) (by decide +kernel), zg1 0 (by decide +kernel) (by decide +kernel)⟩
  | 132, _ => exact ⟨zg3 239 (by decide +kernel) (by decide +kernel), zg1 0 (by decide +kernel) (by decide +kernel)⟩
  | 133, _ => exact ⟨zg3 122 (by decide +kernel) (by decide +kernel), zg1 1 (by decide +kernel) (by decide +kernel)⟩
  | 134, _ => exact ⟨zg3 122 (by decide +kernel) (by decide +kernel), zg1 1 (by decide +kernel) (by decide +kernel)⟩
  | 135, _ => exact ⟨zg3 122 (by decide +kernel) (by decide +kernel), zg1 1 (by decide +kernel) (by decide +kernel)⟩
  | 136, _ => exact ⟨zg3 122 (by decide +kernel) (by decide +kernel), zg1 1 (by decide +kernel) (by decide +kernel)⟩
  | 137, _ => exact ⟨zg3 122 (by decide +kernel) (by decide +kernel), zg1 1 (by decide +kernel) (by decide +kernel)⟩
  | 138, _ => exact ⟨zg3 122 (by decide +kernel) (by decide +kernel), zg1 1 (by decide +kernel) (by decide +kernel)⟩
  | 139, _ => exact ⟨zg3 122 (by decide +kernel) (by decide +kernel), zg1 1 (by decide +kernel) (by decide +kernel)⟩
  | 140, _ => exact ⟨zg3 122 (by decide +kernel) (by decide +kernel), zg1 1 (by decide +kernel) (by decide +kernel)⟩
  | 141, _ => exact ⟨zg3 122 (by decide +kernel) (by decide +kernel), zg1 1 (by decide +kernel) (by decide +kernel)⟩
  | 142, _ => exact ⟨zg3 122 (by decide +kernel) (by decide +kernel), zg1 1 (by decide +kernel) (by decide +kernel)⟩
  | 143, _ => exact ⟨zg3 122 (by decide +kernel) (by decide +kernel), zg1 1 (by decide +kernel) (by decide +kernel)⟩
  | 144, _ => exact ⟨zg3 122 (by decide +kernel) (by decide +kernel), zg1 1 (by decide +kernel) (by decide +kernel)⟩
  | 145, _ => exact ⟨zg3 122 (by decide +kernel) (by decide +kernel), zg1 1 (by decide +kernel) (by decide +kernel)⟩
  | 146, _ => exact ⟨zg3 122 (by decide +kernel) (by decide +kernel), zg1 1 (by decide +kernel) (by decide +kernel)⟩
  | 147, _ => exact ⟨zg3 122 (by decide +kernel) (by decide +kernel), zg1 1 (by decide +kernel) (by decide +kernel)⟩
  | 148, _ => exact ⟨zg3 122 (by decide +kernel) (by decide +kernel), zg1 1 (by decide +kernel) (by decide +kernel)⟩
  | 149, _ => exact ⟨zg3 122 (by decide +kernel) (by decide +kernel), zg1 1 (by decide +kernel) (by decide +kernel)⟩
  | 150, _ => exact ⟨zg3 122 (by decide +kernel) (by decide +kernel), zg1 1 (by decide +kernel) (by decide +kernel)⟩
  | 151, _ => exact ⟨zg3 122 (by decide +kernel) (by decide +kernel), zg1 1 (by decide +kernel) (by decide +kernel)⟩
  | 152, _ => exact ⟨zg3 122 (by decide +kernel) (by decide +kernel), zg1 1 (by decide +kernel) (by decide +kernel)⟩
  | 153, _ => exact ⟨zg3 122 (by decide +kernel) (by decide +kernel), zg1 1 (by decide +kernel) (by decide +kernel)⟩
  | 154, _ => exact ⟨zg3 122 (by decide +kernel) (by decide +kernel), zg1 1 (by decide +kernel) (by decide +kernel)⟩
  | 155, _ => exact ⟨zg3 122 (by decide +kernel) (by decide +kernel), zg1 1 (by decide +kernel) (by decide +kernel)⟩
  | 156, _ => exact ⟨zg3 122 (by decide +kernel) (by decide +kernel), zg1 1 (by decide +kernel) (by decide +kernel)⟩
  | 157, _ => exact ⟨zg3 122 (by decide +kernel) (by decide +kernel), zg1 1 (by decide +kernel) (by decide +kernel)⟩
  | 158, _ => exact ⟨zg3 122 (by decide +kernel) (by decide +kernel), zg1 1 (by decide +kernel) (by decide +kernel)⟩
  | 159, _ => exact ⟨zg3 122 (by decide +kernel) (by decide +kernel), zg1 1 (by decide +kernel) (by decide +kernel)⟩
  | 160, _ => exact ⟨zg3 122 (by decide +kernel) (by decide +kernel), zg1 1 (by decide +kernel) (by decide +kernel)⟩
  | 161, _ => exact ⟨zg3 122 (by decide +kernel) (by decide +kernel), zg1 1 (by decide +kernel) (by decide +kernel)⟩
  | 162, _ => exact ⟨zg3 122 (by decide +kernel) (by decide +kernel), zg1 1 (by decide +kernel) (by decide +kernel)⟩
  | 163, _ => exact ⟨zg3 122 (by decide +kernel) (by decide +kernel), zg1 1 (by decide +kernel) (by decide +kernel)⟩
  | 164, _ => exact ⟨zg3 122 (by decide +kernel) (by decide +kernel), zg1 1 (by decide +kernel) (by decide +kernel)⟩
  | 165, _ => exact ⟨zg3 122 (by decide +kernel) (by decide +kernel), zg1 1 (by decide +kernel) (by decide +kernel)⟩
  | 166, _ => exact ⟨zg3 122 (by decide +kernel) (by decide +kernel), zg1 1 (by decide +kernel) (by decide +kernel)⟩
  | 167, _ => exact ⟨zg3 122 (by decide +kernel) (by decide +kernel), zg1 1 (by decide +kernel) (by decide +kernel)⟩
  | 168, _ => exact ⟨zg3 122 (by decide +kernel) (by decide +kernel), zg1 1 (by decide +kernel) (by decide +kernel)⟩
  | 169, _ => exact ⟨zg3 122 (by decide +kernel) (by decide +kernel), zg1 1 (by decide +kernel) (by decide +kernel)⟩
  | 170, _ => exact ⟨zg3 122 (by decide +kernel) (by decide +kernel), zg1 1 (by decide +kernel) (by decide +kernel)⟩
  | 171, _ => exact ⟨zg3 122 (by decide +kernel) (by decide +kernel), zg1 1 (by decide +kernel) (by decide +kernel)⟩
  | 172, _ => exact ⟨zg3 122 (by decide +kernel) (by decide +kernel), zg1 1 (by decide +kernel) (by decide +kernel)⟩
  | 173, _ => exact ⟨zg3 122 (by decide +kernel) (by decide +kernel), zg1 1 (by decide +kernel) (by decide +kernel)⟩
  | 174, _ => exact ⟨zg3 122 (by decide +kernel) (by decide +kernel), zg1 1 (by decide +kernel) (by decide +kernel)⟩
  | 175, _ => exact ⟨zg3 122 (by decide +kernel) (by decide +kernel), zg1 1 (by decide +kernel) (by decide +kernel)⟩
  | 176, _ => exact ⟨zg3 122 (by decide +kernel) (by decide +kernel), zg1 1 (by decide +kernel) (by decide +kernel)⟩
  | 177, _ => exact ⟨zg3 122 (by decide +kernel) (by decide +kernel), zg1 1 (by decide +kernel) (by decide +kernel)⟩
  | 178, _ => exact ⟨zg3 122 (by decide +kernel) (by decide +kernel), zg1 1 (by decide +kernel) (by decide +kernel)⟩
  | 179, _ => exact ⟨zg3 122 (by decide +kernel) (by decide +kernel), zg1 1 (by decide +kernel) (by decide +kernel)⟩
  | 180, _ => exact ⟨zg3 122 (by decide +kernel) (by decide +kernel), zg1 1 (by decide +kernel) (by decide +kernel)⟩
  | 181, _ => exact ⟨zg3 122 (by decide +kernel) (by decide +kernel), zg1 1 (by decide +kernel) (by decide +kernel)⟩
  | 182, _ => exact ⟨zg3 122 (by decide +kernel) (by decide +kernel), zg1 1 (by decide +kernel) (by decide +kernel)⟩
  | 183, _ => exact ⟨zg3 122 (by decide +kernel) (by decide +kernel), zg1 1 (by decide +kernel) (by decide +kernel)⟩
  | 184, _ => exact ⟨zg3 122 (by decide +kernel) (by decide +kernel), zg1 1 (by decide +kernel) (by decide +kernel)⟩
  | 185, _ => exact ⟨zg3 122 (by decide +kernel) (by decide +kernel), zg1 1 (by decide +kernel) (by decide +kernel)⟩
  | 186, _ => exact ⟨zg3 122 (by decide +kernel) (by decide +kernel), zg1 1 (by decide +kernel) (by decide +kernel)⟩
  | 187, _ => exact ⟨zg3 122 (by decide +kernel) (by decide +kernel), zg1 1 (by decide +kernel) (by decide +kernel)⟩
  | 188, _ => exact ⟨zg3 122 (by decide +kernel) (by decide +kernel), zg1 1 (by decide +kernel) (by decide +kernel)⟩
  | 189, _ => exact ⟨zg3 122 (by decide +kernel) (by decide +kernel), zg1 1 (by decide +kernel) (by decide +kernel)⟩
  | 190, _ => exact ⟨zg3 122 (by decide +kernel) (by decide +kernel), zg1 1 (by decide +kernel) (by decide +kernel)⟩
  | 191, _ => exact ⟨zg3 122 (by decide +kernel) (by decide +kernel), zg1 1 (by decide +kernel) (by decide +kernel)⟩
  | 192, _ => exact ⟨zg3 122 (by decide +kernel) (by decide +kernel), zg1 1 (by decide +kernel) (by decide +kernel)⟩
  | 193, _ => exact ⟨zg3 122 (by decide +kernel) (by decide +kernel), zg1 1 (by decide +kernel) (by decide +kernel)⟩
  | 194, _ => exact ⟨zg3 122 (by decide +kernel) (by decide +kernel), zg1 1 (by decide +kernel) (by decide +kernel)⟩
  | 195, _ => exact ⟨zg3 122 (by decide +kernel) (by decide +kernel), zg1 1 (by decide +kernel) (by decide +kernel)⟩
  | 196, _ => exact ⟨zg3 122 (by decide +kernel) (by decide +kernel), zg1 1 (by decide +kernel) (by decide +kernel)⟩
  | 197, _ => exact ⟨zg3 122 (by decide +kernel) (by decide +kernel), zg1 1 (by decide +kernel) (by decide +kernel)⟩
  | 198, _ => exact ⟨zg3 122 (by decide +kernel) (by decide +kernel), zg1 1 (by decide +kernel) (by decide +kernel)⟩
  | 199, _ => exact ⟨zg3 122 (by decide +kernel) (by decide +kernel), zg1 1 (by decide +kernel) (by decide +kernel)⟩
  | 200, _ => exact ⟨zg3 122 (by decide +kernel) (by decide +kernel), zg1 1 (by decide +kernel) (by decide +kernel)⟩
  | 201, _ => exact ⟨zg3 122 (by decide +kernel) (by decide +kernel), zg1 1 (by decide +kernel) (by decide +kernel)⟩
  | 202, _ => exact ⟨zg2 237 (by decide +kernel) (by decide +kernel), zg1 18 (by decide +kernel) (by decide +kernel)⟩
  | 203, _ => exact ⟨zg2 86 (by decide +kernel) (by decide +kernel), zg1 17 (by decide +kernel) (by decide +kernel)⟩
  | 204, _ => exact ⟨zg3 12 (by decide +kernel) (by decide +kernel), zg1 17 (by decide +kernel) (by decide +kernel)⟩
  | k + 205, h => exact absurd h (by omega)
