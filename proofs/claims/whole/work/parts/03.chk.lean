/-! the links' words, by their places; the resolved code against the bytes; written by wip/whole/gen4.py -/
theorem zFT_ok : ∀ q ∈ zFT, Cond.fieldLink (zR q.1) q.2.1 (zT q.2.2.1 q.2.2.2).1 (zT q.2.2.1 q.2.2.2).2.1 (zT q.2.2.1 q.2.2.2).2.2.1 ∈ zGL := by
  unfold zFT
  refine List.forall_mem_cons.mpr ⟨zg1 75 (by decide +kernel) (by decide +kernel), ?_⟩
  refine List.forall_mem_cons.mpr ⟨zg1 77 (by decide +kernel) (by decide +kernel), ?_⟩
  refine List.forall_mem_cons.mpr ⟨zg1 79 (by decide +kernel) (by decide +kernel), ?_⟩
  refine List.forall_mem_cons.mpr ⟨zg1 81 (by decide +kernel) (by decide +kernel), ?_⟩
  refine List.forall_mem_cons.mpr ⟨zg1 84 (by decide +kernel) (by decide +kernel), ?_⟩
  refine List.forall_mem_cons.mpr ⟨zg1 85 (by decide +kernel) (by decide +kernel), ?_⟩
  refine List.forall_mem_cons.mpr ⟨zg1 87 (by decide +kernel) (by decide +kernel), ?_⟩
  refine List.forall_mem_cons.mpr ⟨zg1 49 (by decide +kernel) (by decide +kernel), ?_⟩
  refine List.forall_mem_cons.mpr ⟨zg1 47 (by decide +kernel) (by decide +kernel), ?_⟩
  refine List.forall_mem_cons.mpr ⟨zg1 54 (by decide +kernel) (by decide +kernel), ?_⟩
  refine List.forall_mem_cons.mpr ⟨zg1 46 (by decide +kernel) (by decide +kernel), ?_⟩
  refine List.forall_mem_cons.mpr ⟨zg1 51 (by decide +kernel) (by decide +kernel), ?_⟩
  refine List.forall_mem_cons.mpr ⟨zg1 56 (by decide +kernel) (by decide +kernel), ?_⟩
  refine List.forall_mem_cons.mpr ⟨zg1 59 (by decide +kernel) (by decide +kernel), ?_⟩
  refine List.forall_mem_cons.mpr ⟨zg1 44 (by decide +kernel) (by decide +kernel), ?_⟩
  refine List.forall_mem_cons.mpr ⟨zg1 62 (by decide +kernel) (by decide +kernel), ?_⟩
  refine List.forall_mem_cons.mpr ⟨zg1 190 (by decide +kernel) (by decide +kernel), ?_⟩
  refine List.forall_mem_cons.mpr ⟨zg1 193 (by decide +kernel) (by decide +kernel), ?_⟩
  refine List.forall_mem_cons.mpr ⟨zg1 194 (by decide +kernel) (by decide +kernel), ?_⟩
  refine List.forall_mem_cons.mpr ⟨zg1 195 (by decide +kernel) (by decide +kernel), ?_⟩
  refine List.forall_mem_cons.mpr ⟨zg1 200 (by decide +kernel) (by decide +kernel), ?_⟩
  refine List.forall_mem_cons.mpr ⟨zg1 191 (by decide +kernel) (by decide +kernel), ?_⟩
  refine List.forall_mem_cons.mpr ⟨zg1 176 (by decide +kernel) (by decide +kernel), ?_⟩
  refine List.forall_mem_cons.mpr ⟨zg1 199 (by decide +kernel) (by decide +kernel), ?_⟩
  refine List.forall_mem_cons.mpr ⟨zg1 197 (by decide +kernel) (by decide +kernel), ?_⟩
  refine List.forall_mem_cons.mpr ⟨zg1 198 (by decide +kernel) (by decide +kernel), ?_⟩
  refine List.forall_mem_cons.mpr ⟨zg1 174 (by decide +kernel) (by decide +kernel), ?_⟩
  refine List.forall_mem_cons.mpr ⟨zg1 196 (by decide +kernel) (by decide +kernel), ?_⟩
  refine List.forall_mem_cons.mpr ⟨zg1 154 (by decide +kernel) (by decide +kernel), ?_⟩
  refine List.forall_mem_cons.mpr ⟨zg1 156 (by decide +kernel) (by decide +kernel), ?_⟩
  refine List.forall_mem_cons.mpr ⟨zg1 158 (by decide +kernel) (by decide +kernel), ?_⟩
  refine List.forall_mem_cons.mpr ⟨zg1 53 (by decide +kernel) (by decide +kernel), ?_⟩
  refine List.forall_mem_cons.mpr ⟨zg1 172 (by decide +kernel) (by decide +kernel), ?_⟩
  refine List.forall_mem_cons.mpr ⟨zg1 173 (by decide +kernel) (by decide +kernel), ?_⟩
  refine List.forall_mem_cons.mpr ⟨zg1 175 (by decide +kernel) (by decide +kernel), ?_⟩
  refine List.forall_mem_cons.mpr ⟨zg1 55 (by decide +kernel) (by decide +kernel), ?_⟩
  refine List.forall_mem_cons.mpr ⟨zg1 58 (by decide +kernel) (by decide +kernel), ?_⟩
  refine List.forall_mem_cons.mpr ⟨zg1 50 (by decide +kernel) (by decide +kernel), ?_⟩
  refine List.forall_mem_cons.mpr ⟨zg1 61 (by decide +kernel) (by decide +kernel), ?_⟩
  refine List.forall_mem_cons.mpr ⟨zg2 139 (by decide +kernel) (by decide +kernel), ?_⟩
  refine List.forall_mem_cons.mpr ⟨zg2 140 (by decide +kernel) (by decide +kernel), ?_⟩
  refine List.forall_mem_cons.mpr ⟨zg2 141 (by decide +kernel) (by decide +kernel), ?_⟩
  refine List.forall_mem_cons.mpr ⟨zg2 142 (by decide +kernel) (by decide +kernel), ?_⟩
  refine List.forall_mem_cons.mpr ⟨zg2 144 (by decide +kernel) (by decide +kernel), ?_⟩
  refine List.forall_mem_cons.mpr ⟨zg2 147 (by decide +kernel) (by decide +kernel), ?_⟩
  refine List.forall_mem_cons.mpr ⟨zg2 148 (by decide +kernel) (by decide +kernel), ?_⟩
  refine List.forall_mem_cons.mpr ⟨zg2 149 (by decide +kernel) (by decide +kernel), ?_⟩
  refine List.forall_mem_cons.mpr ⟨zg2 145 (by decide +kernel) (by decide +kernel), ?_⟩
  refine List.forall_mem_cons.mpr ⟨zg2 146 (by decide +kernel) (by decide +kernel), ?_⟩
  refine List.forall_mem_cons.mpr ⟨zg1 83 (by decide +kernel) (by decide +kernel), ?_⟩
  refine List.forall_mem_cons.mpr ⟨zg1 76 (by decide +kernel) (by decide +kernel), ?_⟩
  refine List.forall_mem_cons.mpr ⟨zg1 80 (by decide +kernel) (by decide +kernel), ?_⟩
  refine List.forall_mem_cons.mpr ⟨zg1 45 (by decide +kernel) (by decide +kernel), ?_⟩
  refine List.forall_mem_cons.mpr ⟨zg1 48 (by decide +kernel) (by decide +kernel), ?_⟩
  refine List.forall_mem_cons.mpr ⟨zg1 52 (by decide +kernel) (by decide +kernel), ?_⟩
  refine List.forall_mem_cons.mpr ⟨zg1 57 (by decide +kernel) (by decide +kernel), ?_⟩
  refine List.forall_mem_cons.mpr ⟨zg1 60 (by decide +kernel) (by decide +kernel), ?_⟩
  refine List.forall_mem_cons.mpr ⟨zg1 82 (by decide +kernel) (by decide +kernel), ?_⟩
  refine List.forall_mem_cons.mpr ⟨zg1 78 (by decide +kernel) (by decide +kernel), ?_⟩
  refine List.forall_mem_cons.mpr ⟨zg1 86 (by decide +kernel) (by decide +kernel), ?_⟩
  refine List.forall_mem_cons.mpr ⟨zg1 192 (by decide +kernel) (by decide +kernel), ?_⟩
  refine List.forall_mem_cons.mpr ⟨zg1 88 (by decide +kernel) (by decide +kernel), ?_⟩
  refine List.forall_mem_cons.mpr ⟨zg1 159 (by decide +kernel) (by decide +kernel), ?_⟩
  refine List.forall_mem_cons.mpr ⟨zg1 155 (by decide +kernel) (by decide +kernel), ?_⟩
  refine List.forall_mem_cons.mpr ⟨zg2 150 (by decide +kernel) (by decide +kernel), ?_⟩
  refine List.forall_mem_cons.mpr ⟨zg2 151 (by decide +kernel) (by decide +kernel), ?_⟩
  refine List.forall_mem_cons.mpr ⟨zg2 143 (by decide +kernel) (by decide +kernel), ?_⟩
  refine List.forall_mem_cons.mpr ⟨zg1 157 (by decide +kernel) (by decide +kernel), ?_⟩
  refine List.forall_mem_cons.mpr ⟨zg4 102 (by decide +kernel) (by decide +kernel), ?_⟩
  refine List.forall_mem_cons.mpr ⟨zg4 103 (by decide +kernel) (by decide +kernel), ?_⟩
  refine List.forall_mem_cons.mpr ⟨zg4 106 (by decide +kernel) (by decide +kernel), ?_⟩
  refine List.forall_mem_cons.mpr ⟨zg4 109 (by decide +kernel) (by decide +kernel), ?_⟩
  refine List.forall_mem_cons.mpr ⟨zg4 111 (by decide +kernel) (by decide +kernel), ?_⟩
  refine List.forall_mem_cons.mpr ⟨zg4 130 (by decide +kernel) (by decide +kernel), ?_⟩
  refine List.forall_mem_cons.mpr ⟨zg4 131 (by decide +kernel) (by decide +kernel), ?_⟩
  refine List.forall_mem_cons.mpr ⟨zg4 135 (by decide +kernel) (by decide +kernel), ?_⟩
  refine List.forall_mem_cons.mpr ⟨zg4 136 (by decide +kernel) (by decide +kernel), ?_⟩
  refine List.forall_mem_cons.mpr ⟨zg4 137 (by decide +kernel) (by decide +kernel), ?_⟩
  refine List.forall_mem_cons.mpr ⟨zg4 142 (by decide +kernel) (by decide +kernel), ?_⟩
  refine List.forall_mem_cons.mpr ⟨zg4 143 (by decide +kernel) (by decide +kernel), ?_⟩
  refine List.forall_mem_cons.mpr ⟨zg4 144 (by decide +kernel) (by decide +kernel), ?_⟩
  refine List.forall_mem_cons.mpr ⟨zg4 145 (by decide +kernel) (by decide +kernel), ?_⟩
  refine List.forall_mem_cons.mpr ⟨zg4 104 (by decide +kernel) (by decide +kernel), ?_⟩
  refine List.forall_mem_cons.mpr ⟨zg4 110 (by decide +kernel) (by decide +kernel), ?_⟩
  refine List.forall_mem_cons.mpr ⟨zg4 112 (by decide +kernel) (by decide +kernel), ?_⟩
  refine List.forall_mem_cons.mpr ⟨zg4 108 (by decide +kernel) (by decide +kernel), ?_⟩
  refine List.forall_mem_cons.mpr ⟨zg4 105 (by decide +kernel) (by decide +kernel), ?_⟩
  refine List.forall_mem_cons.mpr ⟨zg4 113 (by decide +kernel) (by decide +kernel), ?_⟩
  refine List.forall_mem_cons.mpr ⟨zg4 107 (by decide +kernel) (by decide +kernel), ?_⟩
  refine List.forall_mem_cons.mpr ⟨zg4 122 (by decide +kernel) (by decide +kernel), ?_⟩
  refine List.forall_mem_cons.mpr ⟨zg4 121 (by decide +kernel) (by decide +kernel), ?_⟩
  refine List.forall_mem_cons.mpr ⟨zg4 123 (by decide +kernel) (by decide +kernel), ?_⟩
  refine List.forall_mem_cons.mpr ⟨zg4 125 (by decide +kernel) (by decide +kernel), ?_⟩
  refine List.forall_mem_cons.mpr ⟨zg4 124 (by decide +kernel) (by decide +kernel), ?_⟩
  refine List.forall_mem_cons.mpr ⟨zg4 126 (by decide +kernel) (by decide +kernel), ?_⟩
  refine List.forall_mem_cons.mpr ⟨zg4 128 (by decide +kernel) (by decide +kernel), ?_⟩
  refine List.forall_mem_cons.mpr ⟨zg4 129 (by decide +kernel) (by decide +kernel), ?_⟩
  refine List.forall_mem_cons.mpr ⟨zg4 127 (by decide +kernel) (by decide +kernel), ?_⟩
  refine List.forall_mem_cons.mpr ⟨zg4 115 (by decide +kernel) (by decide +kernel), ?_⟩
  refine List.forall_mem_cons.mpr ⟨zg4 116 (by decide +kernel) (by decide +kernel), ?_⟩
  refine List.forall_mem_cons.mpr ⟨zg4 117 (by decide +kernel) (by decide +kernel), ?_⟩
  refine List.forall_mem_cons.mpr ⟨zg4 118 (by decide +kernel) (by decide +kernel), ?_⟩
  refine List.forall_mem_cons.mpr ⟨zg4 119 (by decide +kernel) (by decide +kernel), ?_⟩
  refine List.forall_mem_cons.mpr ⟨zg4 120 (by decide +kernel) (by decide +kernel), ?_⟩
  refine List.forall_mem_cons.mpr ⟨zg4 114 (by decide +kernel) (by decide +kernel), ?_⟩
  refine List.forall_mem_cons.mpr ⟨zg4 133 (by decide +kernel) (by decide +kernel), ?_⟩
  refine List.forall_mem_cons.mpr ⟨zg4 134 (by decide +kernel) (by decide +kernel), ?_⟩
  refine List.forall_mem_cons.mpr ⟨zg4 132 (by decide +kernel) (by decide +kernel), ?_⟩
  refine List.forall_mem_cons.mpr ⟨zg4 138 (by decide +kernel) (by decide +kernel), ?_⟩
  refine List.forall_mem_cons.mpr ⟨zg4 139 (by decide +kernel) (by decide +kernel), ?_⟩
  refine List.forall_mem_cons.mpr ⟨zg4 140 (by decide +kernel) (by decide +kernel), ?_⟩
  refine List.forall_mem_cons.mpr ⟨zg4 141 (by decide +kernel) (by decide +kernel), ?_⟩
  exact List.forall_mem_nil _
theorem zST_ok : ∀ q ∈ zST, Cond.methodLink (zR q.1) q.2.1 (zY q.2.2.1) ∈ zGL ∧ Cond.static (zY q.2.2.1) ∈ zGL := by
  unfold zST
  refine List.forall_mem_cons.mpr ⟨⟨zg3 110 (by decide +kernel) (by decide +kernel), zg3 2 (by decide +kernel) (by decide +kernel)⟩, ?_⟩
  refine List.forall_mem_cons.mpr ⟨⟨zg2 85 (by decide +kernel) (by decide +kernel), zg2 86 (by decide +kernel) (by decide +kernel)⟩, ?_⟩
  refine List.forall_mem_cons.mpr ⟨⟨zg2 238 (by decide +kernel) (by decide +kernel), zg2 239 (by decide +kernel) (by decide +kernel)⟩, ?_⟩
  refine List.forall_mem_cons.mpr ⟨⟨zg3 7 (by decide +kernel) (by decide +kernel), zg3 8 (by decide +kernel) (by decide +kernel)⟩, ?_⟩
  refine List.forall_mem_cons.mpr ⟨⟨zg3 10 (by decide +kernel) (by decide +kernel), zg3 11 (by decide +kernel) (by decide +kernel)⟩, ?_⟩
  refine List.forall_mem_cons.mpr ⟨⟨zg3 1 (by decide +kernel) (by decide +kernel), zg3 2 (by decide +kernel) (by decide +kernel)⟩, ?_⟩
  refine List.forall_mem_cons.mpr ⟨⟨zg2 188 (by decide +kernel) (by decide +kernel), zg2 189 (by decide +kernel) (by decide +kernel)⟩, ?_⟩
  refine List.forall_mem_cons.mpr ⟨⟨zg2 203 (by decide +kernel) (by decide +kernel), zg2 204 (by decide +kernel) (by decide +kernel)⟩, ?_⟩
  refine List.forall_mem_cons.mpr ⟨⟨zg3 138 (by decide +kernel) (by decide +kernel), zg3 139 (by decide +kernel) (by decide +kernel)⟩, ?_⟩
  refine List.forall_mem_cons.mpr ⟨⟨zg3 149 (by decide +kernel) (by decide +kernel), zg3 150 (by decide +kernel) (by decide +kernel)⟩, ?_⟩
  refine List.forall_mem_cons.mpr ⟨⟨zg3 42 (by decide +kernel) (by decide +kernel), zg3 14 (by decide +kernel) (by decide +kernel)⟩, ?_⟩
  refine List.forall_mem_cons.mpr ⟨⟨zg3 169 (by decide +kernel) (by decide +kernel), zg3 64 (by decide +kernel) (by decide +kernel)⟩, ?_⟩
  refine List.forall_mem_cons.mpr ⟨⟨zg3 152 (by decide +kernel) (by decide +kernel), zg3 2 (by decide +kernel) (by decide +kernel)⟩, ?_⟩
  refine List.forall_mem_cons.mpr ⟨⟨zg3 219 (by decide +kernel) (by decide +kernel), zg3 220 (by decide +kernel) (by decide +kernel)⟩, ?_⟩
  refine List.forall_mem_cons.mpr ⟨⟨zg3 222 (by decide +kernel) (by decide +kernel), zg3 223 (by decide +kernel) (by decide +kernel)⟩, ?_⟩
  refine List.forall_mem_cons.mpr ⟨⟨zg5 3 (by decide +kernel) (by decide +kernel), zg5 4 (by decide +kernel) (by decide +kernel)⟩, ?_⟩
  refine List.forall_mem_cons.mpr ⟨⟨zg5 14 (by decide +kernel) (by decide +kernel), zg5 15 (by decide +kernel) (by decide +kernel)⟩, ?_⟩
  refine List.forall_mem_cons.mpr ⟨⟨zg5 144 (by decide +kernel) (by decide +kernel), zg5 145 (by decide +kernel) (by decide +kernel)⟩, ?_⟩
  refine List.forall_mem_cons.mpr ⟨⟨zg5 147 (by decide +kernel) (by decide +kernel), zg5 148 (by decide +kernel) (by decide +kernel)⟩, ?_⟩
  refine List.forall_mem_cons.mpr ⟨⟨zg5 162 (by decide +kernel) (by decide +kernel), zg5 163 (by decide +kernel) (by decide +kernel)⟩, ?_⟩
  refine List.forall_mem_cons.mpr ⟨⟨zg5 165 (by decide +kernel) (by decide +kernel), zg5 166 (by decide +kernel) (by decide +kernel)⟩, ?_⟩
  refine List.forall_mem_cons.mpr ⟨⟨zg5 224 (by decide +kernel) (by decide +kernel), zg5 225 (by decide +kernel) (by decide +kernel)⟩, ?_⟩
  refine List.forall_mem_cons.mpr ⟨⟨zg6 53 (by decide +kernel) (by decide +kernel), zg6 54 (by decide +kernel) (by decide +kernel)⟩, ?_⟩
  exact List.forall_mem_nil _
theorem zSN_ok : ∀ q ∈ zSN, Cond.methodLinkNest (zR q.1) q.2.1 (zY q.2.2.1) RX11 ∈ lw_tbl ∧ Cond.static (zY q.2.2.1) ∈ zGL := by
  unfold zSN
  refine List.forall_mem_cons.mpr ⟨⟨zt3 63 (by decide +kernel), zg3 64 (by decide +kernel) (by decide +kernel)⟩, ?_⟩
  refine List.forall_mem_cons.mpr ⟨⟨zt4 9 (by decide +kernel), zg3 14 (by decide +kernel) (by decide +kernel)⟩, ?_⟩
  refine List.forall_mem_cons.mpr ⟨⟨zt3 71 (by decide +kernel), zg3 64 (by decide +kernel) (by decide +kernel)⟩, ?_⟩
  refine List.forall_mem_cons.mpr ⟨⟨zt3 13 (by decide +kernel), zg3 14 (by decide +kernel) (by decide +kernel)⟩, ?_⟩
  exact List.forall_mem_nil _
theorem zIT_ok : ∀ q ∈ zIT, Cond.methodLink (zR q.1) q.2.1 (zY q.2.2.1) ∈ zGL ∧ Cond.instanceMethod (zY q.2.2.1) ∈ zGL := by
  unfold zIT
  refine List.forall_mem_cons.mpr ⟨⟨zg1 33 (by decide +kernel) (by decide +kernel), zg1 34 (by decide +kernel) (by decide +kernel)⟩, ?_⟩
  refine List.forall_mem_cons.mpr ⟨⟨zg1 186 (by decide +kernel) (by decide +kernel), zg1 187 (by decide +kernel) (by decide +kernel)⟩, ?_⟩
  refine List.forall_mem_cons.mpr ⟨⟨zg1 23 (by decide +kernel) (by decide +kernel), zg1 24 (by decide +kernel) (by decide +kernel)⟩, ?_⟩
  refine List.forall_mem_cons.mpr ⟨⟨zg4 94 (by decide +kernel) (by decide +kernel), zg4 95 (by decide +kernel) (by decide +kernel)⟩, ?_⟩
  exact List.forall_mem_nil _
theorem zIN_ok : ∀ q ∈ zIN, Cond.methodLinkNest (zR q.1) q.2.1 (zY q.2.2.1) RX11 ∈ lw_tbl ∧ Cond.instanceMethod (zY q.2.2.1) ∈ zGL := by
  unfold zIN
  refine List.forall_mem_cons.mpr ⟨⟨zt1 40 (by decide +kernel), zg1 41 (by decide +kernel) (by decide +kernel)⟩, ?_⟩
  refine List.forall_mem_cons.mpr ⟨⟨zt1 126 (by decide +kernel), zg1 110 (by decide +kernel) (by decide +kernel)⟩, ?_⟩
  refine List.forall_mem_cons.mpr ⟨⟨zt1 119 (by decide +kernel), zg1 110 (by decide +kernel) (by decide +kernel)⟩, ?_⟩
  refine List.forall_mem_cons.mpr ⟨⟨zt1 133 (by decide +kernel), zg1 117 (by decide +kernel) (by decide +kernel)⟩, ?_⟩
  refine List.forall_mem_cons.mpr ⟨⟨zt1 140 (by decide +kernel), zg1 124 (by decide +kernel) (by decide +kernel)⟩, ?_⟩
  refine List.forall_mem_cons.mpr ⟨⟨zt1 147 (by decide +kernel), zg1 110 (by decide +kernel) (by decide +kernel)⟩, ?_⟩
  refine List.forall_mem_cons.mpr ⟨⟨zt1 109 (by decide +kernel), zg1 110 (by decide +kernel) (by decide +kernel)⟩, ?_⟩
  refine List.forall_mem_cons.mpr ⟨⟨zt1 116 (by decide +kernel), zg1 117 (by decide +kernel) (by decide +kernel)⟩, ?_⟩
  refine List.forall_mem_cons.mpr ⟨⟨zt1 123 (by decide +kernel), zg1 124 (by decide +kernel) (by decide +kernel)⟩, ?_⟩
  refine List.forall_mem_cons.mpr ⟨⟨zt1 130 (by decide +kernel), zg1 131 (by decide +kernel) (by decide +kernel)⟩, ?_⟩
  refine List.forall_mem_cons.mpr ⟨⟨zt1 137 (by decide +kernel), zg1 138 (by decide +kernel) (by decide +kernel)⟩, ?_⟩
  refine List.forall_mem_cons.mpr ⟨⟨zt1 144 (by decide +kernel), zg1 145 (by decide +kernel) (by decide +kernel)⟩, ?_⟩
  refine List.forall_mem_cons.mpr ⟨⟨zt1 150 (by decide +kernel), zg1 151 (by decide +kernel) (by decide +kernel)⟩, ?_⟩
  refine List.forall_mem_cons.mpr ⟨⟨zt1 168 (by decide +kernel), zg1 169 (by decide +kernel) (by decide +kernel)⟩, ?_⟩
  exact List.forall_mem_nil _
theorem zOT_ok : ∀ q ∈ zOT, Cond.methodLink (zR q.1) q.2 Lib.objectInit ∈ zGL := by
  unfold zOT
  refine List.forall_mem_cons.mpr ⟨zg1 36 (by decide +kernel) (by decide +kernel), ?_⟩
  refine List.forall_mem_cons.mpr ⟨zg1 43 (by decide +kernel) (by decide +kernel), ?_⟩
  refine List.forall_mem_cons.mpr ⟨zg1 189 (by decide +kernel) (by decide +kernel), ?_⟩
  refine List.forall_mem_cons.mpr ⟨zg1 153 (by decide +kernel) (by decide +kernel), ?_⟩
  refine List.forall_mem_cons.mpr ⟨zg1 112 (by decide +kernel) (by decide +kernel), ?_⟩
  refine List.forall_mem_cons.mpr ⟨zg1 171 (by decide +kernel) (by decide +kernel), ?_⟩
  refine List.forall_mem_cons.mpr ⟨zg1 26 (by decide +kernel) (by decide +kernel), ?_⟩
  refine List.forall_mem_cons.mpr ⟨zg4 97 (by decide +kernel) (by decide +kernel), ?_⟩
  exact List.forall_mem_nil _
theorem zOI_ok : Cond.instanceMethod Lib.objectInit ∈ zGL ∧ Cond.code Lib.objectInit ⟨#[0xb1]⟩ 1 none ∈ zGL := ⟨zg1 27 (by decide +kernel) (by decide +kernel), zg1 28 (by decide +kernel) (by decide +kernel)⟩
theorem zUT_ok : ∀ q ∈ zUT, Cond.methodLink (zR q.1) q.2.1 (zY q.2.2.1) ∈ zGL ∧ Cond.sameMethod (zY q.2.2.1).cls (zY q.2.2.1).cls (zY q.2.2.1).name (zY q.2.2.1).desc ∈ zGL ∧ Cond.superclass (zR q.1) (zY q.2.2.1).cls ∈ zGL ∧ Cond.instanceMethod (zY q.2.2.1) ∈ zGL := by
  unfold zUT
  refine List.forall_mem_cons.mpr ⟨⟨zg4 74 (by decide +kernel) (by decide +kernel), zg4 70 (by decide +kernel) (by decide +kernel), zg1 127 (by decide +kernel) (by decide +kernel), zg4 68 (by decide +kernel) (by decide +kernel)⟩, ?_⟩
  refine List.forall_mem_cons.mpr ⟨⟨zg3 27 (by decide +kernel) (by decide +kernel), zg3 23 (by decide +kernel) (by decide +kernel), zg1 127 (by decide +kernel) (by decide +kernel), zg3 21 (by decide +kernel) (by decide +kernel)⟩, ?_⟩
  refine List.forall_mem_cons.mpr ⟨⟨zg3 50 (by decide +kernel) (by decide +kernel), zg3 46 (by decide +kernel) (by decide +kernel), zg1 127 (by decide +kernel) (by decide +kernel), zg3 44 (by decide +kernel) (by decide +kernel)⟩, ?_⟩
  refine List.forall_mem_cons.mpr ⟨⟨zg3 83 (by decide +kernel) (by decide +kernel), zg3 79 (by decide +kernel) (by decide +kernel), zg1 127 (by decide +kernel) (by decide +kernel), zg3 77 (by decide +kernel) (by decide +kernel)⟩, ?_⟩
  refine List.forall_mem_cons.mpr ⟨⟨zg4 78 (by decide +kernel) (by decide +kernel), zg4 70 (by decide +kernel) (by decide +kernel), zg1 120 (by decide +kernel) (by decide +kernel), zg4 68 (by decide +kernel) (by decide +kernel)⟩, ?_⟩
  refine List.forall_mem_cons.mpr ⟨⟨zg3 31 (by decide +kernel) (by decide +kernel), zg3 23 (by decide +kernel) (by decide +kernel), zg1 120 (by decide +kernel) (by decide +kernel), zg3 21 (by decide +kernel) (by decide +kernel)⟩, ?_⟩
  refine List.forall_mem_cons.mpr ⟨⟨zg3 54 (by decide +kernel) (by decide +kernel), zg3 46 (by decide +kernel) (by decide +kernel), zg1 120 (by decide +kernel) (by decide +kernel), zg3 44 (by decide +kernel) (by decide +kernel)⟩, ?_⟩
  refine List.forall_mem_cons.mpr ⟨⟨zg4 82 (by decide +kernel) (by decide +kernel), zg6 60 (by decide +kernel) (by decide +kernel), zg1 134 (by decide +kernel) (by decide +kernel), zg4 76 (by decide +kernel) (by decide +kernel)⟩, ?_⟩
  refine List.forall_mem_cons.mpr ⟨⟨zg3 58 (by decide +kernel) (by decide +kernel), zg6 57 (by decide +kernel) (by decide +kernel), zg1 134 (by decide +kernel) (by decide +kernel), zg3 52 (by decide +kernel) (by decide +kernel)⟩, ?_⟩
  refine List.forall_mem_cons.mpr ⟨⟨zg4 86 (by decide +kernel) (by decide +kernel), zg6 61 (by decide +kernel) (by decide +kernel), zg1 141 (by decide +kernel) (by decide +kernel), zg4 72 (by decide +kernel) (by decide +kernel)⟩, ?_⟩
  refine List.forall_mem_cons.mpr ⟨⟨zg3 36 (by decide +kernel) (by decide +kernel), zg6 56 (by decide +kernel) (by decide +kernel), zg1 141 (by decide +kernel) (by decide +kernel), zg3 25 (by decide +kernel) (by decide +kernel)⟩, ?_⟩
  refine List.forall_mem_cons.mpr ⟨⟨zg3 62 (by decide +kernel) (by decide +kernel), zg6 58 (by decide +kernel) (by decide +kernel), zg1 141 (by decide +kernel) (by decide +kernel), zg3 48 (by decide +kernel) (by decide +kernel)⟩, ?_⟩
  refine List.forall_mem_cons.mpr ⟨⟨zg3 93 (by decide +kernel) (by decide +kernel), zg6 59 (by decide +kernel) (by decide +kernel), zg1 141 (by decide +kernel) (by decide +kernel), zg3 81 (by decide +kernel) (by decide +kernel)⟩, ?_⟩
  refine List.forall_mem_cons.mpr ⟨⟨zg4 90 (by decide +kernel) (by decide +kernel), zg4 70 (by decide +kernel) (by decide +kernel), zg1 148 (by decide +kernel) (by decide +kernel), zg4 68 (by decide +kernel) (by decide +kernel)⟩, ?_⟩
  refine List.forall_mem_cons.mpr ⟨⟨zg3 40 (by decide +kernel) (by decide +kernel), zg3 23 (by decide +kernel) (by decide +kernel), zg1 148 (by decide +kernel) (by decide +kernel), zg3 21 (by decide +kernel) (by decide +kernel)⟩, ?_⟩
  refine List.forall_mem_cons.mpr ⟨⟨zg3 69 (by decide +kernel) (by decide +kernel), zg3 46 (by decide +kernel) (by decide +kernel), zg1 148 (by decide +kernel) (by decide +kernel), zg3 44 (by decide +kernel) (by decide +kernel)⟩, ?_⟩
  refine List.forall_mem_cons.mpr ⟨⟨zg3 97 (by decide +kernel) (by decide +kernel), zg3 79 (by decide +kernel) (by decide +kernel), zg1 148 (by decide +kernel) (by decide +kernel), zg3 77 (by decide +kernel) (by decide +kernel)⟩, ?_⟩
  exact List.forall_mem_nil _
theorem zsel_of {q : MethodName × Nat} (h : q ∈ lw_privs) (g : goodWord (Cond.selects q.1.cls q.1 q.1) = true) : Cond.selects q.1.cls q.1 q.1 ∈ zGL := List.mem_filter.mpr ⟨List.mem_append_left _ (List.mem_map.mpr ⟨q, h, rfl⟩), g⟩
theorem zVT_ok : ∀ q ∈ zVT, Cond.methodLink (zR q.1) q.2.1 (zY q.2.2.2.1) ∈ zGL ∧ Cond.instanceMethod (zY q.2.2.2.1) ∈ zGL ∧ Cond.selects (zR q.2.2.1) (zY q.2.2.2.1) (zY q.2.2.2.1) ∈ zGL := by
  unfold zVT
  refine List.forall_mem_cons.mpr ⟨⟨zg3 182 (by decide +kernel) (by decide +kernel), zg3 183 (by decide +kernel) (by decide +kernel), zg3 184 (by decide +kernel) (by decide +kernel)⟩, ?_⟩
  refine List.forall_mem_cons.mpr ⟨⟨zg2 39 (by decide +kernel) (by decide +kernel), zg2 41 (by decide +kernel) (by decide +kernel), zsel_of (q := (zY 50, 10)) (by decide +kernel) (by decide +kernel)⟩, ?_⟩
  refine List.forall_mem_cons.mpr ⟨⟨zg2 91 (by decide +kernel) (by decide +kernel), zg2 93 (by decide +kernel) (by decide +kernel), zsel_of (q := (zY 39, 10)) (by decide +kernel) (by decide +kernel)⟩, ?_⟩
  refine List.forall_mem_cons.mpr ⟨⟨zg2 95 (by decide +kernel) (by decide +kernel), zg2 97 (by decide +kernel) (by decide +kernel), zsel_of (q := (zY 47, 10)) (by decide +kernel) (by decide +kernel)⟩, ?_⟩
  refine List.forall_mem_cons.mpr ⟨⟨zg2 107 (by decide +kernel) (by decide +kernel), zg2 109 (by decide +kernel) (by decide +kernel), zsel_of (q := (zY 40, 10)) (by decide +kernel) (by decide +kernel)⟩, ?_⟩
  refine List.forall_mem_cons.mpr ⟨⟨zg2 111 (by decide +kernel) (by decide +kernel), zg2 113 (by decide +kernel) (by decide +kernel), zsel_of (q := (zY 41, 10)) (by decide +kernel) (by decide +kernel)⟩, ?_⟩
  refine List.forall_mem_cons.mpr ⟨⟨zg2 99 (by decide +kernel) (by decide +kernel), zg2 101 (by decide +kernel) (by decide +kernel), zsel_of (q := (zY 49, 10)) (by decide +kernel) (by decide +kernel)⟩, ?_⟩
  refine List.forall_mem_cons.mpr ⟨⟨zg2 123 (by decide +kernel) (by decide +kernel), zg2 124 (by decide +kernel) (by decide +kernel), zg2 125 (by decide +kernel) (by decide +kernel)⟩, ?_⟩
  refine List.forall_mem_cons.mpr ⟨⟨zg2 115 (by decide +kernel) (by decide +kernel), zg2 117 (by decide +kernel) (by decide +kernel), zsel_of (q := (zY 42, 10)) (by decide +kernel) (by decide +kernel)⟩, ?_⟩
  refine List.forall_mem_cons.mpr ⟨⟨zg2 119 (by decide +kernel) (by decide +kernel), zg2 121 (by decide +kernel) (by decide +kernel), zsel_of (q := (zY 46, 10)) (by decide +kernel) (by decide +kernel)⟩, ?_⟩
  refine List.forall_mem_cons.mpr ⟨⟨zg2 127 (by decide +kernel) (by decide +kernel), zg2 129 (by decide +kernel) (by decide +kernel), zsel_of (q := (zY 43, 10)) (by decide +kernel) (by decide +kernel)⟩, ?_⟩
  refine List.forall_mem_cons.mpr ⟨⟨zg2 131 (by decide +kernel) (by decide +kernel), zg2 133 (by decide +kernel) (by decide +kernel), zsel_of (q := (zY 44, 10)) (by decide +kernel) (by decide +kernel)⟩, ?_⟩
  refine List.forall_mem_cons.mpr ⟨⟨zg2 135 (by decide +kernel) (by decide +kernel), zg2 137 (by decide +kernel) (by decide +kernel), zsel_of (q := (zY 45, 10)) (by decide +kernel) (by decide +kernel)⟩, ?_⟩
  refine List.forall_mem_cons.mpr ⟨⟨zg2 103 (by decide +kernel) (by decide +kernel), zg2 105 (by decide +kernel) (by decide +kernel), zsel_of (q := (zY 48, 10)) (by decide +kernel) (by decide +kernel)⟩, ?_⟩
  refine List.forall_mem_cons.mpr ⟨⟨zg2 43 (by decide +kernel) (by decide +kernel), zg2 45 (by decide +kernel) (by decide +kernel), zsel_of (q := (zY 52, 10)) (by decide +kernel) (by decide +kernel)⟩, ?_⟩
  refine List.forall_mem_cons.mpr ⟨⟨zg2 77 (by decide +kernel) (by decide +kernel), zg2 79 (by decide +kernel) (by decide +kernel), zsel_of (q := (zY 51, 10)) (by decide +kernel) (by decide +kernel)⟩, ?_⟩
  refine List.forall_mem_cons.mpr ⟨⟨zg2 47 (by decide +kernel) (by decide +kernel), zg2 49 (by decide +kernel) (by decide +kernel), zsel_of (q := (zY 53, 10)) (by decide +kernel) (by decide +kernel)⟩, ?_⟩
  refine List.forall_mem_cons.mpr ⟨⟨zg2 81 (by decide +kernel) (by decide +kernel), zg2 83 (by decide +kernel) (by decide +kernel), zsel_of (q := (zY 54, 10)) (by decide +kernel) (by decide +kernel)⟩, ?_⟩
  refine List.forall_mem_cons.mpr ⟨⟨zg2 51 (by decide +kernel) (by decide +kernel), zg2 53 (by decide +kernel) (by decide +kernel), zsel_of (q := (zY 56, 10)) (by decide +kernel) (by decide +kernel)⟩, ?_⟩
  refine List.forall_mem_cons.mpr ⟨⟨zg2 67 (by decide +kernel) (by decide +kernel), zg2 69 (by decide +kernel) (by decide +kernel), zsel_of (q := (zY 57, 10)) (by decide +kernel) (by decide +kernel)⟩, ?_⟩
  refine List.forall_mem_cons.mpr ⟨⟨zg2 56 (by decide +kernel) (by decide +kernel), zg2 58 (by decide +kernel) (by decide +kernel), zsel_of (q := (zY 58, 10)) (by decide +kernel) (by decide +kernel)⟩, ?_⟩
  refine List.forall_mem_cons.mpr ⟨⟨zg2 31 (by decide +kernel) (by decide +kernel), zg2 32 (by decide +kernel) (by decide +kernel), zg2 33 (by decide +kernel) (by decide +kernel)⟩, ?_⟩
  refine List.forall_mem_cons.mpr ⟨⟨zg2 35 (by decide +kernel) (by decide +kernel), zg2 36 (by decide +kernel) (by decide +kernel), zg2 37 (by decide +kernel) (by decide +kernel)⟩, ?_⟩
  refine List.forall_mem_cons.mpr ⟨⟨zg2 184 (by decide +kernel) (by decide +kernel), zg2 185 (by decide +kernel) (by decide +kernel), zg2 186 (by decide +kernel) (by decide +kernel)⟩, ?_⟩
  refine List.forall_mem_cons.mpr ⟨⟨zg2 191 (by decide +kernel) (by decide +kernel), zg2 192 (by decide +kernel) (by decide +kernel), zg2 193 (by decide +kernel) (by decide +kernel)⟩, ?_⟩
  refine List.forall_mem_cons.mpr ⟨⟨zg2 195 (by decide +kernel) (by decide +kernel), zg2 196 (by decide +kernel) (by decide +kernel), zg2 197 (by decide +kernel) (by decide +kernel)⟩, ?_⟩
  refine List.forall_mem_cons.mpr ⟨⟨zg2 218 (by decide +kernel) (by decide +kernel), zg2 220 (by decide +kernel) (by decide +kernel), zsel_of (q := (zY 94, 13)) (by decide +kernel) (by decide +kernel)⟩, ?_⟩
  refine List.forall_mem_cons.mpr ⟨⟨zg2 226 (by decide +kernel) (by decide +kernel), zg2 228 (by decide +kernel) (by decide +kernel), zsel_of (q := (zY 93, 13)) (by decide +kernel) (by decide +kernel)⟩, ?_⟩
  refine List.forall_mem_cons.mpr ⟨⟨zg3 72 (by decide +kernel) (by decide +kernel), zg3 74 (by decide +kernel) (by decide +kernel), zsel_of (q := (zY 95, 13)) (by decide +kernel) (by decide +kernel)⟩, ?_⟩
  refine List.forall_mem_cons.mpr ⟨⟨zg3 99 (by decide +kernel) (by decide +kernel), zg3 101 (by decide +kernel) (by decide +kernel), zsel_of (q := (zY 96, 13)) (by decide +kernel) (by decide +kernel)⟩, ?_⟩
  refine List.forall_mem_cons.mpr ⟨⟨zg3 141 (by decide +kernel) (by decide +kernel), zg3 142 (by decide +kernel) (by decide +kernel), zg3 143 (by decide +kernel) (by decide +kernel)⟩, ?_⟩
  refine List.forall_mem_cons.mpr ⟨⟨zg3 145 (by decide +kernel) (by decide +kernel), zg3 147 (by decide +kernel) (by decide +kernel), zsel_of (q := (zY 98, 13)) (by decide +kernel) (by decide +kernel)⟩, ?_⟩
  refine List.forall_mem_cons.mpr ⟨⟨zg3 157 (by decide +kernel) (by decide +kernel), zg3 159 (by decide +kernel) (by decide +kernel), zsel_of (q := (zY 99, 13)) (by decide +kernel) (by decide +kernel)⟩, ?_⟩
  refine List.forall_mem_cons.mpr ⟨⟨zg3 174 (by decide +kernel) (by decide +kernel), zg3 176 (by decide +kernel) (by decide +kernel), zsel_of (q := (zY 91, 13)) (by decide +kernel) (by decide +kernel)⟩, ?_⟩
  refine List.forall_mem_cons.mpr ⟨⟨zg3 178 (by decide +kernel) (by decide +kernel), zg3 179 (by decide +kernel) (by decide +kernel), zg3 180 (by decide +kernel) (by decide +kernel)⟩, ?_⟩
  refine List.forall_mem_cons.mpr ⟨⟨zg2 222 (by decide +kernel) (by decide +kernel), zg2 224 (by decide +kernel) (by decide +kernel), zsel_of (q := (zY 92, 13)) (by decide +kernel) (by decide +kernel)⟩, ?_⟩
  refine List.forall_mem_cons.mpr ⟨⟨zg2 230 (by decide +kernel) (by decide +kernel), zg2 232 (by decide +kernel) (by decide +kernel), zsel_of (q := (zY 87, 13)) (by decide +kernel) (by decide +kernel)⟩, ?_⟩
  refine List.forall_mem_cons.mpr ⟨⟨zg2 234 (by decide +kernel) (by decide +kernel), zg2 235 (by decide +kernel) (by decide +kernel), zg2 236 (by decide +kernel) (by decide +kernel)⟩, ?_⟩
  refine List.forall_mem_cons.mpr ⟨⟨zg3 20 (by decide +kernel) (by decide +kernel), zg3 21 (by decide +kernel) (by decide +kernel), zg3 22 (by decide +kernel) (by decide +kernel)⟩, ?_⟩
  refine List.forall_mem_cons.mpr ⟨⟨zg3 43 (by decide +kernel) (by decide +kernel), zg3 44 (by decide +kernel) (by decide +kernel), zg3 45 (by decide +kernel) (by decide +kernel)⟩, ?_⟩
  refine List.forall_mem_cons.mpr ⟨⟨zg3 76 (by decide +kernel) (by decide +kernel), zg3 77 (by decide +kernel) (by decide +kernel), zg3 78 (by decide +kernel) (by decide +kernel)⟩, ?_⟩
  refine List.forall_mem_cons.mpr ⟨⟨zg3 103 (by decide +kernel) (by decide +kernel), zg3 104 (by decide +kernel) (by decide +kernel), zg3 105 (by decide +kernel) (by decide +kernel)⟩, ?_⟩
  refine List.forall_mem_cons.mpr ⟨⟨zg3 161 (by decide +kernel) (by decide +kernel), zg3 162 (by decide +kernel) (by decide +kernel), zg3 163 (by decide +kernel) (by decide +kernel)⟩, ?_⟩
  refine List.forall_mem_cons.mpr ⟨⟨zg3 165 (by decide +kernel) (by decide +kernel), zg3 167 (by decide +kernel) (by decide +kernel), zsel_of (q := (zY 100, 13)) (by decide +kernel) (by decide +kernel)⟩, ?_⟩
  refine List.forall_mem_cons.mpr ⟨⟨zg3 190 (by decide +kernel) (by decide +kernel), zg3 192 (by decide +kernel) (by decide +kernel), zsel_of (q := (zY 97, 13)) (by decide +kernel) (by decide +kernel)⟩, ?_⟩
  refine List.forall_mem_cons.mpr ⟨⟨zg3 198 (by decide +kernel) (by decide +kernel), zg3 200 (by decide +kernel) (by decide +kernel), zsel_of (q := (zY 106, 13)) (by decide +kernel) (by decide +kernel)⟩, ?_⟩
  refine List.forall_mem_cons.mpr ⟨⟨zg3 206 (by decide +kernel) (by decide +kernel), zg3 208 (by decide +kernel) (by decide +kernel), zsel_of (q := (zY 108, 13)) (by decide +kernel) (by decide +kernel)⟩, ?_⟩
  refine List.forall_mem_cons.mpr ⟨⟨zg3 229 (by decide +kernel) (by decide +kernel), zg3 231 (by decide +kernel) (by decide +kernel), zsel_of (q := (zY 116, 13)) (by decide +kernel) (by decide +kernel)⟩, ?_⟩
  refine List.forall_mem_cons.mpr ⟨⟨zg3 233 (by decide +kernel) (by decide +kernel), zg3 235 (by decide +kernel) (by decide +kernel), zsel_of (q := (zY 114, 13)) (by decide +kernel) (by decide +kernel)⟩, ?_⟩
  refine List.forall_mem_cons.mpr ⟨⟨zg3 237 (by decide +kernel) (by decide +kernel), zg3 239 (by decide +kernel) (by decide +kernel), zsel_of (q := (zY 115, 13)) (by decide +kernel) (by decide +kernel)⟩, ?_⟩
  refine List.forall_mem_cons.mpr ⟨⟨zg4 5 (by decide +kernel) (by decide +kernel), zg4 6 (by decide +kernel) (by decide +kernel), zg4 7 (by decide +kernel) (by decide +kernel)⟩, ?_⟩
  refine List.forall_mem_cons.mpr ⟨⟨zg4 10 (by decide +kernel) (by decide +kernel), zg4 11 (by decide +kernel) (by decide +kernel), zg4 12 (by decide +kernel) (by decide +kernel)⟩, ?_⟩
  refine List.forall_mem_cons.mpr ⟨⟨zg4 18 (by decide +kernel) (by decide +kernel), zg4 20 (by decide +kernel) (by decide +kernel), zsel_of (q := (zY 120, 13)) (by decide +kernel) (by decide +kernel)⟩, ?_⟩
  refine List.forall_mem_cons.mpr ⟨⟨zg4 47 (by decide +kernel) (by decide +kernel), zg4 48 (by decide +kernel) (by decide +kernel), zg4 49 (by decide +kernel) (by decide +kernel)⟩, ?_⟩
  refine List.forall_mem_cons.mpr ⟨⟨zg4 62 (by decide +kernel) (by decide +kernel), zg2 200 (by decide +kernel) (by decide +kernel), zg2 201 (by decide +kernel) (by decide +kernel)⟩, ?_⟩
  refine List.forall_mem_cons.mpr ⟨⟨zg4 67 (by decide +kernel) (by decide +kernel), zg4 68 (by decide +kernel) (by decide +kernel), zg4 69 (by decide +kernel) (by decide +kernel)⟩, ?_⟩
  refine List.forall_mem_cons.mpr ⟨⟨zg4 98 (by decide +kernel) (by decide +kernel), zg4 100 (by decide +kernel) (by decide +kernel), zsel_of (q := (zY 133, 45)) (by decide +kernel) (by decide +kernel)⟩, ?_⟩
  refine List.forall_mem_cons.mpr ⟨⟨zg5 10 (by decide +kernel) (by decide +kernel), zg5 12 (by decide +kernel) (by decide +kernel), zsel_of (q := (zY 134, 45)) (by decide +kernel) (by decide +kernel)⟩, ?_⟩
  refine List.forall_mem_cons.mpr ⟨⟨zg5 6 (by decide +kernel) (by decide +kernel), zg5 8 (by decide +kernel) (by decide +kernel), zsel_of (q := (zY 135, 45)) (by decide +kernel) (by decide +kernel)⟩, ?_⟩
  refine List.forall_mem_cons.mpr ⟨⟨zg5 17 (by decide +kernel) (by decide +kernel), zg5 18 (by decide +kernel) (by decide +kernel), zg5 19 (by decide +kernel) (by decide +kernel)⟩, ?_⟩
  refine List.forall_mem_cons.mpr ⟨⟨zg5 22 (by decide +kernel) (by decide +kernel), zg5 24 (by decide +kernel) (by decide +kernel), zsel_of (q := (zY 138, 45)) (by decide +kernel) (by decide +kernel)⟩, ?_⟩
  refine List.forall_mem_cons.mpr ⟨⟨zg5 56 (by decide +kernel) (by decide +kernel), zg5 58 (by decide +kernel) (by decide +kernel), zsel_of (q := (zY 143, 45)) (by decide +kernel) (by decide +kernel)⟩, ?_⟩
  refine List.forall_mem_cons.mpr ⟨⟨zg5 69 (by decide +kernel) (by decide +kernel), zg5 71 (by decide +kernel) (by decide +kernel), zsel_of (q := (zY 146, 45)) (by decide +kernel) (by decide +kernel)⟩, ?_⟩
  refine List.forall_mem_cons.mpr ⟨⟨zg5 77 (by decide +kernel) (by decide +kernel), zg5 79 (by decide +kernel) (by decide +kernel), zsel_of (q := (zY 145, 45)) (by decide +kernel) (by decide +kernel)⟩, ?_⟩
  refine List.forall_mem_cons.mpr ⟨⟨zg5 52 (by decide +kernel) (by decide +kernel), zg5 54 (by decide +kernel) (by decide +kernel), zsel_of (q := (zY 144, 45)) (by decide +kernel) (by decide +kernel)⟩, ?_⟩
  refine List.forall_mem_cons.mpr ⟨⟨zg5 65 (by decide +kernel) (by decide +kernel), zg5 67 (by decide +kernel) (by decide +kernel), zsel_of (q := (zY 147, 45)) (by decide +kernel) (by decide +kernel)⟩, ?_⟩
  refine List.forall_mem_cons.mpr ⟨⟨zg5 109 (by decide +kernel) (by decide +kernel), zg5 111 (by decide +kernel) (by decide +kernel), zsel_of (q := (zY 148, 45)) (by decide +kernel) (by decide +kernel)⟩, ?_⟩
  refine List.forall_mem_cons.mpr ⟨⟨zg5 93 (by decide +kernel) (by decide +kernel), zg5 95 (by decide +kernel) (by decide +kernel), zsel_of (q := (zY 149, 45)) (by decide +kernel) (by decide +kernel)⟩, ?_⟩
  refine List.forall_mem_cons.mpr ⟨⟨zg5 105 (by decide +kernel) (by decide +kernel), zg5 107 (by decide +kernel) (by decide +kernel), zsel_of (q := (zY 151, 45)) (by decide +kernel) (by decide +kernel)⟩, ?_⟩
  refine List.forall_mem_cons.mpr ⟨⟨zg5 81 (by decide +kernel) (by decide +kernel), zg5 83 (by decide +kernel) (by decide +kernel), zsel_of (q := (zY 156, 45)) (by decide +kernel) (by decide +kernel)⟩, ?_⟩
  refine List.forall_mem_cons.mpr ⟨⟨zg5 113 (by decide +kernel) (by decide +kernel), zg5 115 (by decide +kernel) (by decide +kernel), zsel_of (q := (zY 150, 45)) (by decide +kernel) (by decide +kernel)⟩, ?_⟩
  refine List.forall_mem_cons.mpr ⟨⟨zg5 101 (by decide +kernel) (by decide +kernel), zg5 103 (by decide +kernel) (by decide +kernel), zsel_of (q := (zY 152, 45)) (by decide +kernel) (by decide +kernel)⟩, ?_⟩
  refine List.forall_mem_cons.mpr ⟨⟨zg5 89 (by decide +kernel) (by decide +kernel), zg5 91 (by decide +kernel) (by decide +kernel), zsel_of (q := (zY 154, 45)) (by decide +kernel) (by decide +kernel)⟩, ?_⟩
  refine List.forall_mem_cons.mpr ⟨⟨zg5 97 (by decide +kernel) (by decide +kernel), zg5 99 (by decide +kernel) (by decide +kernel), zsel_of (q := (zY 153, 45)) (by decide +kernel) (by decide +kernel)⟩, ?_⟩
  refine List.forall_mem_cons.mpr ⟨⟨zg5 85 (by decide +kernel) (by decide +kernel), zg5 87 (by decide +kernel) (by decide +kernel), zsel_of (q := (zY 155, 45)) (by decide +kernel) (by decide +kernel)⟩, ?_⟩
  refine List.forall_mem_cons.mpr ⟨⟨zg5 73 (by decide +kernel) (by decide +kernel), zg5 75 (by decide +kernel) (by decide +kernel), zsel_of (q := (zY 157, 45)) (by decide +kernel) (by decide +kernel)⟩, ?_⟩
  refine List.forall_mem_cons.mpr ⟨⟨zg5 48 (by decide +kernel) (by decide +kernel), zg5 50 (by decide +kernel) (by decide +kernel), zsel_of (q := (zY 158, 45)) (by decide +kernel) (by decide +kernel)⟩, ?_⟩
  refine List.forall_mem_cons.mpr ⟨⟨zg5 132 (by decide +kernel) (by decide +kernel), zg5 134 (by decide +kernel) (by decide +kernel), zsel_of (q := (zY 162, 45)) (by decide +kernel) (by decide +kernel)⟩, ?_⟩
  refine List.forall_mem_cons.mpr ⟨⟨zg5 140 (by decide +kernel) (by decide +kernel), zg5 142 (by decide +kernel) (by decide +kernel), zsel_of (q := (zY 163, 45)) (by decide +kernel) (by decide +kernel)⟩, ?_⟩
  refine List.forall_mem_cons.mpr ⟨⟨zg5 136 (by decide +kernel) (by decide +kernel), zg5 138 (by decide +kernel) (by decide +kernel), zsel_of (q := (zY 164, 45)) (by decide +kernel) (by decide +kernel)⟩, ?_⟩
  refine List.forall_mem_cons.mpr ⟨⟨zg5 128 (by decide +kernel) (by decide +kernel), zg5 130 (by decide +kernel) (by decide +kernel), zsel_of (q := (zY 165, 45)) (by decide +kernel) (by decide +kernel)⟩, ?_⟩
  refine List.forall_mem_cons.mpr ⟨⟨zg5 150 (by decide +kernel) (by decide +kernel), zg5 152 (by decide +kernel) (by decide +kernel), zsel_of (q := (zY 166, 45)) (by decide +kernel) (by decide +kernel)⟩, ?_⟩
  refine List.forall_mem_cons.mpr ⟨⟨zg5 154 (by decide +kernel) (by decide +kernel), zg5 156 (by decide +kernel) (by decide +kernel), zsel_of (q := (zY 167, 45)) (by decide +kernel) (by decide +kernel)⟩, ?_⟩
  refine List.forall_mem_cons.mpr ⟨⟨zg5 176 (by decide +kernel) (by decide +kernel), zg5 178 (by decide +kernel) (by decide +kernel), zsel_of (q := (zY 172, 45)) (by decide +kernel) (by decide +kernel)⟩, ?_⟩
  refine List.forall_mem_cons.mpr ⟨⟨zg5 172 (by decide +kernel) (by decide +kernel), zg5 174 (by decide +kernel) (by decide +kernel), zsel_of (q := (zY 173, 45)) (by decide +kernel) (by decide +kernel)⟩, ?_⟩
  refine List.forall_mem_cons.mpr ⟨⟨zg5 187 (by decide +kernel) (by decide +kernel), zg5 189 (by decide +kernel) (by decide +kernel), zsel_of (q := (zY 175, 45)) (by decide +kernel) (by decide +kernel)⟩, ?_⟩
  refine List.forall_mem_cons.mpr ⟨⟨zg5 191 (by decide +kernel) (by decide +kernel), zg5 193 (by decide +kernel) (by decide +kernel), zsel_of (q := (zY 176, 45)) (by decide +kernel) (by decide +kernel)⟩, ?_⟩
  refine List.forall_mem_cons.mpr ⟨⟨zg5 199 (by decide +kernel) (by decide +kernel), zg5 201 (by decide +kernel) (by decide +kernel), zsel_of (q := (zY 169, 45)) (by decide +kernel) (by decide +kernel)⟩, ?_⟩
  refine List.forall_mem_cons.mpr ⟨⟨zg5 207 (by decide +kernel) (by decide +kernel), zg5 209 (by decide +kernel) (by decide +kernel), zsel_of (q := (zY 179, 45)) (by decide +kernel) (by decide +kernel)⟩, ?_⟩
  refine List.forall_mem_cons.mpr ⟨⟨zg5 231 (by decide +kernel) (by decide +kernel), zg5 233 (by decide +kernel) (by decide +kernel), zsel_of (q := (zY 185, 45)) (by decide +kernel) (by decide +kernel)⟩, ?_⟩
  refine List.forall_mem_cons.mpr ⟨⟨zg5 235 (by decide +kernel) (by decide +kernel), zg5 237 (by decide +kernel) (by decide +kernel), zsel_of (q := (zY 186, 45)) (by decide +kernel) (by decide +kernel)⟩, ?_⟩
  refine List.forall_mem_cons.mpr ⟨⟨zg6 3 (by decide +kernel) (by decide +kernel), zg6 4 (by decide +kernel) (by decide +kernel), zg6 5 (by decide +kernel) (by decide +kernel)⟩, ?_⟩
  refine List.forall_mem_cons.mpr ⟨⟨zg6 14 (by decide +kernel) (by decide +kernel), zg6 16 (by decide +kernel) (by decide +kernel), zsel_of (q := (zY 189, 45)) (by decide +kernel) (by decide +kernel)⟩, ?_⟩
  refine List.forall_mem_cons.mpr ⟨⟨zg6 48 (by decide +kernel) (by decide +kernel), zg5 27 (by decide +kernel) (by decide +kernel), zg5 28 (by decide +kernel) (by decide +kernel)⟩, ?_⟩
  refine List.forall_mem_cons.mpr ⟨⟨zg2 180 (by decide +kernel) (by decide +kernel), zg2 181 (by decide +kernel) (by decide +kernel), zg2 182 (by decide +kernel) (by decide +kernel)⟩, ?_⟩
  refine List.forall_mem_cons.mpr ⟨⟨zg4 238 (by decide +kernel) (by decide +kernel), zg4 239 (by decide +kernel) (by decide +kernel), zg5 0 (by decide +kernel) (by decide +kernel)⟩, ?_⟩
  refine List.forall_mem_cons.mpr ⟨⟨zg2 199 (by decide +kernel) (by decide +kernel), zg2 200 (by decide +kernel) (by decide +kernel), zg2 201 (by decide +kernel) (by decide +kernel)⟩, ?_⟩
  refine List.forall_mem_cons.mpr ⟨⟨zg5 26 (by decide +kernel) (by decide +kernel), zg5 27 (by decide +kernel) (by decide +kernel), zg5 28 (by decide +kernel) (by decide +kernel)⟩, ?_⟩
  refine List.forall_mem_cons.mpr ⟨⟨zg2 206 (by decide +kernel) (by decide +kernel), zg2 207 (by decide +kernel) (by decide +kernel), zg2 208 (by decide +kernel) (by decide +kernel)⟩, ?_⟩
  refine List.forall_mem_cons.mpr ⟨⟨zg5 34 (by decide +kernel) (by decide +kernel), zg5 18 (by decide +kernel) (by decide +kernel), zg5 19 (by decide +kernel) (by decide +kernel)⟩, ?_⟩
  refine List.forall_mem_cons.mpr ⟨⟨zg2 210 (by decide +kernel) (by decide +kernel), zg2 211 (by decide +kernel) (by decide +kernel), zg2 212 (by decide +kernel) (by decide +kernel)⟩, ?_⟩
  refine List.forall_mem_cons.mpr ⟨⟨zg5 35 (by decide +kernel) (by decide +kernel), zg5 36 (by decide +kernel) (by decide +kernel), zg5 37 (by decide +kernel) (by decide +kernel)⟩, ?_⟩
  refine List.forall_mem_cons.mpr ⟨⟨zg2 214 (by decide +kernel) (by decide +kernel), zg2 215 (by decide +kernel) (by decide +kernel), zg2 216 (by decide +kernel) (by decide +kernel)⟩, ?_⟩
  refine List.forall_mem_cons.mpr ⟨⟨zg5 123 (by decide +kernel) (by decide +kernel), zg5 124 (by decide +kernel) (by decide +kernel), zg5 125 (by decide +kernel) (by decide +kernel)⟩, ?_⟩
  refine List.forall_mem_cons.mpr ⟨⟨zg3 122 (by decide +kernel) (by decide +kernel), zg3 123 (by decide +kernel) (by decide +kernel), zg3 124 (by decide +kernel) (by decide +kernel)⟩, ?_⟩
  refine List.forall_mem_cons.mpr ⟨⟨zg5 39 (by decide +kernel) (by decide +kernel), zg5 40 (by decide +kernel) (by decide +kernel), zg5 41 (by decide +kernel) (by decide +kernel)⟩, ?_⟩
  refine List.forall_mem_cons.mpr ⟨⟨zg3 126 (by decide +kernel) (by decide +kernel), zg3 127 (by decide +kernel) (by decide +kernel), zg3 128 (by decide +kernel) (by decide +kernel)⟩, ?_⟩
  refine List.forall_mem_cons.mpr ⟨⟨zg5 44 (by decide +kernel) (by decide +kernel), zg5 45 (by decide +kernel) (by decide +kernel), zg5 46 (by decide +kernel) (by decide +kernel)⟩, ?_⟩
  refine List.forall_mem_cons.mpr ⟨⟨zg3 130 (by decide +kernel) (by decide +kernel), zg3 131 (by decide +kernel) (by decide +kernel), zg3 132 (by decide +kernel) (by decide +kernel)⟩, ?_⟩
  refine List.forall_mem_cons.mpr ⟨⟨zg5 119 (by decide +kernel) (by decide +kernel), zg5 120 (by decide +kernel) (by decide +kernel), zg5 121 (by decide +kernel) (by decide +kernel)⟩, ?_⟩
  refine List.forall_mem_cons.mpr ⟨⟨zg3 134 (by decide +kernel) (by decide +kernel), zg3 135 (by decide +kernel) (by decide +kernel), zg3 136 (by decide +kernel) (by decide +kernel)⟩, ?_⟩
  refine List.forall_mem_cons.mpr ⟨⟨zg5 158 (by decide +kernel) (by decide +kernel), zg5 159 (by decide +kernel) (by decide +kernel), zg5 160 (by decide +kernel) (by decide +kernel)⟩, ?_⟩
  refine List.forall_mem_cons.mpr ⟨⟨zg3 153 (by decide +kernel) (by decide +kernel), zg3 154 (by decide +kernel) (by decide +kernel), zg3 155 (by decide +kernel) (by decide +kernel)⟩, ?_⟩
  refine List.forall_mem_cons.mpr ⟨⟨zg5 168 (by decide +kernel) (by decide +kernel), zg5 169 (by decide +kernel) (by decide +kernel), zg5 170 (by decide +kernel) (by decide +kernel)⟩, ?_⟩
  refine List.forall_mem_cons.mpr ⟨⟨zg3 170 (by decide +kernel) (by decide +kernel), zg3 171 (by decide +kernel) (by decide +kernel), zg3 172 (by decide +kernel) (by decide +kernel)⟩, ?_⟩
  refine List.forall_mem_cons.mpr ⟨⟨zg5 180 (by decide +kernel) (by decide +kernel), zg5 181 (by decide +kernel) (by decide +kernel), zg5 182 (by decide +kernel) (by decide +kernel)⟩, ?_⟩
  refine List.forall_mem_cons.mpr ⟨⟨zg3 186 (by decide +kernel) (by decide +kernel), zg3 187 (by decide +kernel) (by decide +kernel), zg3 188 (by decide +kernel) (by decide +kernel)⟩, ?_⟩
  refine List.forall_mem_cons.mpr ⟨⟨zg5 195 (by decide +kernel) (by decide +kernel), zg5 196 (by decide +kernel) (by decide +kernel), zg5 197 (by decide +kernel) (by decide +kernel)⟩, ?_⟩
  refine List.forall_mem_cons.mpr ⟨⟨zg3 194 (by decide +kernel) (by decide +kernel), zg3 195 (by decide +kernel) (by decide +kernel), zg3 196 (by decide +kernel) (by decide +kernel)⟩, ?_⟩
  refine List.forall_mem_cons.mpr ⟨⟨zg5 203 (by decide +kernel) (by decide +kernel), zg5 204 (by decide +kernel) (by decide +kernel), zg5 205 (by decide +kernel) (by decide +kernel)⟩, ?_⟩
  refine List.forall_mem_cons.mpr ⟨⟨zg3 202 (by decide +kernel) (by decide +kernel), zg3 203 (by decide +kernel) (by decide +kernel), zg3 204 (by decide +kernel) (by decide +kernel)⟩, ?_⟩
  refine List.forall_mem_cons.mpr ⟨⟨zg5 211 (by decide +kernel) (by decide +kernel), zg5 212 (by decide +kernel) (by decide +kernel), zg5 213 (by decide +kernel) (by decide +kernel)⟩, ?_⟩
  refine List.forall_mem_cons.mpr ⟨⟨zg3 210 (by decide +kernel) (by decide +kernel), zg3 211 (by decide +kernel) (by decide +kernel), zg3 212 (by decide +kernel) (by decide +kernel)⟩, ?_⟩
  refine List.forall_mem_cons.mpr ⟨⟨zg5 215 (by decide +kernel) (by decide +kernel), zg5 216 (by decide +kernel) (by decide +kernel), zg5 217 (by decide +kernel) (by decide +kernel)⟩, ?_⟩
  refine List.forall_mem_cons.mpr ⟨⟨zg3 214 (by decide +kernel) (by decide +kernel), zg3 215 (by decide +kernel) (by decide +kernel), zg3 216 (by decide +kernel) (by decide +kernel)⟩, ?_⟩
  refine List.forall_mem_cons.mpr ⟨⟨zg5 219 (by decide +kernel) (by decide +kernel), zg5 220 (by decide +kernel) (by decide +kernel), zg5 221 (by decide +kernel) (by decide +kernel)⟩, ?_⟩
  refine List.forall_mem_cons.mpr ⟨⟨zg3 225 (by decide +kernel) (by decide +kernel), zg3 226 (by decide +kernel) (by decide +kernel), zg3 227 (by decide +kernel) (by decide +kernel)⟩, ?_⟩
  refine List.forall_mem_cons.mpr ⟨⟨zg5 227 (by decide +kernel) (by decide +kernel), zg5 228 (by decide +kernel) (by decide +kernel), zg5 229 (by decide +kernel) (by decide +kernel)⟩, ?_⟩
  refine List.forall_mem_cons.mpr ⟨⟨zg4 1 (by decide +kernel) (by decide +kernel), zg4 2 (by decide +kernel) (by decide +kernel), zg4 3 (by decide +kernel) (by decide +kernel)⟩, ?_⟩
  refine List.forall_mem_cons.mpr ⟨⟨zg5 239 (by decide +kernel) (by decide +kernel), zg6 0 (by decide +kernel) (by decide +kernel), zg6 1 (by decide +kernel) (by decide +kernel)⟩, ?_⟩
  refine List.forall_mem_cons.mpr ⟨⟨zg4 14 (by decide +kernel) (by decide +kernel), zg4 15 (by decide +kernel) (by decide +kernel), zg4 16 (by decide +kernel) (by decide +kernel)⟩, ?_⟩
  refine List.forall_mem_cons.mpr ⟨⟨zg6 9 (by decide +kernel) (by decide +kernel), zg6 10 (by decide +kernel) (by decide +kernel), zg6 11 (by decide +kernel) (by decide +kernel)⟩, ?_⟩
  refine List.forall_mem_cons.mpr ⟨⟨zg4 23 (by decide +kernel) (by decide +kernel), zg4 24 (by decide +kernel) (by decide +kernel), zg4 25 (by decide +kernel) (by decide +kernel)⟩, ?_⟩
  refine List.forall_mem_cons.mpr ⟨⟨zg6 19 (by decide +kernel) (by decide +kernel), zg6 20 (by decide +kernel) (by decide +kernel), zg6 21 (by decide +kernel) (by decide +kernel)⟩, ?_⟩
  refine List.forall_mem_cons.mpr ⟨⟨zg4 27 (by decide +kernel) (by decide +kernel), zg4 28 (by decide +kernel) (by decide +kernel), zg4 29 (by decide +kernel) (by decide +kernel)⟩, ?_⟩
  refine List.forall_mem_cons.mpr ⟨⟨zg6 23 (by decide +kernel) (by decide +kernel), zg6 24 (by decide +kernel) (by decide +kernel), zg6 25 (by decide +kernel) (by decide +kernel)⟩, ?_⟩
  refine List.forall_mem_cons.mpr ⟨⟨zg4 31 (by decide +kernel) (by decide +kernel), zg4 32 (by decide +kernel) (by decide +kernel), zg4 33 (by decide +kernel) (by decide +kernel)⟩, ?_⟩
  refine List.forall_mem_cons.mpr ⟨⟨zg6 27 (by decide +kernel) (by decide +kernel), zg6 28 (by decide +kernel) (by decide +kernel), zg6 29 (by decide +kernel) (by decide +kernel)⟩, ?_⟩
  refine List.forall_mem_cons.mpr ⟨⟨zg4 35 (by decide +kernel) (by decide +kernel), zg4 36 (by decide +kernel) (by decide +kernel), zg4 37 (by decide +kernel) (by decide +kernel)⟩, ?_⟩
  refine List.forall_mem_cons.mpr ⟨⟨zg6 31 (by decide +kernel) (by decide +kernel), zg6 32 (by decide +kernel) (by decide +kernel), zg6 33 (by decide +kernel) (by decide +kernel)⟩, ?_⟩
  refine List.forall_mem_cons.mpr ⟨⟨zg4 39 (by decide +kernel) (by decide +kernel), zg4 40 (by decide +kernel) (by decide +kernel), zg4 41 (by decide +kernel) (by decide +kernel)⟩, ?_⟩
  refine List.forall_mem_cons.mpr ⟨⟨zg6 35 (by decide +kernel) (by decide +kernel), zg6 4 (by decide +kernel) (by decide +kernel), zg6 5 (by decide +kernel) (by decide +kernel)⟩, ?_⟩
  refine List.forall_mem_cons.mpr ⟨⟨zg4 43 (by decide +kernel) (by decide +kernel), zg4 44 (by decide +kernel) (by decide +kernel), zg4 45 (by decide +kernel) (by decide +kernel)⟩, ?_⟩
  refine List.forall_mem_cons.mpr ⟨⟨zg6 36 (by decide +kernel) (by decide +kernel), zg6 37 (by decide +kernel) (by decide +kernel), zg6 38 (by decide +kernel) (by decide +kernel)⟩, ?_⟩
  refine List.forall_mem_cons.mpr ⟨⟨zg4 51 (by decide +kernel) (by decide +kernel), zg4 52 (by decide +kernel) (by decide +kernel), zg4 53 (by decide +kernel) (by decide +kernel)⟩, ?_⟩
  refine List.forall_mem_cons.mpr ⟨⟨zg6 40 (by decide +kernel) (by decide +kernel), zg6 41 (by decide +kernel) (by decide +kernel), zg6 42 (by decide +kernel) (by decide +kernel)⟩, ?_⟩
  refine List.forall_mem_cons.mpr ⟨⟨zg4 58 (by decide +kernel) (by decide +kernel), zg4 59 (by decide +kernel) (by decide +kernel), zg4 60 (by decide +kernel) (by decide +kernel)⟩, ?_⟩
  refine List.forall_mem_cons.mpr ⟨⟨zg6 44 (by decide +kernel) (by decide +kernel), zg6 45 (by decide +kernel) (by decide +kernel), zg6 46 (by decide +kernel) (by decide +kernel)⟩, ?_⟩
  refine List.forall_mem_cons.mpr ⟨⟨zg4 63 (by decide +kernel) (by decide +kernel), zg4 64 (by decide +kernel) (by decide +kernel), zg4 65 (by decide +kernel) (by decide +kernel)⟩, ?_⟩
  refine List.forall_mem_cons.mpr ⟨⟨zg6 49 (by decide +kernel) (by decide +kernel), zg6 50 (by decide +kernel) (by decide +kernel), zg6 51 (by decide +kernel) (by decide +kernel)⟩, ?_⟩
  exact List.forall_mem_nil _
theorem zWT_ok : ∀ q ∈ zWT, Cond.methodLink (zR q.1) q.2.1 (zY q.2.2.2.2.2) ∈ zGL ∧ Cond.sameMethod (zY q.2.2.2.2.2).cls (zY q.2.2.2.2.2).cls (zY q.2.2.2.2.2).name (zY q.2.2.2.2.2).desc ∈ zGL ∧ Cond.instanceMethod (zY q.2.2.2.2.2) ∈ zGL ∧ Cond.selects (zR q.2.2.1) (zY q.2.2.2.2.2) (zY q.2.2.2.1) ∈ zGL ∧ Cond.instanceMethod (zY q.2.2.2.1) ∈ zGL := by
  unfold zWT
  refine List.forall_mem_cons.mpr ⟨⟨zg3 20 (by decide +kernel) (by decide +kernel), zg3 23 (by decide +kernel) (by decide +kernel), zg3 21 (by decide +kernel) (by decide +kernel), zg3 24 (by decide +kernel) (by decide +kernel), zg3 25 (by decide +kernel) (by decide +kernel)⟩, ?_⟩
  refine List.forall_mem_cons.mpr ⟨⟨zg3 20 (by decide +kernel) (by decide +kernel), zg3 23 (by decide +kernel) (by decide +kernel), zg3 21 (by decide +kernel) (by decide +kernel), zg3 28 (by decide +kernel) (by decide +kernel), zg3 29 (by decide +kernel) (by decide +kernel)⟩, ?_⟩
  refine List.forall_mem_cons.mpr ⟨⟨zg3 20 (by decide +kernel) (by decide +kernel), zg3 23 (by decide +kernel) (by decide +kernel), zg3 21 (by decide +kernel) (by decide +kernel), zg3 32 (by decide +kernel) (by decide +kernel), zg3 29 (by decide +kernel) (by decide +kernel)⟩, ?_⟩
  refine List.forall_mem_cons.mpr ⟨⟨zg3 20 (by decide +kernel) (by decide +kernel), zg3 23 (by decide +kernel) (by decide +kernel), zg3 21 (by decide +kernel) (by decide +kernel), zg3 33 (by decide +kernel) (by decide +kernel), zg3 34 (by decide +kernel) (by decide +kernel)⟩, ?_⟩
  refine List.forall_mem_cons.mpr ⟨⟨zg3 20 (by decide +kernel) (by decide +kernel), zg3 23 (by decide +kernel) (by decide +kernel), zg3 21 (by decide +kernel) (by decide +kernel), zg3 37 (by decide +kernel) (by decide +kernel), zg3 38 (by decide +kernel) (by decide +kernel)⟩, ?_⟩
  refine List.forall_mem_cons.mpr ⟨⟨zg3 43 (by decide +kernel) (by decide +kernel), zg3 46 (by decide +kernel) (by decide +kernel), zg3 44 (by decide +kernel) (by decide +kernel), zg3 47 (by decide +kernel) (by decide +kernel), zg3 48 (by decide +kernel) (by decide +kernel)⟩, ?_⟩
  refine List.forall_mem_cons.mpr ⟨⟨zg3 43 (by decide +kernel) (by decide +kernel), zg3 46 (by decide +kernel) (by decide +kernel), zg3 44 (by decide +kernel) (by decide +kernel), zg3 51 (by decide +kernel) (by decide +kernel), zg3 52 (by decide +kernel) (by decide +kernel)⟩, ?_⟩
  refine List.forall_mem_cons.mpr ⟨⟨zg3 43 (by decide +kernel) (by decide +kernel), zg3 46 (by decide +kernel) (by decide +kernel), zg3 44 (by decide +kernel) (by decide +kernel), zg3 55 (by decide +kernel) (by decide +kernel), zg3 56 (by decide +kernel) (by decide +kernel)⟩, ?_⟩
  refine List.forall_mem_cons.mpr ⟨⟨zg3 43 (by decide +kernel) (by decide +kernel), zg3 46 (by decide +kernel) (by decide +kernel), zg3 44 (by decide +kernel) (by decide +kernel), zg3 59 (by decide +kernel) (by decide +kernel), zg3 60 (by decide +kernel) (by decide +kernel)⟩, ?_⟩
  refine List.forall_mem_cons.mpr ⟨⟨zg3 43 (by decide +kernel) (by decide +kernel), zg3 46 (by decide +kernel) (by decide +kernel), zg3 44 (by decide +kernel) (by decide +kernel), zg3 66 (by decide +kernel) (by decide +kernel), zg3 67 (by decide +kernel) (by decide +kernel)⟩, ?_⟩
  refine List.forall_mem_cons.mpr ⟨⟨zg3 76 (by decide +kernel) (by decide +kernel), zg3 79 (by decide +kernel) (by decide +kernel), zg3 77 (by decide +kernel) (by decide +kernel), zg3 80 (by decide +kernel) (by decide +kernel), zg3 81 (by decide +kernel) (by decide +kernel)⟩, ?_⟩
  refine List.forall_mem_cons.mpr ⟨⟨zg3 76 (by decide +kernel) (by decide +kernel), zg3 79 (by decide +kernel) (by decide +kernel), zg3 77 (by decide +kernel) (by decide +kernel), zg3 84 (by decide +kernel) (by decide +kernel), zg3 85 (by decide +kernel) (by decide +kernel)⟩, ?_⟩
  refine List.forall_mem_cons.mpr ⟨⟨zg3 76 (by decide +kernel) (by decide +kernel), zg3 79 (by decide +kernel) (by decide +kernel), zg3 77 (by decide +kernel) (by decide +kernel), zg3 87 (by decide +kernel) (by decide +kernel), zg3 88 (by decide +kernel) (by decide +kernel)⟩, ?_⟩
  refine List.forall_mem_cons.mpr ⟨⟨zg3 76 (by decide +kernel) (by decide +kernel), zg3 79 (by decide +kernel) (by decide +kernel), zg3 77 (by decide +kernel) (by decide +kernel), zg3 90 (by decide +kernel) (by decide +kernel), zg3 91 (by decide +kernel) (by decide +kernel)⟩, ?_⟩
  refine List.forall_mem_cons.mpr ⟨⟨zg3 76 (by decide +kernel) (by decide +kernel), zg3 79 (by decide +kernel) (by decide +kernel), zg3 77 (by decide +kernel) (by decide +kernel), zg3 94 (by decide +kernel) (by decide +kernel), zg3 95 (by decide +kernel) (by decide +kernel)⟩, ?_⟩
  refine List.forall_mem_cons.mpr ⟨⟨zg3 103 (by decide +kernel) (by decide +kernel), zg3 106 (by decide +kernel) (by decide +kernel), zg3 104 (by decide +kernel) (by decide +kernel), zg3 107 (by decide +kernel) (by decide +kernel), zg3 108 (by decide +kernel) (by decide +kernel)⟩, ?_⟩
  refine List.forall_mem_cons.mpr ⟨⟨zg3 103 (by decide +kernel) (by decide +kernel), zg3 106 (by decide +kernel) (by decide +kernel), zg3 104 (by decide +kernel) (by decide +kernel), zg3 111 (by decide +kernel) (by decide +kernel), zg3 112 (by decide +kernel) (by decide +kernel)⟩, ?_⟩
  refine List.forall_mem_cons.mpr ⟨⟨zg3 103 (by decide +kernel) (by decide +kernel), zg3 106 (by decide +kernel) (by decide +kernel), zg3 104 (by decide +kernel) (by decide +kernel), zg3 114 (by decide +kernel) (by decide +kernel), zg3 115 (by decide +kernel) (by decide +kernel)⟩, ?_⟩
  refine List.forall_mem_cons.mpr ⟨⟨zg3 103 (by decide +kernel) (by decide +kernel), zg3 106 (by decide +kernel) (by decide +kernel), zg3 104 (by decide +kernel) (by decide +kernel), zg3 117 (by decide +kernel) (by decide +kernel), zg3 108 (by decide +kernel) (by decide +kernel)⟩, ?_⟩
  refine List.forall_mem_cons.mpr ⟨⟨zg3 103 (by decide +kernel) (by decide +kernel), zg3 106 (by decide +kernel) (by decide +kernel), zg3 104 (by decide +kernel) (by decide +kernel), zg3 118 (by decide +kernel) (by decide +kernel), zg3 119 (by decide +kernel) (by decide +kernel)⟩, ?_⟩
  refine List.forall_mem_cons.mpr ⟨⟨zg4 67 (by decide +kernel) (by decide +kernel), zg4 70 (by decide +kernel) (by decide +kernel), zg4 68 (by decide +kernel) (by decide +kernel), zg4 71 (by decide +kernel) (by decide +kernel), zg4 72 (by decide +kernel) (by decide +kernel)⟩, ?_⟩
  refine List.forall_mem_cons.mpr ⟨⟨zg4 67 (by decide +kernel) (by decide +kernel), zg4 70 (by decide +kernel) (by decide +kernel), zg4 68 (by decide +kernel) (by decide +kernel), zg4 75 (by decide +kernel) (by decide +kernel), zg4 76 (by decide +kernel) (by decide +kernel)⟩, ?_⟩
  refine List.forall_mem_cons.mpr ⟨⟨zg4 67 (by decide +kernel) (by decide +kernel), zg4 70 (by decide +kernel) (by decide +kernel), zg4 68 (by decide +kernel) (by decide +kernel), zg4 79 (by decide +kernel) (by decide +kernel), zg4 80 (by decide +kernel) (by decide +kernel)⟩, ?_⟩
  refine List.forall_mem_cons.mpr ⟨⟨zg4 67 (by decide +kernel) (by decide +kernel), zg4 70 (by decide +kernel) (by decide +kernel), zg4 68 (by decide +kernel) (by decide +kernel), zg4 83 (by decide +kernel) (by decide +kernel), zg4 84 (by decide +kernel) (by decide +kernel)⟩, ?_⟩
  refine List.forall_mem_cons.mpr ⟨⟨zg4 67 (by decide +kernel) (by decide +kernel), zg4 70 (by decide +kernel) (by decide +kernel), zg4 68 (by decide +kernel) (by decide +kernel), zg4 87 (by decide +kernel) (by decide +kernel), zg4 88 (by decide +kernel) (by decide +kernel)⟩, ?_⟩
  exact List.forall_mem_nil _
theorem zCT_ok : ∀ q ∈ zCT, Cond.classLink (zR q.1) q.2.1 (zR q.2.2) ∈ zGL ∧ Cond.instantiable (zR q.2.2) (zNF q.2.2) ∈ zGL ∧ Cond.initialized (zR q.2.2) ∈ zGL := by
  unfold zCT
  refine List.forall_mem_cons.mpr ⟨⟨zg1 37 (by decide +kernel) (by decide +kernel), zg1 39 (by decide +kernel) (by decide +kernel), zg1 3 (by decide +kernel) (by decide +kernel)⟩, ?_⟩
  refine List.forall_mem_cons.mpr ⟨⟨zg1 31 (by decide +kernel) (by decide +kernel), zg1 32 (by decide +kernel) (by decide +kernel), zg1 2 (by decide +kernel) (by decide +kernel)⟩, ?_⟩
  refine List.forall_mem_cons.mpr ⟨⟨zg1 29 (by decide +kernel) (by decide +kernel), zg1 108 (by decide +kernel) (by decide +kernel), zg1 4 (by decide +kernel) (by decide +kernel)⟩, ?_⟩
  refine List.forall_mem_cons.mpr ⟨⟨zg1 114 (by decide +kernel) (by decide +kernel), zg1 115 (by decide +kernel) (by decide +kernel), zg1 5 (by decide +kernel) (by decide +kernel)⟩, ?_⟩
  refine List.forall_mem_cons.mpr ⟨⟨zg1 121 (by decide +kernel) (by decide +kernel), zg1 122 (by decide +kernel) (by decide +kernel), zg1 6 (by decide +kernel) (by decide +kernel)⟩, ?_⟩
  refine List.forall_mem_cons.mpr ⟨⟨zg1 128 (by decide +kernel) (by decide +kernel), zg1 129 (by decide +kernel) (by decide +kernel), zg1 7 (by decide +kernel) (by decide +kernel)⟩, ?_⟩
  refine List.forall_mem_cons.mpr ⟨⟨zg1 135 (by decide +kernel) (by decide +kernel), zg1 136 (by decide +kernel) (by decide +kernel), zg1 8 (by decide +kernel) (by decide +kernel)⟩, ?_⟩
  refine List.forall_mem_cons.mpr ⟨⟨zg1 142 (by decide +kernel) (by decide +kernel), zg1 143 (by decide +kernel) (by decide +kernel), zg1 9 (by decide +kernel) (by decide +kernel)⟩, ?_⟩
  refine List.forall_mem_cons.mpr ⟨⟨zg1 106 (by decide +kernel) (by decide +kernel), zg1 149 (by decide +kernel) (by decide +kernel), zg1 10 (by decide +kernel) (by decide +kernel)⟩, ?_⟩
  refine List.forall_mem_cons.mpr ⟨⟨zg1 104 (by decide +kernel) (by decide +kernel), zg1 167 (by decide +kernel) (by decide +kernel), zg1 11 (by decide +kernel) (by decide +kernel)⟩, ?_⟩
  refine List.forall_mem_cons.mpr ⟨⟨zg1 184 (by decide +kernel) (by decide +kernel), zg1 185 (by decide +kernel) (by decide +kernel), zg1 12 (by decide +kernel) (by decide +kernel)⟩, ?_⟩
  refine List.forall_mem_cons.mpr ⟨⟨zg1 21 (by decide +kernel) (by decide +kernel), zg1 22 (by decide +kernel) (by decide +kernel), zg1 1 (by decide +kernel) (by decide +kernel)⟩, ?_⟩
  refine List.forall_mem_cons.mpr ⟨⟨zg4 92 (by decide +kernel) (by decide +kernel), zg4 93 (by decide +kernel) (by decide +kernel), zg1 18 (by decide +kernel) (by decide +kernel)⟩, ?_⟩
  exact List.forall_mem_nil _
def zAc (t : Nat) : Nat := zgt 0 [0, 0, 5, 8, 9, 10] t
theorem zAT_ok : ∀ q ∈ zAT, Cond.classLink (zR q.1) q.2.1 (zR (zAc q.2.2)) ∈ zGL := by
  unfold zAT
  refine List.forall_mem_cons.mpr ⟨zg1 37 (by decide +kernel) (by decide +kernel), ?_⟩
  refine List.forall_mem_cons.mpr ⟨zg1 29 (by decide +kernel) (by decide +kernel), ?_⟩
  refine List.forall_mem_cons.mpr ⟨zg1 104 (by decide +kernel) (by decide +kernel), ?_⟩
  refine List.forall_mem_cons.mpr ⟨zg1 106 (by decide +kernel) (by decide +kernel), ?_⟩
  exact List.forall_mem_nil _
theorem zAO_ok : ∀ c ∈ [5, 8, 9, 10], Cond.arrayOver (.object (zR c)) ∈ lw_tbl := by
  refine List.forall_mem_cons.mpr ⟨zt1 38 (by decide +kernel), ?_⟩
  refine List.forall_mem_cons.mpr ⟨zt1 107 (by decide +kernel), ?_⟩
  refine List.forall_mem_cons.mpr ⟨zt1 30 (by decide +kernel), ?_⟩
  refine List.forall_mem_cons.mpr ⟨zt1 105 (by decide +kernel), ?_⟩
  exact List.forall_mem_nil _
theorem zCA_ok : ∀ c ∈ [1, 2, 3, 4, 6], Cond.castable (zR c) RX9 ∈ lw_tbl := by
  refine List.forall_mem_cons.mpr ⟨zt6 63 (by decide +kernel), ?_⟩
  refine List.forall_mem_cons.mpr ⟨zt6 62 (by decide +kernel), ?_⟩
  refine List.forall_mem_cons.mpr ⟨zt6 64 (by decide +kernel), ?_⟩
  refine List.forall_mem_cons.mpr ⟨zt6 65 (by decide +kernel), ?_⟩
  refine List.forall_mem_cons.mpr ⟨zt6 66 (by decide +kernel), ?_⟩
  exact List.forall_mem_nil _
theorem zAI_ok : Cond.arrayClass .int ∈ zGL ∧ Cond.arrayClass .boolean ∈ zGL := ⟨zg1 74 (by decide +kernel) (by decide +kernel), zg4 237 (by decide +kernel) (by decide +kernel)⟩
def zSK : List (Nat × Nat) := [(11, 74), (7, 121), (7, 127), (7, 129), (7, 131), (7, 133), (7, 135), (7, 137), (7, 139), (7, 141), (7, 143), (7, 145), (7, 147)]
def zSX : List String := ["keeps memory ; tires 0 ; learns 0 ;", "words", "memory", "number", "day", "parts", "said", "keeps", "tires", "learns", "or", "and", "not"]
theorem zSR_ok : ∀ i, i < 13 → Cond.stringRef (zR (zgt (0, 0) zSK i).1) (zgt (0, 0) zSK i).2 (zgt "" zSX i) ∈ lw_tbl := by
  intro i hi
  match i, hi with
  | 0, _ => exact zt1 222 (by decide +kernel)
  | 1, _ => exact zt2 55 (by decide +kernel)
  | 2, _ => exact zt2 62 (by decide +kernel)
  | 3, _ => exact zt2 63 (by decide +kernel)
  | 4, _ => exact zt2 64 (by decide +kernel)
  | 5, _ => exact zt2 65 (by decide +kernel)
  | 6, _ => exact zt2 66 (by decide +kernel)
  | 7, _ => exact zt2 71 (by decide +kernel)
  | 8, _ => exact zt2 72 (by decide +kernel)
  | 9, _ => exact zt2 73 (by decide +kernel)
  | 10, _ => exact zt2 74 (by decide +kernel)
  | 11, _ => exact zt2 75 (by decide +kernel)
  | 12, _ => exact zt2 76 (by decide +kernel)
  | i + 13, h => exact absurd h (by omega)
theorem zGTs : ∀ q ∈ zGT, q.2.2 < 13 ∧ (q.1, q.2.1) = zgt (0, 0) zSK q.2.2 := by decide +kernel
theorem zKT_ok : ∀ q ∈ zKT, Cond.constant (zR q.1) q.2.1 (Int32.ofInt q.2.2) ∈ zGL := by
  unfold zKT
  refine List.forall_mem_cons.mpr ⟨zg4 22 (by decide +kernel) (by decide +kernel), ?_⟩
  refine List.forall_mem_cons.mpr ⟨zg6 18 (by decide +kernel) (by decide +kernel), ?_⟩
  refine List.forall_mem_cons.mpr ⟨zg3 4 (by decide +kernel) (by decide +kernel), ?_⟩
  refine List.forall_mem_cons.mpr ⟨zg3 5 (by decide +kernel) (by decide +kernel), ?_⟩
  refine List.forall_mem_cons.mpr ⟨zg3 6 (by decide +kernel) (by decide +kernel), ?_⟩
  exact List.forall_mem_nil _
theorem zLT_ok : ∀ q ∈ zLT, Cond.constantLong (zR q.1) q.2.1 (Int64.ofInt q.2.2) ∈ zGL := by
  unfold zLT
  refine List.forall_mem_cons.mpr ⟨zg3 218 (by decide +kernel) (by decide +kernel), ?_⟩
  refine List.forall_mem_cons.mpr ⟨zg5 2 (by decide +kernel) (by decide +kernel), ?_⟩
  refine List.forall_mem_cons.mpr ⟨zg5 30 (by decide +kernel) (by decide +kernel), ?_⟩
  refine List.forall_mem_cons.mpr ⟨zg5 31 (by decide +kernel) (by decide +kernel), ?_⟩
  refine List.forall_mem_cons.mpr ⟨zg5 32 (by decide +kernel) (by decide +kernel), ?_⟩
  refine List.forall_mem_cons.mpr ⟨zg5 33 (by decide +kernel) (by decide +kernel), ?_⟩
  refine List.forall_mem_cons.mpr ⟨zg5 21 (by decide +kernel) (by decide +kernel), ?_⟩
  refine List.forall_mem_cons.mpr ⟨zg5 43 (by decide +kernel) (by decide +kernel), ?_⟩
  refine List.forall_mem_cons.mpr ⟨zg5 60 (by decide +kernel) (by decide +kernel), ?_⟩
  refine List.forall_mem_cons.mpr ⟨zg5 61 (by decide +kernel) (by decide +kernel), ?_⟩
  refine List.forall_mem_cons.mpr ⟨zg5 62 (by decide +kernel) (by decide +kernel), ?_⟩
  refine List.forall_mem_cons.mpr ⟨zg5 63 (by decide +kernel) (by decide +kernel), ?_⟩
  refine List.forall_mem_cons.mpr ⟨zg5 64 (by decide +kernel) (by decide +kernel), ?_⟩
  refine List.forall_mem_cons.mpr ⟨zg5 117 (by decide +kernel) (by decide +kernel), ?_⟩
  refine List.forall_mem_cons.mpr ⟨zg5 118 (by decide +kernel) (by decide +kernel), ?_⟩
  refine List.forall_mem_cons.mpr ⟨zg5 127 (by decide +kernel) (by decide +kernel), ?_⟩
  refine List.forall_mem_cons.mpr ⟨zg5 184 (by decide +kernel) (by decide +kernel), ?_⟩
  refine List.forall_mem_cons.mpr ⟨zg5 185 (by decide +kernel) (by decide +kernel), ?_⟩
  refine List.forall_mem_cons.mpr ⟨zg5 186 (by decide +kernel) (by decide +kernel), ?_⟩
  refine List.forall_mem_cons.mpr ⟨zg5 223 (by decide +kernel) (by decide +kernel), ?_⟩
  refine List.forall_mem_cons.mpr ⟨zg6 13 (by decide +kernel) (by decide +kernel), ?_⟩
  refine List.forall_mem_cons.mpr ⟨zg6 7 (by decide +kernel) (by decide +kernel), ?_⟩
  refine List.forall_mem_cons.mpr ⟨zg6 8 (by decide +kernel) (by decide +kernel), ?_⟩
  exact List.forall_mem_nil _
theorem zKTr : ∀ q ∈ zKT, -2147483648 ≤ q.2.2 ∧ q.2.2 ≤ 2147483647 := by decide +kernel
theorem zLTr : ∀ q ∈ zLT, -9223372036854775808 ≤ q.2.2 ∧ q.2.2 ≤ 9223372036854775807 := by decide +kernel
theorem zYT_ok : ∀ q ∈ zYT, Cond.methodLink (zR q.1) q.2 arraycopyName ∈ zGL := by
  unfold zYT
  refine List.forall_mem_cons.mpr ⟨zg4 55 (by decide +kernel) (by decide +kernel), ?_⟩
  exact List.forall_mem_nil _
theorem zAY_ok : Cond.native arraycopyName ∈ zGL ∧ Cond.static arraycopyName ∈ zGL ∧ Cond.initialized "java/lang/System" ∈ zGL := ⟨zg4 57 (by decide +kernel) (by decide +kernel), zg4 56 (by decide +kernel) (by decide +kernel), zg1 20 (by decide +kernel) (by decide +kernel)⟩
theorem zMT_ok : ∀ k, k < 205 → Cond.code (zY k) (zB k) (zL k) (zTr k) ∈ zGL ∧ Cond.initialized (zY k).cls ∈ zGL := by
  intro k hk
  match k, hk with
  | 0, _ => exact ⟨zg1 35 (by decide +kernel) (by decide +kernel), zg1 2 (by decide +kernel) (by decide +kernel)⟩
  | 1, _ => exact ⟨zg2 187 (by decide +kernel) (by decide +kernel), zg1 2 (by decide +kernel) (by decide +kernel)⟩
  | 2, _ => exact ⟨zg3 164 (by decide +kernel) (by decide +kernel), zg1 2 (by decide +kernel) (by decide +kernel)⟩
  | 3, _ => exact ⟨zg3 181 (by decide +kernel) (by decide +kernel), zg1 2 (by decide +kernel) (by decide +kernel)⟩
  | 4, _ => exact ⟨zg1 125 (by decide +kernel) (by decide +kernel), zg1 6 (by decide +kernel) (by decide +kernel)⟩
  | 5, _ => exact ⟨zg4 73 (by decide +kernel) (by decide +kernel), zg1 6 (by decide +kernel) (by decide +kernel)⟩
  | 6, _ => exact ⟨zg3 26 (by decide +kernel) (by decide +kernel), zg1 6 (by decide +kernel) (by decide +kernel)⟩
  | 7, _ => exact ⟨zg3 49 (by decide +kernel) (by decide +kernel), zg1 6 (by decide +kernel) (by decide +kernel)⟩
  | 8, _ => exact ⟨zg3 82 (by decide +kernel) (by decide +kernel), zg1 6 (by decide +kernel) (by decide +kernel)⟩
  | 9, _ => exact ⟨zg3 109 (by decide +kernel) (by decide +kernel), zg1 6 (by decide +kernel) (by decide +kernel)⟩
  | 10, _ => exact ⟨zg1 118 (by decide +kernel) (by decide +kernel), zg1 5 (by decide +kernel) (by decide +kernel)⟩
  | 11, _ => exact ⟨zg4 77 (by decide +kernel) (by decide +kernel), zg1 5 (by decide +kernel) (by decide +kernel)⟩
  | 12, _ => exact ⟨zg3 30 (by decide +kernel) (by decide +kernel), zg1 5 (by decide +kernel) (by decide +kernel)⟩
  | 13, _ => exact ⟨zg3 53 (by decide +kernel) (by decide +kernel), zg1 5 (by decide +kernel) (by decide +kernel)⟩
  | 14, _ => exact ⟨zg3 86 (by decide +kernel) (by decide +kernel), zg1 5 (by decide +kernel) (by decide +kernel)⟩
  | 15, _ => exact ⟨zg3 113 (by decide +kernel) (by decide +kernel), zg1 5 (by decide +kernel) (by decide +kernel)⟩
  | 16, _ => exact ⟨zg1 132 (by decide +kernel) (by decide +kernel), zg1 7 (by decide +kernel) (by decide +kernel)⟩
  | 17, _ => exact ⟨zg4 81 (by decide +kernel) (by decide +kernel), zg1 7 (by decide +kernel) (by decide +kernel)⟩
  | 18, _ => exact ⟨zg3 57 (by decide +kernel) (by decide +kernel), zg1 7 (by decide +kernel) (by decide +kernel)⟩
  | 19, _ => exact ⟨zg3 89 (by decide +kernel) (by decide +kernel), zg1 7 (by decide +kernel) (by decide +kernel)⟩
  | 20, _ => exact ⟨zg3 116 (by decide +kernel) (by decide +kernel), zg1 7 (by decide +kernel) (by decide +kernel)⟩
  | 21, _ => exact ⟨zg1 139 (by decide +kernel) (by decide +kernel), zg1 8 (by decide +kernel) (by decide +kernel)⟩
  | 22, _ => exact ⟨zg4 85 (by decide +kernel) (by decide +kernel), zg1 8 (by decide +kernel) (by decide +kernel)⟩
  | 23, _ => exact ⟨zg3 35 (by decide +kernel) (by decide +kernel), zg1 8 (by decide +kernel) (by decide +kernel)⟩
  | 24, _ => exact ⟨zg3 61 (by decide +kernel) (by decide +kernel), zg1 8 (by decide +kernel) (by decide +kernel)⟩
  | 25, _ => exact ⟨zg3 92 (by decide +kernel) (by decide +kernel), zg1 8 (by decide +kernel) (by decide +kernel)⟩
  | 26, _ => exact ⟨zg1 42 (by decide +kernel) (by decide +kernel), zg1 3 (by decide +kernel) (by decide +kernel)⟩
  | 27, _ => exact ⟨zg2 194 (by decide +kernel) (by decide +kernel), zg1 3 (by decide +kernel) (by decide +kernel)⟩
  | 28, _ => exact ⟨zg2 198 (by decide +kernel) (by decide +kernel), zg1 3 (by decide +kernel) (by decide +kernel)⟩
  | 29, _ => exact ⟨zg3 185 (by decide +kernel) (by decide +kernel), zg1 3 (by decide +kernel) (by decide +kernel)⟩
  | 30, _ => exact ⟨zg1 146 (by decide +kernel) (by decide +kernel), zg1 9 (by decide +kernel) (by decide +kernel)⟩
  | 31, _ => exact ⟨zg4 89 (by decide +kernel) (by decide +kernel), zg1 9 (by decide +kernel) (by decide +kernel)⟩
  | 32, _ => exact ⟨zg3 39 (by decide +kernel) (by decide +kernel), zg1 9 (by decide +kernel) (by decide +kernel)⟩
  | 33, _ => exact ⟨zg3 68 (by decide +kernel) (by decide +kernel), zg1 9 (by decide +kernel) (by decide +kernel)⟩
  | 34, _ => exact ⟨zg3 96 (by decide +kernel) (by decide +kernel), zg1 9 (by decide +kernel) (by decide +kernel)⟩
  | 35, _ => exact ⟨zg3 120 (by decide +kernel) (by decide +kernel), zg1 9 (by decide +kernel) (by decide +kernel)⟩
  | 36, _ => exact ⟨zg1 188 (by decide +kernel) (by decide +kernel), zg1 12 (by decide +kernel) (by decide +kernel)⟩
  | 37, _ => exact ⟨zg2 34 (by decide +kernel) (by decide +kernel), zg1 12 (by decide +kernel) (by decide +kernel)⟩
  | 38, _ => exact ⟨zg2 38 (by decide +kernel) (by decide +kernel), zg1 12 (by decide +kernel) (by decide +kernel)⟩
  | 39, _ => exact ⟨zg2 94 (by decide +kernel) (by decide +kernel), zg1 12 (by decide +kernel) (by decide +kernel)⟩
  | 40, _ => exact ⟨zg2 110 (by decide +kernel) (by decide +kernel), zg1 12 (by decide +kernel) (by decide +kernel)⟩
  | 41, _ => exact ⟨zg2 114 (by decide +kernel) (by decide +kernel), zg1 12 (by decide +kernel) (by decide +kernel)⟩
  | 42, _ => exact ⟨zg2 118 (by decide +kernel) (by decide +kernel), zg1 12 (by decide +kernel) (by decide +kernel)⟩
  | 43, _ => exact ⟨zg2 130 (by decide +kernel) (by decide +kernel), zg1 12 (by decide +kernel) (by decide +kernel)⟩
  | 44, _ => exact ⟨zg2 134 (by decide +kernel) (by decide +kernel), zg1 12 (by decide +kernel) (by decide +kernel)⟩
  | 45, _ => exact ⟨zg2 138 (by decide +kernel) (by decide +kernel), zg1 12 (by decide +kernel) (by decide +kernel)⟩
  | 46, _ => exact ⟨zg2 122 (by decide +kernel) (by decide +kernel), zg1 12 (by decide +kernel) (by decide +kernel)⟩
  | 47, _ => exact ⟨zg2 98 (by decide +kernel) (by decide +kernel), zg1 12 (by decide +kernel) (by decide +kernel)⟩
  | 48, _ => exact ⟨zg2 106 (by decide +kernel) (by decide +kernel), zg1 12 (by decide +kernel) (by decide +kernel)⟩
  | 49, _ => exact ⟨zg2 102 (by decide +kernel) (by decide +kernel), zg1 12 (by decide +kernel) (by decide +kernel)⟩
  | 50, _ => exact ⟨zg2 42 (by decide +kernel) (by decide +kernel), zg1 12 (by decide +kernel) (by decide +kernel)⟩
  | 51, _ => exact ⟨zg2 80 (by decide +kernel) (by decide +kernel), zg1 12 (by decide +kernel) (by decide +kernel)⟩
  | 52, _ => exact ⟨zg2 46 (by decide +kernel) (by decide +kernel), zg1 12 (by decide +kernel) (by decide +kernel)⟩
  | 53, _ => exact ⟨zg2 50 (by decide +kernel) (by decide +kernel), zg1 12 (by decide +kernel) (by decide +kernel)⟩
  | 54, _ => exact ⟨zg2 84 (by decide +kernel) (by decide +kernel), zg1 12 (by decide +kernel) (by decide +kernel)⟩
  | 55, _ => exact ⟨zg2 87 (by decide +kernel) (by decide +kernel), zg1 12 (by decide +kernel) (by decide +kernel)⟩
  | 56, _ => exact ⟨zg2 54 (by decide +kernel) (by decide +kernel), zg1 12 (by decide +kernel) (by decide +kernel)⟩
  | 57, _ => exact ⟨zg2 70 (by decide +kernel) (by decide +kernel), zg1 12 (by decide +kernel) (by decide +kernel)⟩
  | 58, _ => exact ⟨zg2 59 (by decide +kernel) (by decide +kernel), zg1 12 (by decide +kernel) (by decide +kernel)⟩
  | 59, _ => exact ⟨zg1 152 (by decide +kernel) (by decide +kernel), zg1 10 (by decide +kernel) (by decide +kernel)⟩
  | 60, _ => exact ⟨zg3 144 (by decide +kernel) (by decide +kernel), zg1 10 (by decide +kernel) (by decide +kernel)⟩
  | 61, _ => exact ⟨zg4 50 (by decide +kernel) (by decide +kernel), zg1 10 (by decide +kernel) (by decide +kernel)⟩
  | 62, _ => exact ⟨zg4 8 (by decide +kernel) (by decide +kernel), zg1 10 (by decide +kernel) (by decide +kernel)⟩
  | 63, _ => exact ⟨zg4 13 (by decide +kernel) (by decide +kernel), zg1 10 (by decide +kernel) (by decide +kernel)⟩
  | 64, _ => exact ⟨zg1 111 (by decide +kernel) (by decide +kernel), zg1 4 (by decide +kernel) (by decide +kernel)⟩
  | 65, _ => exact ⟨zg4 91 (by decide +kernel) (by decide +kernel), zg1 4 (by decide +kernel) (by decide +kernel)⟩
  | 66, _ => exact ⟨zg3 41 (by decide +kernel) (by decide +kernel), zg1 4 (by decide +kernel) (by decide +kernel)⟩
  | 67, _ => exact ⟨zg3 70 (by decide +kernel) (by decide +kernel), zg1 4 (by decide +kernel) (by decide +kernel)⟩
  | 68, _ => exact ⟨zg3 98 (by decide +kernel) (by decide +kernel), zg1 4 (by decide +kernel) (by decide +kernel)⟩
  | 69, _ => exact ⟨zg3 121 (by decide +kernel) (by decide +kernel), zg1 4 (by decide +kernel) (by decide +kernel)⟩
  | 70, _ => exact ⟨zg1 170 (by decide +kernel) (by decide +kernel), zg1 11 (by decide +kernel) (by decide +kernel)⟩
  | 71, _ => exact ⟨zg2 126 (by decide +kernel) (by decide +kernel), zg1 11 (by decide +kernel) (by decide +kernel)⟩
  | 72, _ => exact ⟨zg2 237 (by decide +kernel) (by decide +kernel), zg1 11 (by decide +kernel) (by decide +kernel)⟩
  | 73, _ => exact ⟨zg3 0 (by decide +kernel) (by decide +kernel), zg1 11 (by decide +kernel) (by decide +kernel)⟩
  | 74, _ => exact ⟨zg3 9 (by decide +kernel) (by decide +kernel), zg1 11 (by decide +kernel) (by decide +kernel)⟩
  | 75, _ => exact ⟨zg3 12 (by decide +kernel) (by decide +kernel), zg1 11 (by decide +kernel) (by decide +kernel)⟩
  | 76, _ => exact ⟨zg1 25 (by decide +kernel) (by decide +kernel), zg1 1 (by decide +kernel) (by decide +kernel)⟩
  | 77, _ => exact ⟨zg2 183 (by decide +kernel) (by decide +kernel), zg1 1 (by decide +kernel) (by decide +kernel)⟩
  | 78, _ => exact ⟨zg2 202 (by decide +kernel) (by decide +kernel), zg1 1 (by decide +kernel) (by decide +kernel)⟩
  | 79, _ => exact ⟨zg2 209 (by decide +kernel) (by decide +kernel), zg1 1 (by decide +kernel) (by decide +kernel)⟩
  | 80, _ => exact ⟨zg2 213 (by decide +kernel) (by decide +kernel), zg1 1 (by decide +kernel) (by decide +kernel)⟩
  | 81, _ => exact ⟨zg2 217 (by decide +kernel) (by decide +kernel), zg1 1 (by decide +kernel) (by decide +kernel)⟩
  | 82, _ => exact ⟨zg2 190 (by decide +kernel) (by decide +kernel), zg1 1 (by decide +kernel) (by decide +kernel)⟩
  | 83, _ => exact ⟨zg2 205 (by decide +kernel) (by decide +kernel), zg1 1 (by decide +kernel) (by decide +kernel)⟩
  | 84, _ => exact ⟨zg3 125 (by decide +kernel) (by decide +kernel), zg1 1 (by decide +kernel) (by decide +kernel)⟩
  | 85, _ => exact ⟨zg3 129 (by decide +kernel) (by decide +kernel), zg1 1 (by decide +kernel) (by decide +kernel)⟩
  | 86, _ => exact ⟨zg3 133 (by decide +kernel) (by decide +kernel), zg1 1 (by decide +kernel) (by decide +kernel)⟩
  | 87, _ => exact ⟨zg2 233 (by decide +kernel) (by decide +kernel), zg1 1 (by decide +kernel) (by decide +kernel)⟩
  | 88, _ => exact ⟨zg3 137 (by decide +kernel) (by decide +kernel), zg1 1 (by decide +kernel) (by decide +kernel)⟩
  | 89, _ => exact ⟨zg3 156 (by decide +kernel) (by decide +kernel), zg1 1 (by decide +kernel) (by decide +kernel)⟩
  | 90, _ => exact ⟨zg3 173 (by decide +kernel) (by decide +kernel), zg1 1 (by decide +kernel) (by decide +kernel)⟩
  | 91, _ => exact ⟨zg3 177 (by decide +kernel) (by decide +kernel), zg1 1 (by decide +kernel) (by decide +kernel)⟩
  | 92, _ => exact ⟨zg2 225 (by decide +kernel) (by decide +kernel), zg1 1 (by decide +kernel) (by decide +kernel)⟩
  | 93, _ => exact ⟨zg2 229 (by decide +kernel) (by decide +kernel), zg1 1 (by decide +kernel) (by decide +kernel)⟩
  | 94, _ => exact ⟨zg2 221 (by decide +kernel) (by decide +kernel), zg1 1 (by decide +kernel) (by decide +kernel)⟩
  | 95, _ => exact ⟨zg3 75 (by decide +kernel) (by decide +kernel), zg1 1 (by decide +kernel) (by decide +kernel)⟩
  | 96, _ => exact ⟨zg3 102 (by decide +kernel) (by decide +kernel), zg1 1 (by decide +kernel) (by decide +kernel)⟩
  | 97, _ => exact ⟨zg3 193 (by decide +kernel) (by decide +kernel), zg1 1 (by decide +kernel) (by decide +kernel)⟩
  | 98, _ => exact ⟨zg3 148 (by decide +kernel) (by decide +kernel), zg1 1 (by decide +kernel) (by decide +kernel)⟩
  | 99, _ => exact ⟨zg3 160 (by decide +kernel) (by decide +kernel), zg1 1 (by decide +kernel) (by decide +kernel)⟩
  | 100, _ => exact ⟨zg3 168 (by decide +kernel) (by decide +kernel), zg1 1 (by decide +kernel) (by decide +kernel)⟩
  | 101, _ => exact ⟨zg3 151 (by decide +kernel) (by decide +kernel), zg1 1 (by decide +kernel) (by decide +kernel)⟩
  | 102, _ => exact ⟨zg3 65 (by decide +kernel) (by decide +kernel), zg1 1 (by decide +kernel) (by decide +kernel)⟩
  | 103, _ => exact ⟨zg3 15 (by decide +kernel) (by decide +kernel), zg1 1 (by decide +kernel) (by decide +kernel)⟩
  | 104, _ => exact ⟨zg3 189 (by decide +kernel) (by decide +kernel), zg1 1 (by decide +kernel) (by decide +kernel)⟩
  | 105, _ => exact ⟨zg3 197 (by decide +kernel) (by decide +kernel), zg1 1 (by decide +kernel) (by decide +kernel)⟩
  | 106, _ => exact ⟨zg3 201 (by decide +kernel) (by decide +kernel), zg1 1 (by decide +kernel) (by decide +kernel)⟩
  | 107, _ => exact ⟨zg3 205 (by decide +kernel) (by decide +kernel), zg1 1 (by decide +kernel) (by decide +kernel)⟩
  | 108, _ => exact ⟨zg3 209 (by decide +kernel) (by decide +kernel), zg1 1 (by decide +kernel) (by decide +kernel)⟩
  | 109, _ => exact ⟨zg3 213 (by decide +kernel) (by decide +kernel), zg1 1 (by decide +kernel) (by decide +kernel)⟩
  | 110, _ => exact ⟨zg3 217 (by decide +kernel) (by decide +kernel), zg1 1 (by decide +kernel) (by decide +kernel)⟩
  | 111, _ => exact ⟨zg3 221 (by decide +kernel) (by decide +kernel), zg1 1 (by decide +kernel) (by decide +kernel)⟩
  | 112, _ => exact ⟨zg3 224 (by decide +kernel) (by decide +kernel), zg1 1 (by decide +kernel) (by decide +kernel)⟩
  | 113, _ => exact ⟨zg3 228 (by decide +kernel) (by decide +kernel), zg1 1 (by decide +kernel) (by decide +kernel)⟩
  | 114, _ => exact ⟨zg3 236 (by decide +kernel) (by decide +kernel), zg1 1 (by decide +kernel) (by decide +kernel)⟩
  | 115, _ => exact ⟨zg4 0 (by decide +kernel) (by decide +kernel), zg1 1 (by decide +kernel) (by decide +kernel)⟩
  | 116, _ => exact ⟨zg3 232 (by decide +kernel) (by decide +kernel), zg1 1 (by decide +kernel) (by decide +kernel)⟩
  | 117, _ => exact ⟨zg4 4 (by decide +kernel) (by decide +kernel), zg1 1 (by decide +kernel) (by decide +kernel)⟩
  | 118, _ => exact ⟨zg4 17 (by decide +kernel) (by decide +kernel), zg1 1 (by decide +kernel) (by decide +kernel)⟩
  | 119, _ => exact ⟨zg4 26 (by decide +kernel) (by decide +kernel), zg1 1 (by decide +kernel) (by decide +kernel)⟩
  | 120, _ => exact ⟨zg4 21 (by decide +kernel) (by decide +kernel), zg1 1 (by decide +kernel) (by decide +kernel)⟩
  | 121, _ => exact ⟨zg4 30 (by decide +kernel) (by decide +kernel), zg1 1 (by decide +kernel) (by decide +kernel)⟩
  | 122, _ => exact ⟨zg4 34 (by decide +kernel) (by decide +kernel), zg1 1 (by decide +kernel) (by decide +kernel)⟩
  | 123, _ => exact ⟨zg4 38 (by decide +kernel) (by decide +kernel), zg1 1 (by decide +kernel) (by decide +kernel)⟩
  | 124, _ => exact ⟨zg4 42 (by decide +kernel) (by decide +kernel), zg1 1 (by decide +kernel) (by decide +kernel)⟩
  | 125, _ => exact ⟨zg4 46 (by decide +kernel) (by decide +kernel), zg1 1 (by decide +kernel) (by decide +kernel)⟩
  | 126, _ => exact ⟨zg4 54 (by decide +kernel) (by decide +kernel), zg1 1 (by decide +kernel) (by decide +kernel)⟩
  | 127, _ => exact ⟨zg4 61 (by decide +kernel) (by decide +kernel), zg1 1 (by decide +kernel) (by decide +kernel)⟩
  | 128, _ => exact ⟨zg4 66 (by decide +kernel) (by decide +kernel), zg1 1 (by decide +kernel) (by decide +kernel)⟩
  | 129, _ => exact ⟨zg3 140 (by decide +kernel) (by decide +kernel), zg1 1 (by decide +kernel) (by decide +kernel)⟩
  | 130, _ => exact ⟨zg5 5 (by decide +kernel) (by decide +kernel), zg1 18 (by decide +kernel) (by decide +kernel)⟩
  | 131, _ => exact ⟨zg5 149 (by decide +kernel) (by decide +kernel), zg1 18 (by decide +kernel) (by decide +kernel)⟩
  | 132, _ => exact ⟨zg4 96 (by decide +kernel) (by decide +kernel), zg1 18 (by decide +kernel) (by decide +kernel)⟩
  | 133, _ => exact ⟨zg4 101 (by decide +kernel) (by decide +kernel), zg1 18 (by decide +kernel) (by decide +kernel)⟩
  | 134, _ => exact ⟨zg5 13 (by decide +kernel) (by decide +kernel), zg1 18 (by decide +kernel) (by decide +kernel)⟩
  | 135, _ => exact ⟨zg5 9 (by decide +kernel) (by decide +kernel), zg1 18 (by decide +kernel) (by decide +kernel)⟩
  | 136, _ => exact ⟨zg5 16 (by decide +kernel) (by decide +kernel), zg1 18 (by decide +kernel) (by decide +kernel)⟩
  | 137, _ => exact ⟨zg5 1 (by decide +kernel) (by decide +kernel), zg1 18 (by decide +kernel) (by decide +kernel)⟩
  | 138, _ => exact ⟨zg5 25 (by decide +kernel) (by decide +kernel), zg1 18 (by decide +kernel) (by decide +kernel)⟩
  | 139, _ => exact ⟨zg5 29 (by decide +kernel) (by decide +kernel), zg1 18 (by decide +kernel) (by decide +kernel)⟩
  | 140, _ => exact ⟨zg5 20 (by decide +kernel) (by decide +kernel), zg1 18 (by decide +kernel) (by decide +kernel)⟩
  | 141, _ => exact ⟨zg5 38 (by decide +kernel) (by decide +kernel), zg1 18 (by decide +kernel) (by decide +kernel)⟩
  | 142, _ => exact ⟨zg5 42 (by decide +kernel) (by decide +kernel), zg1 18 (by decide +kernel) (by decide +kernel)⟩
  | 143, _ => exact ⟨zg5 59 (by decide +kernel) (by decide +kernel), zg1 18 (by decide +kernel) (by decide +kernel)⟩
  | 144, _ => exact ⟨zg5 55 (by decide +kernel) (by decide +kernel), zg1 18 (by decide +kernel) (by decide +kernel)⟩
  | 145, _ => exact ⟨zg5 80 (by decide +kernel) (by decide +kernel), zg1 18 (by decide +kernel) (by decide +kernel)⟩
  | 146, _ => exact ⟨zg5 72 (by decide +kernel) (by decide +kernel), zg1 18 (by decide +kernel) (by decide +kernel)⟩
  | 147, _ => exact ⟨zg5 68 (by decide +kernel) (by decide +kernel), zg1 18 (by decide +kernel) (by decide +kernel)⟩
  | 148, _ => exact ⟨zg5 112 (by decide +kernel) (by decide +kernel), zg1 18 (by decide +kernel) (by decide +kernel)⟩
  | 149, _ => exact ⟨zg5 96 (by decide +kernel) (by decide +kernel), zg1 18 (by decide +kernel) (by decide +kernel)⟩
  | 150, _ => exact ⟨zg5 116 (by decide +kernel) (by decide +kernel), zg1 18 (by decide +kernel) (by decide +kernel)⟩
  | 151, _ => exact ⟨zg5 108 (by decide +kernel) (by decide +kernel), zg1 18 (by decide +kernel) (by decide +kernel)⟩
  | 152, _ => exact ⟨zg5 104 (by decide +kernel) (by decide +kernel), zg1 18 (by decide +kernel) (by decide +kernel)⟩
  | 153, _ => exact ⟨zg5 100 (by decide +kernel) (by decide +kernel), zg1 18 (by decide +kernel) (by decide +kernel)⟩
  | 154, _ => exact ⟨zg5 92 (by decide +kernel) (by decide +kernel), zg1 18 (by decide +kernel) (by decide +kernel)⟩
  | 155, _ => exact ⟨zg5 88 (by decide +kernel) (by decide +kernel), zg1 18 (by decide +kernel) (by decide +kernel)⟩
  | 156, _ => exact ⟨zg5 84 (by decide +kernel) (by decide +kernel), zg1 18 (by decide +kernel) (by decide +kernel)⟩
  | 157, _ => exact ⟨zg5 76 (by decide +kernel) (by decide +kernel), zg1 18 (by decide +kernel) (by decide +kernel)⟩
  | 158, _ => exact ⟨zg5 51 (by decide +kernel) (by decide +kernel), zg1 18 (by decide +kernel) (by decide +kernel)⟩
  | 159, _ => exact ⟨zg5 47 (by decide +kernel) (by decide +kernel), zg1 18 (by decide +kernel) (by decide +kernel)⟩
  | 160, _ => exact ⟨zg5 122 (by decide +kernel) (by decide +kernel), zg1 18 (by decide +kernel) (by decide +kernel)⟩
  | 161, _ => exact ⟨zg5 146 (by decide +kernel) (by decide +kernel), zg1 18 (by decide +kernel) (by decide +kernel)⟩
  | 162, _ => exact ⟨zg5 135 (by decide +kernel) (by decide +kernel), zg1 18 (by decide +kernel) (by decide +kernel)⟩
  | 163, _ => exact ⟨zg5 143 (by decide +kernel) (by decide +kernel), zg1 18 (by decide +kernel) (by decide +kernel)⟩
  | 164, _ => exact ⟨zg5 139 (by decide +kernel) (by decide +kernel), zg1 18 (by decide +kernel) (by decide +kernel)⟩
  | 165, _ => exact ⟨zg5 131 (by decide +kernel) (by decide +kernel), zg1 18 (by decide +kernel) (by decide +kernel)⟩
  | 166, _ => exact ⟨zg5 153 (by decide +kernel) (by decide +kernel), zg1 18 (by decide +kernel) (by decide +kernel)⟩
  | 167, _ => exact ⟨zg5 157 (by decide +kernel) (by decide +kernel), zg1 18 (by decide +kernel) (by decide +kernel)⟩
  | 168, _ => exact ⟨zg5 126 (by decide +kernel) (by decide +kernel), zg1 18 (by decide +kernel) (by decide +kernel)⟩
  | 169, _ => exact ⟨zg5 202 (by decide +kernel) (by decide +kernel), zg1 18 (by decide +kernel) (by decide +kernel)⟩
  | 170, _ => exact ⟨zg5 167 (by decide +kernel) (by decide +kernel), zg1 18 (by decide +kernel) (by decide +kernel)⟩
  | 171, _ => exact ⟨zg5 161 (by decide +kernel) (by decide +kernel), zg1 18 (by decide +kernel) (by decide +kernel)⟩
  | 172, _ => exact ⟨zg5 179 (by decide +kernel) (by decide +kernel), zg1 18 (by decide +kernel) (by decide +kernel)⟩
  | 173, _ => exact ⟨zg5 175 (by decide +kernel) (by decide +kernel), zg1 18 (by decide +kernel) (by decide +kernel)⟩
  | 174, _ => exact ⟨zg5 171 (by decide +kernel) (by decide +kernel), zg1 18 (by decide +kernel) (by decide +kernel)⟩
  | 175, _ => exact ⟨zg5 190 (by decide +kernel) (by decide +kernel), zg1 18 (by decide +kernel) (by decide +kernel)⟩
  | 176, _ => exact ⟨zg5 194 (by decide +kernel) (by decide +kernel), zg1 18 (by decide +kernel) (by decide +kernel)⟩
  | 177, _ => exact ⟨zg5 183 (by decide +kernel) (by decide +kernel), zg1 18 (by decide +kernel) (by decide +kernel)⟩
  | 178, _ => exact ⟨zg5 198 (by decide +kernel) (by decide +kernel), zg1 18 (by decide +kernel) (by decide +kernel)⟩
  | 179, _ => exact ⟨zg5 210 (by decide +kernel) (by decide +kernel), zg1 18 (by decide +kernel) (by decide +kernel)⟩
  | 180, _ => exact ⟨zg5 206 (by decide +kernel) (by decide +kernel), zg1 18 (by decide +kernel) (by decide +kernel)⟩
  | 181, _ => exact ⟨zg5 214 (by decide +kernel) (by decide +kernel), zg1 18 (by decide +kernel) (by decide +kernel)⟩
  | 182, _ => exact ⟨zg5 218 (by decide +kernel) (by decide +kernel), zg1 18 (by decide +kernel) (by decide +kernel)⟩
  | 183, _ => exact ⟨zg5 226 (by decide +kernel) (by decide +kernel), zg1 18 (by decide +kernel) (by decide +kernel)⟩
  | 184, _ => exact ⟨zg5 222 (by decide +kernel) (by decide +kernel), zg1 18 (by decide +kernel) (by decide +kernel)⟩
  | 185, _ => exact ⟨zg5 234 (by decide +kernel) (by decide +kernel), zg1 18 (by decide +kernel) (by decide +kernel)⟩
  | 186, _ => exact ⟨zg5 238 (by decide +kernel) (by decide +kernel), zg1 18 (by decide +kernel) (by decide +kernel)⟩
  | 187, _ => exact ⟨zg5 230 (by decide +kernel) (by decide +kernel), zg1 18 (by decide +kernel) (by decide +kernel)⟩
  | 188, _ => exact ⟨zg6 2 (by decide +kernel) (by decide +kernel), zg1 18 (by decide +kernel) (by decide +kernel)⟩
  | 189, _ => exact ⟨zg6 17 (by decide +kernel) (by decide +kernel), zg1 18 (by decide +kernel) (by decide +kernel)⟩
  | 190, _ => exact ⟨zg6 12 (by decide +kernel) (by decide +kernel), zg1 18 (by decide +kernel) (by decide +kernel)⟩
  | 191, _ => exact ⟨zg6 22 (by decide +kernel) (by decide +kernel), zg1 18 (by decide +kernel) (by decide +kernel)⟩
  | 192, _ => exact ⟨zg6 26 (by decide +kernel) (by decide +kernel), zg1 18 (by decide +kernel) (by decide +kernel)⟩
  | 193, _ => exact ⟨zg6 30 (by decide +kernel) (by decide +kernel), zg1 18 (by decide +kernel) (by decide +kernel)⟩
  | 194, _ => exact ⟨zg6 34 (by decide +kernel) (by decide +kernel), zg1 18 (by decide +kernel) (by decide +kernel)⟩
  | 195, _ => exact ⟨zg5 164 (by decide +kernel) (by decide +kernel), zg1 18 (by decide +kernel) (by decide +kernel)⟩
  | 196, _ => exact ⟨zg6 6 (by decide +kernel) (by decide +kernel), zg1 18 (by decide +kernel) (by decide +kernel)⟩
  | 197, _ => exact ⟨zg6 39 (by decide +kernel) (by decide +kernel), zg1 18 (by decide +kernel) (by decide +kernel)⟩
  | 198, _ => exact ⟨zg6 43 (by decide +kernel) (by decide +kernel), zg1 18 (by decide +kernel) (by decide +kernel)⟩
  | 199, _ => exact ⟨zg6 47 (by decide +kernel) (by decide +kernel), zg1 18 (by decide +kernel) (by decide +kernel)⟩
  | 200, _ => exact ⟨zg6 55 (by decide +kernel) (by decide +kernel), zg1 18 (by decide +kernel) (by decide +kernel)⟩
  | 201, _ => exact ⟨zg6 52 (by decide +kernel) (by decide +kernel), zg1 18 (by decide +kernel) (by decide +kernel)⟩
  | 202, _ => exact ⟨zg3 3 (by decide +kernel) (by decide +kernel), zg1 19 (by decide +kernel) (by decide +kernel)⟩
  | 203, _ => exact ⟨zg2 90 (by decide +kernel) (by decide +kernel), zg1 17 (by decide +kernel) (by decide +kernel)⟩
  | 204, _ => exact ⟨zg3 18 (by decide +kernel) (by decide +kernel), zg1 17 (by decide +kernel) (by decide +kernel)⟩
  | k + 205, h => exact absurd h (by omega)
