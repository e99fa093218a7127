/-! where everything lies behind the constructors, counted from b -/
def xS_o (k : Nat) : Option xm_Sh :=
  if k < 1 then some (.inr 0) else
  if k < 2 then some (.inr 1) else
  if k < 3 then some (.inl (48, .object "FilterProof$Instruction")) else
  if k < 51 then some (.inr 2) else
  if k < 52 then some (.inr 3) else
  if k < 53 then some (.inl (20000, .int)) else
  if k < 54 then some (.inr 4) else
  if k < 55 then some (.inl (1024, .byte)) else
  if k < 56 then some (.inr 5) else
  if k < 57 then some (.inl (48, .array .long)) else
  if k < 105 then some (.inl (100, .long)) else
  if k < 106 then some (.inl (48, .boolean)) else
  if k < 107 then some (.inl (96, .boolean)) else
  if k < 108 then some (.inl (4800, .boolean)) else
  if k < 109 then some (.inl (48, .int)) else
  if k < 110 then some (.inl (100, .int)) else
  if k < 111 then some (.inr 6) else
  if k < 114 then some (.inl (200, .int)) else
  if k < 115 then some (.inl (200, .long)) else
  if k < 116 then some (.inl (10, .array .long)) else
  if k < 126 then some (.inl (10, .long)) else
  if k < 129 then some (.inr 7) else
  if k < 130 then some (.inr 8) else
  if k < 131 then some (.inl (13, .array .long)) else
  if k < 144 then some (.inl (10, .long)) else
  if k < 145 then some (.inl (12, .int)) else
  if k < 146 then some (.inr 9) else
  if k < 148 then some (.inl (48, .int)) else
  if k < 151 then some (.inr 7) else
  if k < 152 then some (.inr 10) else
  if k < 153 then some (.inl (8, .int)) else
  if k < 154 then some (.inl (32, .byte)) else
  if k < 155 then some (.inr 11) else
  if k < 160 then some (.inl (48, .int)) else
  if k < 161 then some (.inl (20000, .int)) else
  if k < 162 then some (.inl (1024, .byte)) else
  if k < 165 then some (.inl (1200, .int)) else
  if k < 166 then some (.inl (1200, .long)) else
  if k < 167 then some (.inl (4800, .long)) else
  if k < 168 then some (.inl (48, .boolean)) else
  if k < 169 then some (.inl (96, .boolean)) else
  if k < 170 then some (.inl (100, .long)) else
  if k < 171 then some (.inl (130, .long)) else
  if k < 172 then some (.inl (12, .int)) else
  if k < 173 then some (.inl (4800, .boolean)) else
  if k < 174 then some (.inl (20000, .int)) else
  if k < 176 then some (.inl (48, .int)) else
  if k < 177 then some (.inl (8, .int)) else
  if k < 178 then some (.inl (32, .int)) else
  none
def xS (b a : Nat) : Option xm_Sh := if b ≤ a then xS_o (a - b) else none
theorem xS_at (b k : Nat) : xS b (b + k) = xS_o k := by simp [xS]
def xP_o (a k : Nat) : Option Nat := match a, k with
  | 0, 0 => some 1
  | 0, 1 => some 51
  | 0, 2 => some 53
  | 0, 3 => some 55
  | 0, 4 => some 145
  | 0, 5 => some 151
  | 1, 1 => some 2
  | 51, 0 => some 52
  | 53, 0 => some 54
  | 55, 0 => some 56
  | 55, 1 => some 105
  | 55, 2 => some 106
  | 55, 3 => some 107
  | 55, 4 => some 108
  | 55, 5 => some 109
  | 55, 6 => some 110
  | 55, 7 => some 129
  | 110, 0 => some 111
  | 110, 1 => some 112
  | 110, 2 => some 113
  | 110, 3 => some 114
  | 110, 5 => some 115
  | 110, 6 => some 126
  | 110, 7 => some 127
  | 110, 8 => some 128
  | 129, 0 => some 130
  | 129, 1 => some 144
  | 145, 0 => some 146
  | 145, 1 => some 147
  | 145, 2 => some 148
  | 145, 3 => some 149
  | 145, 4 => some 150
  | 151, 0 => some 152
  | 151, 1 => some 153
  | 154, 2 => some 155
  | 154, 3 => some 156
  | 154, 4 => some 157
  | 154, 5 => some 158
  | 154, 6 => some 159
  | 154, 7 => some 160
  | 154, 10 => some 161
  | 154, 15 => some 162
  | 154, 16 => some 163
  | 154, 17 => some 164
  | 154, 18 => some 165
  | 154, 20 => some 166
  | 154, 21 => some 167
  | 154, 22 => some 168
  | 154, 23 => some 169
  | 154, 24 => some 170
  | 154, 25 => some 171
  | 154, 27 => some 172
  | 154, 28 => some 173
  | 154, 32 => some 174
  | 154, 33 => some 175
  | 154, 34 => some 176
  | 154, 35 => some 177
  | 2, i => if i < 48 then some (3 + i) else none
  | 56, i => if i < 48 then some (57 + i) else none
  | 115, i => if i < 10 then some (116 + i) else none
  | 130, i => if i < 13 then some (131 + i) else none
  | _, _ => none
def xP (b a k : Nat) : Option Nat := if b ≤ a then (xP_o (a - b) k).map (fun q => b + q) else none
theorem xP_at (b a k : Nat) : xP b (b + a) k = (xP_o a k).map (fun q => b + q) := by simp [xP]
/-- the world stands: shapes and fixed references; c: the consumer has its filter and tape; p: the producer has them -/
def xm_st (b : Nat) (c p : Bool) (M : xm_M) : Prop := (∀ (a : Nat) (q : xm_Sh), xS b a = some q → xm_sh M a = some q) ∧ (∀ a k q : Nat, xP b a k = some q → xm_gr M a k = some q) ∧ (c = true → xm_gr M (b + 145) 5 = some (b + 1) ∧ xm_gr M (b + 145) 6 = some (b + 51)) ∧ (p = true → xm_gr M (b + 55) 8 = some (b + 1) ∧ xm_gr M (b + 55) 9 = some (b + 51))
theorem xm_st.pi {b a k : Nat} {c p : Bool} {M : xm_M} {v : Int32} (h : xm_st b c p M) : xm_st b c p (xm_pi M a k v) := h
theorem xm_st.pl {b a k : Nat} {c p : Bool} {M : xm_M} {v : Int64} (h : xm_st b c p M) : xm_st b c p (xm_pl M a k v) := h
theorem xm_gr_pr_ne {M : xm_M} {a k a2 k2 : Nat} {v : Option Nat} (h : ¬ (a2 = a ∧ k2 = k)) : xm_gr (xm_pr M a k v) a2 k2 = xm_gr M a2 k2 := if_neg h
theorem xP_ne {b a k q : Nat} (h : xP b a k = some q) : ¬ (a = b + 145 ∧ k = 5) ∧ ¬ (a = b + 145 ∧ k = 6) ∧ ¬ (a = b + 55 ∧ k = 8) ∧ ¬ (a = b + 55 ∧ k = 9) := by
  refine ⟨?_, ?_, ?_, ?_⟩ <;> rintro ⟨rfl, rfl⟩ <;> rw [xP_at] at h <;> simp [xP_o] at h
/-- the consumer is given its filter and its tape -/
theorem xm_st.toC {b : Nat} {c p : Bool} {M : xm_M} (h : xm_st b c p M) : xm_st b true p (xm_pr (xm_pr M (b + 145) 5 (some (b + 1))) (b + 145) 6 (some (b + 51))) := by
  refine ⟨h.1, fun a k q hq => ?_, fun _ => ⟨?_, xm_gr_pr _ _ _ _⟩, fun hp => ⟨?_, ?_⟩⟩
  · obtain ⟨n1, n2, n3, n4⟩ := xP_ne hq
    rw [xm_gr_pr_ne n2, xm_gr_pr_ne n1]; exact h.2.1 a k q hq
  · rw [xm_gr_pr_ne (by omega)]; exact xm_gr_pr _ _ _ _
  · rw [xm_gr_pr_ne (by omega), xm_gr_pr_ne (by omega)]; exact (h.2.2.2 hp).1
  · rw [xm_gr_pr_ne (by omega), xm_gr_pr_ne (by omega)]; exact (h.2.2.2 hp).2
theorem xm_st.toP {b : Nat} {c p : Bool} {M : xm_M} (h : xm_st b c p M) : xm_st b c true (xm_pr (xm_pr M (b + 55) 8 (some (b + 1))) (b + 55) 9 (some (b + 51))) := by
  refine ⟨h.1, fun a k q hq => ?_, fun hc => ⟨?_, ?_⟩, fun _ => ⟨?_, xm_gr_pr _ _ _ _⟩⟩
  · obtain ⟨n1, n2, n3, n4⟩ := xP_ne hq
    rw [xm_gr_pr_ne n4, xm_gr_pr_ne n3]; exact h.2.1 a k q hq
  · rw [xm_gr_pr_ne (by omega), xm_gr_pr_ne (by omega)]; exact (h.2.2.1 hc).1
  · rw [xm_gr_pr_ne (by omega), xm_gr_pr_ne (by omega)]; exact (h.2.2.1 hc).2
  · rw [xm_gr_pr_ne (by omega)]; exact xm_gr_pr _ _ _ _
theorem sh_0 (b : Nat) : xS b (b + 0) = some (.inr 0) := by rw [xS_at]; rfl
theorem sh_1 (b : Nat) : xS b (b + 1) = some (.inr 1) := by rw [xS_at]; rfl
theorem sh_2 (b : Nat) : xS b (b + 2) = some (.inl (48, .object "FilterProof$Instruction")) := by rw [xS_at]; rfl
theorem sh_51 (b : Nat) : xS b (b + 51) = some (.inr 3) := by rw [xS_at]; rfl
theorem sh_52 (b : Nat) : xS b (b + 52) = some (.inl (20000, .int)) := by rw [xS_at]; rfl
theorem sh_53 (b : Nat) : xS b (b + 53) = some (.inr 4) := by rw [xS_at]; rfl
theorem sh_54 (b : Nat) : xS b (b + 54) = some (.inl (1024, .byte)) := by rw [xS_at]; rfl
theorem sh_55 (b : Nat) : xS b (b + 55) = some (.inr 5) := by rw [xS_at]; rfl
theorem sh_56 (b : Nat) : xS b (b + 56) = some (.inl (48, .array .long)) := by rw [xS_at]; rfl
theorem sh_105 (b : Nat) : xS b (b + 105) = some (.inl (48, .boolean)) := by rw [xS_at]; rfl
theorem sh_106 (b : Nat) : xS b (b + 106) = some (.inl (96, .boolean)) := by rw [xS_at]; rfl
theorem sh_107 (b : Nat) : xS b (b + 107) = some (.inl (4800, .boolean)) := by rw [xS_at]; rfl
theorem sh_108 (b : Nat) : xS b (b + 108) = some (.inl (48, .int)) := by rw [xS_at]; rfl
theorem sh_109 (b : Nat) : xS b (b + 109) = some (.inl (100, .int)) := by rw [xS_at]; rfl
theorem sh_110 (b : Nat) : xS b (b + 110) = some (.inr 6) := by rw [xS_at]; rfl
theorem sh_111 (b : Nat) : xS b (b + 111) = some (.inl (200, .int)) := by rw [xS_at]; rfl
theorem sh_112 (b : Nat) : xS b (b + 112) = some (.inl (200, .int)) := by rw [xS_at]; rfl
theorem sh_113 (b : Nat) : xS b (b + 113) = some (.inl (200, .int)) := by rw [xS_at]; rfl
theorem sh_114 (b : Nat) : xS b (b + 114) = some (.inl (200, .long)) := by rw [xS_at]; rfl
theorem sh_115 (b : Nat) : xS b (b + 115) = some (.inl (10, .array .long)) := by rw [xS_at]; rfl
theorem sh_126 (b : Nat) : xS b (b + 126) = some (.inr 7) := by rw [xS_at]; rfl
theorem sh_127 (b : Nat) : xS b (b + 127) = some (.inr 7) := by rw [xS_at]; rfl
theorem sh_128 (b : Nat) : xS b (b + 128) = some (.inr 7) := by rw [xS_at]; rfl
theorem sh_129 (b : Nat) : xS b (b + 129) = some (.inr 8) := by rw [xS_at]; rfl
theorem sh_130 (b : Nat) : xS b (b + 130) = some (.inl (13, .array .long)) := by rw [xS_at]; rfl
theorem sh_144 (b : Nat) : xS b (b + 144) = some (.inl (12, .int)) := by rw [xS_at]; rfl
theorem sh_145 (b : Nat) : xS b (b + 145) = some (.inr 9) := by rw [xS_at]; rfl
theorem sh_146 (b : Nat) : xS b (b + 146) = some (.inl (48, .int)) := by rw [xS_at]; rfl
theorem sh_147 (b : Nat) : xS b (b + 147) = some (.inl (48, .int)) := by rw [xS_at]; rfl
theorem sh_148 (b : Nat) : xS b (b + 148) = some (.inr 7) := by rw [xS_at]; rfl
theorem sh_149 (b : Nat) : xS b (b + 149) = some (.inr 7) := by rw [xS_at]; rfl
theorem sh_150 (b : Nat) : xS b (b + 150) = some (.inr 7) := by rw [xS_at]; rfl
theorem sh_151 (b : Nat) : xS b (b + 151) = some (.inr 10) := by rw [xS_at]; rfl
theorem sh_152 (b : Nat) : xS b (b + 152) = some (.inl (8, .int)) := by rw [xS_at]; rfl
theorem sh_153 (b : Nat) : xS b (b + 153) = some (.inl (32, .byte)) := by rw [xS_at]; rfl
theorem sh_154 (b : Nat) : xS b (b + 154) = some (.inr 11) := by rw [xS_at]; rfl
theorem sh_155 (b : Nat) : xS b (b + 155) = some (.inl (48, .int)) := by rw [xS_at]; rfl
theorem sh_156 (b : Nat) : xS b (b + 156) = some (.inl (48, .int)) := by rw [xS_at]; rfl
theorem sh_157 (b : Nat) : xS b (b + 157) = some (.inl (48, .int)) := by rw [xS_at]; rfl
theorem sh_158 (b : Nat) : xS b (b + 158) = some (.inl (48, .int)) := by rw [xS_at]; rfl
theorem sh_159 (b : Nat) : xS b (b + 159) = some (.inl (48, .int)) := by rw [xS_at]; rfl
theorem sh_160 (b : Nat) : xS b (b + 160) = some (.inl (20000, .int)) := by rw [xS_at]; rfl
theorem sh_161 (b : Nat) : xS b (b + 161) = some (.inl (1024, .byte)) := by rw [xS_at]; rfl
theorem sh_162 (b : Nat) : xS b (b + 162) = some (.inl (1200, .int)) := by rw [xS_at]; rfl
theorem sh_163 (b : Nat) : xS b (b + 163) = some (.inl (1200, .int)) := by rw [xS_at]; rfl
theorem sh_164 (b : Nat) : xS b (b + 164) = some (.inl (1200, .int)) := by rw [xS_at]; rfl
theorem sh_165 (b : Nat) : xS b (b + 165) = some (.inl (1200, .long)) := by rw [xS_at]; rfl
theorem sh_166 (b : Nat) : xS b (b + 166) = some (.inl (4800, .long)) := by rw [xS_at]; rfl
theorem sh_167 (b : Nat) : xS b (b + 167) = some (.inl (48, .boolean)) := by rw [xS_at]; rfl
theorem sh_168 (b : Nat) : xS b (b + 168) = some (.inl (96, .boolean)) := by rw [xS_at]; rfl
theorem sh_169 (b : Nat) : xS b (b + 169) = some (.inl (100, .long)) := by rw [xS_at]; rfl
theorem sh_170 (b : Nat) : xS b (b + 170) = some (.inl (130, .long)) := by rw [xS_at]; rfl
theorem sh_171 (b : Nat) : xS b (b + 171) = some (.inl (12, .int)) := by rw [xS_at]; rfl
theorem sh_172 (b : Nat) : xS b (b + 172) = some (.inl (4800, .boolean)) := by rw [xS_at]; rfl
theorem sh_173 (b : Nat) : xS b (b + 173) = some (.inl (20000, .int)) := by rw [xS_at]; rfl
theorem sh_174 (b : Nat) : xS b (b + 174) = some (.inl (48, .int)) := by rw [xS_at]; rfl
theorem sh_175 (b : Nat) : xS b (b + 175) = some (.inl (48, .int)) := by rw [xS_at]; rfl
theorem sh_176 (b : Nat) : xS b (b + 176) = some (.inl (8, .int)) := by rw [xS_at]; rfl
theorem sh_177 (b : Nat) : xS b (b + 177) = some (.inl (32, .int)) := by rw [xS_at]; rfl
theorem pt_0_0 (b : Nat) : xP b (b + 0) 0 = some (b + 1) := by rw [xP_at]; rfl
theorem pt_0_1 (b : Nat) : xP b (b + 0) 1 = some (b + 51) := by rw [xP_at]; rfl
theorem pt_0_2 (b : Nat) : xP b (b + 0) 2 = some (b + 53) := by rw [xP_at]; rfl
theorem pt_0_3 (b : Nat) : xP b (b + 0) 3 = some (b + 55) := by rw [xP_at]; rfl
theorem pt_0_4 (b : Nat) : xP b (b + 0) 4 = some (b + 145) := by rw [xP_at]; rfl
theorem pt_0_5 (b : Nat) : xP b (b + 0) 5 = some (b + 151) := by rw [xP_at]; rfl
theorem pt_1_1 (b : Nat) : xP b (b + 1) 1 = some (b + 2) := by rw [xP_at]; rfl
theorem pt_51_0 (b : Nat) : xP b (b + 51) 0 = some (b + 52) := by rw [xP_at]; rfl
theorem pt_53_0 (b : Nat) : xP b (b + 53) 0 = some (b + 54) := by rw [xP_at]; rfl
theorem pt_55_0 (b : Nat) : xP b (b + 55) 0 = some (b + 56) := by rw [xP_at]; rfl
theorem pt_55_1 (b : Nat) : xP b (b + 55) 1 = some (b + 105) := by rw [xP_at]; rfl
theorem pt_55_2 (b : Nat) : xP b (b + 55) 2 = some (b + 106) := by rw [xP_at]; rfl
theorem pt_55_3 (b : Nat) : xP b (b + 55) 3 = some (b + 107) := by rw [xP_at]; rfl
theorem pt_55_4 (b : Nat) : xP b (b + 55) 4 = some (b + 108) := by rw [xP_at]; rfl
theorem pt_55_5 (b : Nat) : xP b (b + 55) 5 = some (b + 109) := by rw [xP_at]; rfl
theorem pt_55_6 (b : Nat) : xP b (b + 55) 6 = some (b + 110) := by rw [xP_at]; rfl
theorem pt_55_7 (b : Nat) : xP b (b + 55) 7 = some (b + 129) := by rw [xP_at]; rfl
theorem pt_110_0 (b : Nat) : xP b (b + 110) 0 = some (b + 111) := by rw [xP_at]; rfl
theorem pt_110_1 (b : Nat) : xP b (b + 110) 1 = some (b + 112) := by rw [xP_at]; rfl
theorem pt_110_2 (b : Nat) : xP b (b + 110) 2 = some (b + 113) := by rw [xP_at]; rfl
theorem pt_110_3 (b : Nat) : xP b (b + 110) 3 = some (b + 114) := by rw [xP_at]; rfl
theorem pt_110_5 (b : Nat) : xP b (b + 110) 5 = some (b + 115) := by rw [xP_at]; rfl
theorem pt_110_6 (b : Nat) : xP b (b + 110) 6 = some (b + 126) := by rw [xP_at]; rfl
theorem pt_110_7 (b : Nat) : xP b (b + 110) 7 = some (b + 127) := by rw [xP_at]; rfl
theorem pt_110_8 (b : Nat) : xP b (b + 110) 8 = some (b + 128) := by rw [xP_at]; rfl
theorem pt_129_0 (b : Nat) : xP b (b + 129) 0 = some (b + 130) := by rw [xP_at]; rfl
theorem pt_129_1 (b : Nat) : xP b (b + 129) 1 = some (b + 144) := by rw [xP_at]; rfl
theorem pt_145_0 (b : Nat) : xP b (b + 145) 0 = some (b + 146) := by rw [xP_at]; rfl
theorem pt_145_1 (b : Nat) : xP b (b + 145) 1 = some (b + 147) := by rw [xP_at]; rfl
theorem pt_145_2 (b : Nat) : xP b (b + 145) 2 = some (b + 148) := by rw [xP_at]; rfl
theorem pt_145_3 (b : Nat) : xP b (b + 145) 3 = some (b + 149) := by rw [xP_at]; rfl
theorem pt_145_4 (b : Nat) : xP b (b + 145) 4 = some (b + 150) := by rw [xP_at]; rfl
theorem pt_151_0 (b : Nat) : xP b (b + 151) 0 = some (b + 152) := by rw [xP_at]; rfl
theorem pt_151_1 (b : Nat) : xP b (b + 151) 1 = some (b + 153) := by rw [xP_at]; rfl
theorem pt_154_2 (b : Nat) : xP b (b + 154) 2 = some (b + 155) := by rw [xP_at]; rfl
theorem pt_154_3 (b : Nat) : xP b (b + 154) 3 = some (b + 156) := by rw [xP_at]; rfl
theorem pt_154_4 (b : Nat) : xP b (b + 154) 4 = some (b + 157) := by rw [xP_at]; rfl
theorem pt_154_5 (b : Nat) : xP b (b + 154) 5 = some (b + 158) := by rw [xP_at]; rfl
theorem pt_154_6 (b : Nat) : xP b (b + 154) 6 = some (b + 159) := by rw [xP_at]; rfl
theorem pt_154_7 (b : Nat) : xP b (b + 154) 7 = some (b + 160) := by rw [xP_at]; rfl
theorem pt_154_10 (b : Nat) : xP b (b + 154) 10 = some (b + 161) := by rw [xP_at]; rfl
theorem pt_154_15 (b : Nat) : xP b (b + 154) 15 = some (b + 162) := by rw [xP_at]; rfl
theorem pt_154_16 (b : Nat) : xP b (b + 154) 16 = some (b + 163) := by rw [xP_at]; rfl
theorem pt_154_17 (b : Nat) : xP b (b + 154) 17 = some (b + 164) := by rw [xP_at]; rfl
theorem pt_154_18 (b : Nat) : xP b (b + 154) 18 = some (b + 165) := by rw [xP_at]; rfl
theorem pt_154_20 (b : Nat) : xP b (b + 154) 20 = some (b + 166) := by rw [xP_at]; rfl
theorem pt_154_21 (b : Nat) : xP b (b + 154) 21 = some (b + 167) := by rw [xP_at]; rfl
theorem pt_154_22 (b : Nat) : xP b (b + 154) 22 = some (b + 168) := by rw [xP_at]; rfl
theorem pt_154_23 (b : Nat) : xP b (b + 154) 23 = some (b + 169) := by rw [xP_at]; rfl
theorem pt_154_24 (b : Nat) : xP b (b + 154) 24 = some (b + 170) := by rw [xP_at]; rfl
theorem pt_154_25 (b : Nat) : xP b (b + 154) 25 = some (b + 171) := by rw [xP_at]; rfl
theorem pt_154_27 (b : Nat) : xP b (b + 154) 27 = some (b + 172) := by rw [xP_at]; rfl
theorem pt_154_28 (b : Nat) : xP b (b + 154) 28 = some (b + 173) := by rw [xP_at]; rfl
theorem pt_154_32 (b : Nat) : xP b (b + 154) 32 = some (b + 174) := by rw [xP_at]; rfl
theorem pt_154_33 (b : Nat) : xP b (b + 154) 33 = some (b + 175) := by rw [xP_at]; rfl
theorem pt_154_34 (b : Nat) : xP b (b + 154) 34 = some (b + 176) := by rw [xP_at]; rfl
theorem pt_154_35 (b : Nat) : xP b (b + 154) 35 = some (b + 177) := by rw [xP_at]; rfl
theorem shf_2 {b j : Nat} (h : j < 48) : xS b (b + 3 + j) = some (.inr 2) := by
  rw [Nat.add_assoc, xS_at]; unfold xS_o
  rw [if_neg (by omega)]
  rw [if_neg (by omega)]
  rw [if_neg (by omega)]
  rw [if_pos (by omega)]
theorem ptf_2 {b j : Nat} (h : j < 48) : xP b (b + 2) j = some (b + 3 + j) := by
  rw [xP_at]; show ((if j < 48 then some (3 + j) else none : Option Nat).map (fun q => b + q)) = _
  rw [if_pos h]; exact congrArg some (Nat.add_assoc b 3 j).symm
theorem shf_56 {b j : Nat} (h : j < 48) : xS b (b + 57 + j) = some (.inl (100, .long)) := by
  rw [Nat.add_assoc, xS_at]; unfold xS_o
  rw [if_neg (by omega)]
  rw [if_neg (by omega)]
  rw [if_neg (by omega)]
  rw [if_neg (by omega)]
  rw [if_neg (by omega)]
  rw [if_neg (by omega)]
  rw [if_neg (by omega)]
  rw [if_neg (by omega)]
  rw [if_neg (by omega)]
  rw [if_neg (by omega)]
  rw [if_pos (by omega)]
theorem ptf_56 {b j : Nat} (h : j < 48) : xP b (b + 56) j = some (b + 57 + j) := by
  rw [xP_at]; show ((if j < 48 then some (57 + j) else none : Option Nat).map (fun q => b + q)) = _
  rw [if_pos h]; exact congrArg some (Nat.add_assoc b 57 j).symm
theorem shf_115 {b j : Nat} (h : j < 10) : xS b (b + 116 + j) = some (.inl (10, .long)) := by
  rw [Nat.add_assoc, xS_at]; unfold xS_o
  rw [if_neg (by omega)]
  rw [if_neg (by omega)]
  rw [if_neg (by omega)]
  rw [if_neg (by omega)]
  rw [if_neg (by omega)]
  rw [if_neg (by omega)]
  rw [if_neg (by omega)]
  rw [if_neg (by omega)]
  rw [if_neg (by omega)]
  rw [if_neg (by omega)]
  rw [if_neg (by omega)]
  rw [if_neg (by omega)]
  rw [if_neg (by omega)]
  rw [if_neg (by omega)]
  rw [if_neg (by omega)]
  rw [if_neg (by omega)]
  rw [if_neg (by omega)]
  rw [if_neg (by omega)]
  rw [if_neg (by omega)]
  rw [if_neg (by omega)]
  rw [if_pos (by omega)]
theorem ptf_115 {b j : Nat} (h : j < 10) : xP b (b + 115) j = some (b + 116 + j) := by
  rw [xP_at]; show ((if j < 10 then some (116 + j) else none : Option Nat).map (fun q => b + q)) = _
  rw [if_pos h]; exact congrArg some (Nat.add_assoc b 116 j).symm
theorem shf_130 {b j : Nat} (h : j < 13) : xS b (b + 131 + j) = some (.inl (10, .long)) := by
  rw [Nat.add_assoc, xS_at]; unfold xS_o
  rw [if_neg (by omega)]
  rw [if_neg (by omega)]
  rw [if_neg (by omega)]
  rw [if_neg (by omega)]
  rw [if_neg (by omega)]
  rw [if_neg (by omega)]
  rw [if_neg (by omega)]
  rw [if_neg (by omega)]
  rw [if_neg (by omega)]
  rw [if_neg (by omega)]
  rw [if_neg (by omega)]
  rw [if_neg (by omega)]
  rw [if_neg (by omega)]
  rw [if_neg (by omega)]
  rw [if_neg (by omega)]
  rw [if_neg (by omega)]
  rw [if_neg (by omega)]
  rw [if_neg (by omega)]
  rw [if_neg (by omega)]
  rw [if_neg (by omega)]
  rw [if_neg (by omega)]
  rw [if_neg (by omega)]
  rw [if_neg (by omega)]
  rw [if_neg (by omega)]
  rw [if_pos (by omega)]
theorem ptf_130 {b j : Nat} (h : j < 13) : xP b (b + 130) j = some (b + 131 + j) := by
  rw [xP_at]; show ((if j < 13 then some (131 + j) else none : Option Nat).map (fun q => b + q)) = _
  rw [if_pos h]; exact congrArg some (Nat.add_assoc b 131 j).symm
theorem vp_lt {i : Int32} {n : Nat} (h : vp_in i n) : i.toNatClampNeg < n := Nat.not_le.mp fun q => h (Or.inr q)
/-- a truth as an int -/
def xz (t : Bool) : Int32 := if t then 1 else 0
theorem xz_n (t : Bool) : narrow .boolean (.int (xz t)) = .int (xz t) := by cases t <;> rfl
theorem xz_i {e : Int32} (h : e = 0 ∨ e = 1) : narrow .boolean (.int e) = .int e := by rcases h with rfl | rfl <;> rfl
theorem xm_rI {v : Int32} : xm_isRet (some .int) .ireturn (some (.int v)) := Or.inl ⟨rfl, rfl, v, rfl⟩
theorem xm_rZ {v : Int32} (h : v = 0 ∨ v = 1) : xm_isRet (some .boolean) .ireturn (some (.int v)) := Or.inr (Or.inl ⟨rfl, rfl, h.imp (fun e => by rw [e]) (fun e => by rw [e])⟩)
theorem xz_01 (t : Bool) : xz t = 0 ∨ xz t = 1 := by cases t; exact Or.inl rfl; exact Or.inr rfl
theorem xm_rJ {v : Int64} : xm_isRet (some .long) .lreturn (some (.long v)) := Or.inr (Or.inr (Or.inl ⟨rfl, rfl, v, rfl⟩))
theorem xm_rN : xm_isRet none .return_ none := Or.inr (Or.inr (Or.inr ⟨rfl, rfl, rfl⟩))
section XD
variable {l : Launch} {E : xm_E} {Y Z : xm_Y} {R S : Room} {Q : Option Value → xm_M → Prop} {pc : Nat} {L : List (Nat × Value)} {st : List Value} {cs sl : Nat} {M : xm_M}
theorem xm_X.sub {L' : List (Nat × Value)} (ks : List Nat) (h : lv_pick L ks = L') (k : xm_X l E Y R Q pc L' st cs sl M) : xm_X l E Y R Q pc L st cs sl M := fun p e s m args below meth c H locs ls Qf C hW h0 hl hRt => k p e s m args below meth c H locs ls Qf C hW h0 (lv_sub hl ks h) hRt
theorem x_lc_eq {x y : Int64} {off : Int} {t pc1 pc2 : Nat} (hd : decode Y.2.1 pc = .ok (.lcmp, 1)) (hd2 : decode Y.2.1 pc1 = .ok (.ifCond .eq off, 3)) (h1 : pc + 1 = pc1) (h2 : pc1 + 3 = pc2) (ht : (pc1 : Int) + off = (t : Int)) (kt : x = y → xm_X l E Y R Q t L st cs sl M) (kf : ¬ x = y → xm_X l E Y R Q pc2 L st cs sl M) : xm_X l E Y R Q pc L (.long y :: .long x :: st) cs sl M := by
  subst h1; subst h2
  exact x_lcmp hd (x_if_eq hd2 ht (fun g => kt ((lg_cmp_eq x y).mp g)) (fun g => kf (fun q => g ((lg_cmp_eq x y).mpr q))))
theorem x_lc_ne {x y : Int64} {off : Int} {t pc1 pc2 : Nat} (hd : decode Y.2.1 pc = .ok (.lcmp, 1)) (hd2 : decode Y.2.1 pc1 = .ok (.ifCond .ne off, 3)) (h1 : pc + 1 = pc1) (h2 : pc1 + 3 = pc2) (ht : (pc1 : Int) + off = (t : Int)) (kt : ¬ x = y → xm_X l E Y R Q t L st cs sl M) (kf : x = y → xm_X l E Y R Q pc2 L st cs sl M) : xm_X l E Y R Q pc L (.long y :: .long x :: st) cs sl M := by
  subst h1; subst h2
  exact x_lcmp hd (x_if_ne hd2 ht (fun g => kt (fun q => g ((lg_cmp_eq x y).mpr q))) (fun g => kf ((lg_cmp_eq x y).mp g)))
theorem x_lc_lt {x y : Int64} {off : Int} {t pc1 pc2 : Nat} (hd : decode Y.2.1 pc = .ok (.lcmp, 1)) (hd2 : decode Y.2.1 pc1 = .ok (.ifCond .lt off, 3)) (h1 : pc + 1 = pc1) (h2 : pc1 + 3 = pc2) (ht : (pc1 : Int) + off = (t : Int)) (kt : x < y → xm_X l E Y R Q t L st cs sl M) (kf : ¬ x < y → xm_X l E Y R Q pc2 L st cs sl M) : xm_X l E Y R Q pc L (.long y :: .long x :: st) cs sl M := by
  subst h1; subst h2
  exact x_lcmp hd (x_if_lt hd2 ht (fun g => kt ((lg_cmp_lt x y).mp g)) (fun g => kf (fun q => g ((lg_cmp_lt x y).mpr q))))
theorem x_lc_ge {x y : Int64} {off : Int} {t pc1 pc2 : Nat} (hd : decode Y.2.1 pc = .ok (.lcmp, 1)) (hd2 : decode Y.2.1 pc1 = .ok (.ifCond .ge off, 3)) (h1 : pc + 1 = pc1) (h2 : pc1 + 3 = pc2) (ht : (pc1 : Int) + off = (t : Int)) (kt : y ≤ x → xm_X l E Y R Q t L st cs sl M) (kf : ¬ y ≤ x → xm_X l E Y R Q pc2 L st cs sl M) : xm_X l E Y R Q pc L (.long y :: .long x :: st) cs sl M := by
  subst h1; subst h2
  exact x_lcmp hd (x_if_ge hd2 ht (fun g => kt ((lg_cmp_ge x y).mp g)) (fun g => kf (fun q => g ((lg_cmp_ge x y).mpr q))))
theorem x_lc_gt {x y : Int64} {off : Int} {t pc1 pc2 : Nat} (hd : decode Y.2.1 pc = .ok (.lcmp, 1)) (hd2 : decode Y.2.1 pc1 = .ok (.ifCond .gt off, 3)) (h1 : pc + 1 = pc1) (h2 : pc1 + 3 = pc2) (ht : (pc1 : Int) + off = (t : Int)) (kt : y < x → xm_X l E Y R Q t L st cs sl M) (kf : ¬ y < x → xm_X l E Y R Q pc2 L st cs sl M) : xm_X l E Y R Q pc L (.long y :: .long x :: st) cs sl M := by
  subst h1; subst h2
  exact x_lcmp hd (x_if_gt hd2 ht (fun g => kt ((lg_cmp_gt x y).mp g)) (fun g => kf (fun q => g ((lg_cmp_gt x y).mpr q))))
theorem x_lc_le {x y : Int64} {off : Int} {t pc1 pc2 : Nat} (hd : decode Y.2.1 pc = .ok (.lcmp, 1)) (hd2 : decode Y.2.1 pc1 = .ok (.ifCond .le off, 3)) (h1 : pc + 1 = pc1) (h2 : pc1 + 3 = pc2) (ht : (pc1 : Int) + off = (t : Int)) (kt : x ≤ y → xm_X l E Y R Q t L st cs sl M) (kf : ¬ x ≤ y → xm_X l E Y R Q pc2 L st cs sl M) : xm_X l E Y R Q pc L (.long y :: .long x :: st) cs sl M := by
  subst h1; subst h2
  exact x_lcmp hd (x_if_le hd2 ht (fun g => kt ((lg_cmp_le x y).mp g)) (fun g => kf (fun q => g ((lg_cmp_le x y).mpr q))))
theorem x_cVI {idx n b ci : Nat} {As rest : List Value} {P : Int32 → xm_M → Prop} (hd : decode Y.2.1 pc = .ok (.invokevirtual idx, 3)) (hm : Cond.methodLink Y.1.cls idx Z.1 ∈ xm_tbl) (hz : xm_calV Z n) (hn : As.length = n) (hs : xm_sh M b = some (.inr ci)) (hci : (xm_cl[ci]?).map (fun r => r.1) = some Z.1.cls) (hst : st = As.reverse ++ .ref b :: rest) (hw : (rest.map fun v => v.category).sum ≤ 8) (hR : xm_rm R S Z cs sl) (hz0 : S.cells = 0 ∧ S.slots = 0) (hC : xm_C l E Z S (.ref b :: As) M (fun r M1 => ∃ v : Int32, r = some (.int v) ∧ P v M1)) (kk : ∀ (v : Int32) (M1 : xm_M), P v M1 → xm_X l E Y R Q (pc + 3) L (.int v :: rest) cs sl M1) : xm_X l E Y R Q pc L st cs sl M := by
  refine x_callV hd hm hz hn hs hci hst hw hR hC (fun r M1 h => ?_)
  obtain ⟨v, rfl, h⟩ := h
  rw [hz0.1, hz0.2]
  exact kk v M1 h
theorem x_cVZ {idx n b ci : Nat} {As rest : List Value} {P : Bool → xm_M → Prop} (hd : decode Y.2.1 pc = .ok (.invokevirtual idx, 3)) (hm : Cond.methodLink Y.1.cls idx Z.1 ∈ xm_tbl) (hz : xm_calV Z n) (hn : As.length = n) (hs : xm_sh M b = some (.inr ci)) (hci : (xm_cl[ci]?).map (fun r => r.1) = some Z.1.cls) (hst : st = As.reverse ++ .ref b :: rest) (hw : (rest.map fun v => v.category).sum ≤ 8) (hR : xm_rm R S Z cs sl) (hz0 : S.cells = 0 ∧ S.slots = 0) (hC : xm_C l E Z S (.ref b :: As) M (fun r M1 => ∃ v : Bool, r = some (.int (xz v)) ∧ P v M1)) (kk : ∀ (v : Bool) (M1 : xm_M), P v M1 → xm_X l E Y R Q (pc + 3) L (.int (xz v) :: rest) cs sl M1) : xm_X l E Y R Q pc L st cs sl M := by
  refine x_callV hd hm hz hn hs hci hst hw hR hC (fun r M1 h => ?_)
  obtain ⟨v, rfl, h⟩ := h
  rw [hz0.1, hz0.2]
  exact kk v M1 h
theorem x_cVJ {idx n b ci : Nat} {As rest : List Value} {P : Int64 → xm_M → Prop} (hd : decode Y.2.1 pc = .ok (.invokevirtual idx, 3)) (hm : Cond.methodLink Y.1.cls idx Z.1 ∈ xm_tbl) (hz : xm_calV Z n) (hn : As.length = n) (hs : xm_sh M b = some (.inr ci)) (hci : (xm_cl[ci]?).map (fun r => r.1) = some Z.1.cls) (hst : st = As.reverse ++ .ref b :: rest) (hw : (rest.map fun v => v.category).sum ≤ 8) (hR : xm_rm R S Z cs sl) (hz0 : S.cells = 0 ∧ S.slots = 0) (hC : xm_C l E Z S (.ref b :: As) M (fun r M1 => ∃ v : Int64, r = some (.long v) ∧ P v M1)) (kk : ∀ (v : Int64) (M1 : xm_M), P v M1 → xm_X l E Y R Q (pc + 3) L (.long v :: rest) cs sl M1) : xm_X l E Y R Q pc L st cs sl M := by
  refine x_callV hd hm hz hn hs hci hst hw hR hC (fun r M1 h => ?_)
  obtain ⟨v, rfl, h⟩ := h
  rw [hz0.1, hz0.2]
  exact kk v M1 h
theorem x_cVN {idx n b ci : Nat} {As rest : List Value} {P : xm_M → Prop} (hd : decode Y.2.1 pc = .ok (.invokevirtual idx, 3)) (hm : Cond.methodLink Y.1.cls idx Z.1 ∈ xm_tbl) (hz : xm_calV Z n) (hn : As.length = n) (hs : xm_sh M b = some (.inr ci)) (hci : (xm_cl[ci]?).map (fun r => r.1) = some Z.1.cls) (hst : st = As.reverse ++ .ref b :: rest) (hw : (rest.map fun v => v.category).sum ≤ 8) (hR : xm_rm R S Z cs sl) (hz0 : S.cells = 0 ∧ S.slots = 0) (hC : xm_C l E Z S (.ref b :: As) M (fun r M1 => r = none ∧ P M1)) (kk : ∀ (M1 : xm_M), P M1 → xm_X l E Y R Q (pc + 3) L rest cs sl M1) : xm_X l E Y R Q pc L st cs sl M := by
  refine x_callV hd hm hz hn hs hci hst hw hR hC (fun r M1 h => ?_)
  obtain ⟨rfl, h⟩ := h
  rw [hz0.1, hz0.2]
  exact kk M1 h
theorem x_cSI {idx n : Nat} {As rest : List Value} {P : Int32 → xm_M → Prop} (hd : decode Y.2.1 pc = .ok (.invokestatic idx, 3)) (hm : Cond.methodLink Y.1.cls idx Z.1 ∈ xm_tbl) (hz : xm_calS Z n) (hn : As.length = n) (hst : st = As.reverse ++ rest) (hw : (rest.map fun v => v.category).sum ≤ 8) (hR : xm_rm R S Z cs sl) (hz0 : S.cells = 0 ∧ S.slots = 0) (hC : xm_C l E Z S As M (fun r M1 => ∃ v : Int32, r = some (.int v) ∧ P v M1)) (kk : ∀ (v : Int32) (M1 : xm_M), P v M1 → xm_X l E Y R Q (pc + 3) L (.int v :: rest) cs sl M1) : xm_X l E Y R Q pc L st cs sl M := by
  refine x_callS hd hm hz hn hst hw hR hC (fun r M1 h => ?_)
  obtain ⟨v, rfl, h⟩ := h
  rw [hz0.1, hz0.2]
  exact kk v M1 h
theorem x_cSZ {idx n : Nat} {As rest : List Value} {P : Bool → xm_M → Prop} (hd : decode Y.2.1 pc = .ok (.invokestatic idx, 3)) (hm : Cond.methodLink Y.1.cls idx Z.1 ∈ xm_tbl) (hz : xm_calS Z n) (hn : As.length = n) (hst : st = As.reverse ++ rest) (hw : (rest.map fun v => v.category).sum ≤ 8) (hR : xm_rm R S Z cs sl) (hz0 : S.cells = 0 ∧ S.slots = 0) (hC : xm_C l E Z S As M (fun r M1 => ∃ v : Bool, r = some (.int (xz v)) ∧ P v M1)) (kk : ∀ (v : Bool) (M1 : xm_M), P v M1 → xm_X l E Y R Q (pc + 3) L (.int (xz v) :: rest) cs sl M1) : xm_X l E Y R Q pc L st cs sl M := by
  refine x_callS hd hm hz hn hst hw hR hC (fun r M1 h => ?_)
  obtain ⟨v, rfl, h⟩ := h
  rw [hz0.1, hz0.2]
  exact kk v M1 h
theorem x_cSJ {idx n : Nat} {As rest : List Value} {P : Int64 → xm_M → Prop} (hd : decode Y.2.1 pc = .ok (.invokestatic idx, 3)) (hm : Cond.methodLink Y.1.cls idx Z.1 ∈ xm_tbl) (hz : xm_calS Z n) (hn : As.length = n) (hst : st = As.reverse ++ rest) (hw : (rest.map fun v => v.category).sum ≤ 8) (hR : xm_rm R S Z cs sl) (hz0 : S.cells = 0 ∧ S.slots = 0) (hC : xm_C l E Z S As M (fun r M1 => ∃ v : Int64, r = some (.long v) ∧ P v M1)) (kk : ∀ (v : Int64) (M1 : xm_M), P v M1 → xm_X l E Y R Q (pc + 3) L (.long v :: rest) cs sl M1) : xm_X l E Y R Q pc L st cs sl M := by
  refine x_callS hd hm hz hn hst hw hR hC (fun r M1 h => ?_)
  obtain ⟨v, rfl, h⟩ := h
  rw [hz0.1, hz0.2]
  exact kk v M1 h
theorem x_cSN {idx n : Nat} {As rest : List Value} {P : xm_M → Prop} (hd : decode Y.2.1 pc = .ok (.invokestatic idx, 3)) (hm : Cond.methodLink Y.1.cls idx Z.1 ∈ xm_tbl) (hz : xm_calS Z n) (hn : As.length = n) (hst : st = As.reverse ++ rest) (hw : (rest.map fun v => v.category).sum ≤ 8) (hR : xm_rm R S Z cs sl) (hz0 : S.cells = 0 ∧ S.slots = 0) (hC : xm_C l E Z S As M (fun r M1 => r = none ∧ P M1)) (kk : ∀ (M1 : xm_M), P M1 → xm_X l E Y R Q (pc + 3) L rest cs sl M1) : xm_X l E Y R Q pc L st cs sl M := by
  refine x_callS hd hm hz hn hst hw hR hC (fun r M1 h => ?_)
  obtain ⟨rfl, h⟩ := h
  rw [hz0.1, hz0.2]
  exact kk M1 h
end XD
