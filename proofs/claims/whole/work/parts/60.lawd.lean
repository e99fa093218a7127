def yL_law (nm : String) : xm_Y := (⟨"FilterProofLaw", nm, "([I)Z"⟩, code, 4, some .boolean)
abbrev rmL_law : Room := room_1
theorem eL_law_0 : decode code 0 = .ok (.new 7, 3) := by decide +kernel
theorem dL_law_0 {nm : String} : decode (yL_law nm).2.1 0 = .ok (.new 7, 3) := eL_law_0
theorem eL_law_3 : decode code 3 = .ok (.dup, 1) := by decide +kernel
theorem dL_law_3 {nm : String} : decode (yL_law nm).2.1 3 = .ok (.dup, 1) := eL_law_3
theorem eL_law_4 : decode code 4 = .ok (.aload_n 0, 1) := by decide +kernel
theorem dL_law_4 {nm : String} : decode (yL_law nm).2.1 4 = .ok (.aload_n 0, 1) := eL_law_4
theorem eL_law_5 : decode code 5 = .ok (.iconst 0, 1) := by decide +kernel
theorem dL_law_5 {nm : String} : decode (yL_law nm).2.1 5 = .ok (.iconst 0, 1) := eL_law_5
theorem eL_law_6 : decode code 6 = .ok (.invokestatic 9, 3) := by decide +kernel
theorem dL_law_6 {nm : String} : decode (yL_law nm).2.1 6 = .ok (.invokestatic 9, 3) := eL_law_6
theorem eL_law_9 : decode code 9 = .ok (.invokespecial 15, 3) := by decide +kernel
theorem dL_law_9 {nm : String} : decode (yL_law nm).2.1 9 = .ok (.invokespecial 15, 3) := eL_law_9
theorem eL_law_12 : decode code 12 = .ok (.astore_n 1, 1) := by decide +kernel
theorem dL_law_12 {nm : String} : decode (yL_law nm).2.1 12 = .ok (.astore_n 1, 1) := eL_law_12
theorem eL_law_13 : decode code 13 = .ok (.new 18, 3) := by decide +kernel
theorem dL_law_13 {nm : String} : decode (yL_law nm).2.1 13 = .ok (.new 18, 3) := eL_law_13
theorem eL_law_16 : decode code 16 = .ok (.dup, 1) := by decide +kernel
theorem dL_law_16 {nm : String} : decode (yL_law nm).2.1 16 = .ok (.dup, 1) := eL_law_16
theorem eL_law_17 : decode code 17 = .ok (.aload_n 0, 1) := by decide +kernel
theorem dL_law_17 {nm : String} : decode (yL_law nm).2.1 17 = .ok (.aload_n 0, 1) := eL_law_17
theorem eL_law_18 : decode code 18 = .ok (.iconst 0, 1) := by decide +kernel
theorem dL_law_18 {nm : String} : decode (yL_law nm).2.1 18 = .ok (.iconst 0, 1) := eL_law_18
theorem eL_law_19 : decode code 19 = .ok (.invokestatic 9, 3) := by decide +kernel
theorem dL_law_19 {nm : String} : decode (yL_law nm).2.1 19 = .ok (.invokestatic 9, 3) := eL_law_19
theorem eL_law_22 : decode code 22 = .ok (.invokespecial 20, 3) := by decide +kernel
theorem dL_law_22 {nm : String} : decode (yL_law nm).2.1 22 = .ok (.invokespecial 20, 3) := eL_law_22
theorem eL_law_25 : decode code 25 = .ok (.astore_n 2, 1) := by decide +kernel
theorem dL_law_25 {nm : String} : decode (yL_law nm).2.1 25 = .ok (.astore_n 2, 1) := eL_law_25
theorem eL_law_26 : decode code 26 = .ok (.iconst 1, 1) := by decide +kernel
theorem dL_law_26 {nm : String} : decode (yL_law nm).2.1 26 = .ok (.iconst 1, 1) := eL_law_26
theorem eL_law_27 : decode code 27 = .ok (.istore_n 3, 1) := by decide +kernel
theorem dL_law_27 {nm : String} : decode (yL_law nm).2.1 27 = .ok (.istore_n 3, 1) := eL_law_27
theorem eL_law_28 : decode code 28 = .ok (.iload_n 3, 1) := by decide +kernel
theorem dL_law_28 {nm : String} : decode (yL_law nm).2.1 28 = .ok (.iload_n 3, 1) := eL_law_28
theorem eL_law_29 : decode code 29 = .ok (.aload_n 0, 1) := by decide +kernel
theorem dL_law_29 {nm : String} : decode (yL_law nm).2.1 29 = .ok (.aload_n 0, 1) := eL_law_29
theorem eL_law_30 : decode code 30 = .ok (.arraylength, 1) := by decide +kernel
theorem dL_law_30 {nm : String} : decode (yL_law nm).2.1 30 = .ok (.arraylength, 1) := eL_law_30
theorem eL_law_31 : decode code 31 = .ok (.bipush 6, 2) := by decide +kernel
theorem dL_law_31 {nm : String} : decode (yL_law nm).2.1 31 = .ok (.bipush 6, 2) := eL_law_31
theorem eL_law_33 : decode code 33 = .ok (.isub, 1) := by decide +kernel
theorem dL_law_33 {nm : String} : decode (yL_law nm).2.1 33 = .ok (.isub, 1) := eL_law_33
theorem eL_law_34 : decode code 34 = .ok (.if_icmp .gt 433, 3) := by decide +kernel
theorem dL_law_34 {nm : String} : decode (yL_law nm).2.1 34 = .ok (.if_icmp .gt 433, 3) := eL_law_34
theorem eL_law_37 : decode code 37 = .ok (.aload_n 0, 1) := by decide +kernel
theorem dL_law_37 {nm : String} : decode (yL_law nm).2.1 37 = .ok (.aload_n 0, 1) := eL_law_37
theorem eL_law_38 : decode code 38 = .ok (.iload_n 3, 1) := by decide +kernel
theorem dL_law_38 {nm : String} : decode (yL_law nm).2.1 38 = .ok (.iload_n 3, 1) := eL_law_38
theorem eL_law_39 : decode code 39 = .ok (.iaload, 1) := by decide +kernel
theorem dL_law_39 {nm : String} : decode (yL_law nm).2.1 39 = .ok (.iaload, 1) := eL_law_39
theorem eL_law_40 : decode code 40 = .ok (.bipush 15, 2) := by decide +kernel
theorem dL_law_40 {nm : String} : decode (yL_law nm).2.1 40 = .ok (.bipush 15, 2) := eL_law_40
theorem eL_law_42 : decode code 42 = .ok (.iand, 1) := by decide +kernel
theorem dL_law_42 {nm : String} : decode (yL_law nm).2.1 42 = .ok (.iand, 1) := eL_law_42
theorem eL_law_43 : decode code 43 = .ok (.tableswitch 418 0 14 #[73, 136, 149, 162, 185, 208, 241, 254, 277, 290, 303, 366, 379, 392, 405], 73) := by decide +kernel
theorem dL_law_43 {nm : String} : decode (yL_law nm).2.1 43 = .ok (.tableswitch 418 0 14 #[73, 136, 149, 162, 185, 208, 241, 254, 277, 290, 303, 366, 379, 392, 405], 73) := eL_law_43
theorem eL_law_116 : decode code 116 = .ok (.aload_n 1, 1) := by decide +kernel
theorem dL_law_116 {nm : String} : decode (yL_law nm).2.1 116 = .ok (.aload_n 1, 1) := eL_law_116
theorem eL_law_117 : decode code 117 = .ok (.aload_n 0, 1) := by decide +kernel
theorem dL_law_117 {nm : String} : decode (yL_law nm).2.1 117 = .ok (.aload_n 0, 1) := eL_law_117
theorem eL_law_118 : decode code 118 = .ok (.iload_n 3, 1) := by decide +kernel
theorem dL_law_118 {nm : String} : decode (yL_law nm).2.1 118 = .ok (.iload_n 3, 1) := eL_law_118
theorem eL_law_119 : decode code 119 = .ok (.iconst 1, 1) := by decide +kernel
theorem dL_law_119 {nm : String} : decode (yL_law nm).2.1 119 = .ok (.iconst 1, 1) := eL_law_119
theorem eL_law_120 : decode code 120 = .ok (.iadd, 1) := by decide +kernel
theorem dL_law_120 {nm : String} : decode (yL_law nm).2.1 120 = .ok (.iadd, 1) := eL_law_120
theorem eL_law_121 : decode code 121 = .ok (.iaload, 1) := by decide +kernel
theorem dL_law_121 {nm : String} : decode (yL_law nm).2.1 121 = .ok (.iaload, 1) := eL_law_121
theorem eL_law_122 : decode code 122 = .ok (.aload_n 0, 1) := by decide +kernel
theorem dL_law_122 {nm : String} : decode (yL_law nm).2.1 122 = .ok (.aload_n 0, 1) := eL_law_122
theorem eL_law_123 : decode code 123 = .ok (.iload_n 3, 1) := by decide +kernel
theorem dL_law_123 {nm : String} : decode (yL_law nm).2.1 123 = .ok (.iload_n 3, 1) := eL_law_123
theorem eL_law_124 : decode code 124 = .ok (.iconst 2, 1) := by decide +kernel
theorem dL_law_124 {nm : String} : decode (yL_law nm).2.1 124 = .ok (.iconst 2, 1) := eL_law_124
theorem eL_law_125 : decode code 125 = .ok (.iadd, 1) := by decide +kernel
theorem dL_law_125 {nm : String} : decode (yL_law nm).2.1 125 = .ok (.iadd, 1) := eL_law_125
theorem eL_law_126 : decode code 126 = .ok (.iaload, 1) := by decide +kernel
theorem dL_law_126 {nm : String} : decode (yL_law nm).2.1 126 = .ok (.iaload, 1) := eL_law_126
theorem eL_law_127 : decode code 127 = .ok (.aload_n 0, 1) := by decide +kernel
theorem dL_law_127 {nm : String} : decode (yL_law nm).2.1 127 = .ok (.aload_n 0, 1) := eL_law_127
theorem eL_law_128 : decode code 128 = .ok (.iload_n 3, 1) := by decide +kernel
theorem dL_law_128 {nm : String} : decode (yL_law nm).2.1 128 = .ok (.iload_n 3, 1) := eL_law_128
theorem eL_law_129 : decode code 129 = .ok (.iconst 3, 1) := by decide +kernel
theorem dL_law_129 {nm : String} : decode (yL_law nm).2.1 129 = .ok (.iconst 3, 1) := eL_law_129
theorem eL_law_130 : decode code 130 = .ok (.iadd, 1) := by decide +kernel
theorem dL_law_130 {nm : String} : decode (yL_law nm).2.1 130 = .ok (.iadd, 1) := eL_law_130
theorem eL_law_131 : decode code 131 = .ok (.iaload, 1) := by decide +kernel
theorem dL_law_131 {nm : String} : decode (yL_law nm).2.1 131 = .ok (.iaload, 1) := eL_law_131
theorem eL_law_132 : decode code 132 = .ok (.aload_n 0, 1) := by decide +kernel
theorem dL_law_132 {nm : String} : decode (yL_law nm).2.1 132 = .ok (.aload_n 0, 1) := eL_law_132
theorem eL_law_133 : decode code 133 = .ok (.iload_n 3, 1) := by decide +kernel
theorem dL_law_133 {nm : String} : decode (yL_law nm).2.1 133 = .ok (.iload_n 3, 1) := eL_law_133
theorem eL_law_134 : decode code 134 = .ok (.iconst 4, 1) := by decide +kernel
theorem dL_law_134 {nm : String} : decode (yL_law nm).2.1 134 = .ok (.iconst 4, 1) := eL_law_134
theorem eL_law_135 : decode code 135 = .ok (.iadd, 1) := by decide +kernel
theorem dL_law_135 {nm : String} : decode (yL_law nm).2.1 135 = .ok (.iadd, 1) := eL_law_135
theorem eL_law_136 : decode code 136 = .ok (.iaload, 1) := by decide +kernel
theorem dL_law_136 {nm : String} : decode (yL_law nm).2.1 136 = .ok (.iaload, 1) := eL_law_136
theorem eL_law_137 : decode code 137 = .ok (.aload_n 0, 1) := by decide +kernel
theorem dL_law_137 {nm : String} : decode (yL_law nm).2.1 137 = .ok (.aload_n 0, 1) := eL_law_137
theorem eL_law_138 : decode code 138 = .ok (.iload_n 3, 1) := by decide +kernel
theorem dL_law_138 {nm : String} : decode (yL_law nm).2.1 138 = .ok (.iload_n 3, 1) := eL_law_138
theorem eL_law_139 : decode code 139 = .ok (.iconst 5, 1) := by decide +kernel
theorem dL_law_139 {nm : String} : decode (yL_law nm).2.1 139 = .ok (.iconst 5, 1) := eL_law_139
theorem eL_law_140 : decode code 140 = .ok (.iadd, 1) := by decide +kernel
theorem dL_law_140 {nm : String} : decode (yL_law nm).2.1 140 = .ok (.iadd, 1) := eL_law_140
theorem eL_law_141 : decode code 141 = .ok (.iaload, 1) := by decide +kernel
theorem dL_law_141 {nm : String} : decode (yL_law nm).2.1 141 = .ok (.iaload, 1) := eL_law_141
theorem eL_law_142 : decode code 142 = .ok (.invokevirtual 21, 3) := by decide +kernel
theorem dL_law_142 {nm : String} : decode (yL_law nm).2.1 142 = .ok (.invokevirtual 21, 3) := eL_law_142
theorem eL_law_145 : decode code 145 = .ok (.aload_n 2, 1) := by decide +kernel
theorem dL_law_145 {nm : String} : decode (yL_law nm).2.1 145 = .ok (.aload_n 2, 1) := eL_law_145
theorem eL_law_146 : decode code 146 = .ok (.aload_n 0, 1) := by decide +kernel
theorem dL_law_146 {nm : String} : decode (yL_law nm).2.1 146 = .ok (.aload_n 0, 1) := eL_law_146
theorem eL_law_147 : decode code 147 = .ok (.iload_n 3, 1) := by decide +kernel
theorem dL_law_147 {nm : String} : decode (yL_law nm).2.1 147 = .ok (.iload_n 3, 1) := eL_law_147
theorem eL_law_148 : decode code 148 = .ok (.iconst 1, 1) := by decide +kernel
theorem dL_law_148 {nm : String} : decode (yL_law nm).2.1 148 = .ok (.iconst 1, 1) := eL_law_148
theorem eL_law_149 : decode code 149 = .ok (.iadd, 1) := by decide +kernel
theorem dL_law_149 {nm : String} : decode (yL_law nm).2.1 149 = .ok (.iadd, 1) := eL_law_149
theorem eL_law_150 : decode code 150 = .ok (.iaload, 1) := by decide +kernel
theorem dL_law_150 {nm : String} : decode (yL_law nm).2.1 150 = .ok (.iaload, 1) := eL_law_150
theorem eL_law_151 : decode code 151 = .ok (.aload_n 0, 1) := by decide +kernel
theorem dL_law_151 {nm : String} : decode (yL_law nm).2.1 151 = .ok (.aload_n 0, 1) := eL_law_151
theorem eL_law_152 : decode code 152 = .ok (.iload_n 3, 1) := by decide +kernel
theorem dL_law_152 {nm : String} : decode (yL_law nm).2.1 152 = .ok (.iload_n 3, 1) := eL_law_152
theorem eL_law_153 : decode code 153 = .ok (.iconst 2, 1) := by decide +kernel
theorem dL_law_153 {nm : String} : decode (yL_law nm).2.1 153 = .ok (.iconst 2, 1) := eL_law_153
theorem eL_law_154 : decode code 154 = .ok (.iadd, 1) := by decide +kernel
theorem dL_law_154 {nm : String} : decode (yL_law nm).2.1 154 = .ok (.iadd, 1) := eL_law_154
theorem eL_law_155 : decode code 155 = .ok (.iaload, 1) := by decide +kernel
theorem dL_law_155 {nm : String} : decode (yL_law nm).2.1 155 = .ok (.iaload, 1) := eL_law_155
theorem eL_law_156 : decode code 156 = .ok (.aload_n 0, 1) := by decide +kernel
theorem dL_law_156 {nm : String} : decode (yL_law nm).2.1 156 = .ok (.aload_n 0, 1) := eL_law_156
theorem eL_law_157 : decode code 157 = .ok (.iload_n 3, 1) := by decide +kernel
theorem dL_law_157 {nm : String} : decode (yL_law nm).2.1 157 = .ok (.iload_n 3, 1) := eL_law_157
theorem eL_law_158 : decode code 158 = .ok (.iconst 3, 1) := by decide +kernel
theorem dL_law_158 {nm : String} : decode (yL_law nm).2.1 158 = .ok (.iconst 3, 1) := eL_law_158
theorem eL_law_159 : decode code 159 = .ok (.iadd, 1) := by decide +kernel
theorem dL_law_159 {nm : String} : decode (yL_law nm).2.1 159 = .ok (.iadd, 1) := eL_law_159
theorem eL_law_160 : decode code 160 = .ok (.iaload, 1) := by decide +kernel
theorem dL_law_160 {nm : String} : decode (yL_law nm).2.1 160 = .ok (.iaload, 1) := eL_law_160
theorem eL_law_161 : decode code 161 = .ok (.aload_n 0, 1) := by decide +kernel
theorem dL_law_161 {nm : String} : decode (yL_law nm).2.1 161 = .ok (.aload_n 0, 1) := eL_law_161
theorem eL_law_162 : decode code 162 = .ok (.iload_n 3, 1) := by decide +kernel
theorem dL_law_162 {nm : String} : decode (yL_law nm).2.1 162 = .ok (.iload_n 3, 1) := eL_law_162
theorem eL_law_163 : decode code 163 = .ok (.iconst 4, 1) := by decide +kernel
theorem dL_law_163 {nm : String} : decode (yL_law nm).2.1 163 = .ok (.iconst 4, 1) := eL_law_163
theorem eL_law_164 : decode code 164 = .ok (.iadd, 1) := by decide +kernel
theorem dL_law_164 {nm : String} : decode (yL_law nm).2.1 164 = .ok (.iadd, 1) := eL_law_164
theorem eL_law_165 : decode code 165 = .ok (.iaload, 1) := by decide +kernel
theorem dL_law_165 {nm : String} : decode (yL_law nm).2.1 165 = .ok (.iaload, 1) := eL_law_165
theorem eL_law_166 : decode code 166 = .ok (.aload_n 0, 1) := by decide +kernel
theorem dL_law_166 {nm : String} : decode (yL_law nm).2.1 166 = .ok (.aload_n 0, 1) := eL_law_166
theorem eL_law_167 : decode code 167 = .ok (.iload_n 3, 1) := by decide +kernel
theorem dL_law_167 {nm : String} : decode (yL_law nm).2.1 167 = .ok (.iload_n 3, 1) := eL_law_167
theorem eL_law_168 : decode code 168 = .ok (.iconst 5, 1) := by decide +kernel
theorem dL_law_168 {nm : String} : decode (yL_law nm).2.1 168 = .ok (.iconst 5, 1) := eL_law_168
theorem eL_law_169 : decode code 169 = .ok (.iadd, 1) := by decide +kernel
theorem dL_law_169 {nm : String} : decode (yL_law nm).2.1 169 = .ok (.iadd, 1) := eL_law_169
theorem eL_law_170 : decode code 170 = .ok (.iaload, 1) := by decide +kernel
theorem dL_law_170 {nm : String} : decode (yL_law nm).2.1 170 = .ok (.iaload, 1) := eL_law_170
theorem eL_law_171 : decode code 171 = .ok (.invokevirtual 25, 3) := by decide +kernel
theorem dL_law_171 {nm : String} : decode (yL_law nm).2.1 171 = .ok (.invokevirtual 25, 3) := eL_law_171
theorem eL_law_174 : decode code 174 = .ok (.if_icmp .eq 287, 3) := by decide +kernel
theorem dL_law_174 {nm : String} : decode (yL_law nm).2.1 174 = .ok (.if_icmp .eq 287, 3) := eL_law_174
theorem eL_law_177 : decode code 177 = .ok (.iconst 0, 1) := by decide +kernel
theorem dL_law_177 {nm : String} : decode (yL_law nm).2.1 177 = .ok (.iconst 0, 1) := eL_law_177
theorem eL_law_178 : decode code 178 = .ok (.ireturn, 1) := by decide +kernel
theorem dL_law_178 {nm : String} : decode (yL_law nm).2.1 178 = .ok (.ireturn, 1) := eL_law_178
theorem eL_law_179 : decode code 179 = .ok (.aload_n 1, 1) := by decide +kernel
theorem dL_law_179 {nm : String} : decode (yL_law nm).2.1 179 = .ok (.aload_n 1, 1) := eL_law_179
theorem eL_law_180 : decode code 180 = .ok (.invokevirtual 26, 3) := by decide +kernel
theorem dL_law_180 {nm : String} : decode (yL_law nm).2.1 180 = .ok (.invokevirtual 26, 3) := eL_law_180
theorem eL_law_183 : decode code 183 = .ok (.aload_n 2, 1) := by decide +kernel
theorem dL_law_183 {nm : String} : decode (yL_law nm).2.1 183 = .ok (.aload_n 2, 1) := eL_law_183
theorem eL_law_184 : decode code 184 = .ok (.invokevirtual 30, 3) := by decide +kernel
theorem dL_law_184 {nm : String} : decode (yL_law nm).2.1 184 = .ok (.invokevirtual 30, 3) := eL_law_184
theorem eL_law_187 : decode code 187 = .ok (.if_icmp .eq 274, 3) := by decide +kernel
theorem dL_law_187 {nm : String} : decode (yL_law nm).2.1 187 = .ok (.if_icmp .eq 274, 3) := eL_law_187
theorem eL_law_190 : decode code 190 = .ok (.iconst 0, 1) := by decide +kernel
theorem dL_law_190 {nm : String} : decode (yL_law nm).2.1 190 = .ok (.iconst 0, 1) := eL_law_190
theorem eL_law_191 : decode code 191 = .ok (.ireturn, 1) := by decide +kernel
theorem dL_law_191 {nm : String} : decode (yL_law nm).2.1 191 = .ok (.ireturn, 1) := eL_law_191
theorem eL_law_192 : decode code 192 = .ok (.aload_n 1, 1) := by decide +kernel
theorem dL_law_192 {nm : String} : decode (yL_law nm).2.1 192 = .ok (.aload_n 1, 1) := eL_law_192
theorem eL_law_193 : decode code 193 = .ok (.invokevirtual 31, 3) := by decide +kernel
theorem dL_law_193 {nm : String} : decode (yL_law nm).2.1 193 = .ok (.invokevirtual 31, 3) := eL_law_193
theorem eL_law_196 : decode code 196 = .ok (.aload_n 2, 1) := by decide +kernel
theorem dL_law_196 {nm : String} : decode (yL_law nm).2.1 196 = .ok (.aload_n 2, 1) := eL_law_196
theorem eL_law_197 : decode code 197 = .ok (.invokevirtual 34, 3) := by decide +kernel
theorem dL_law_197 {nm : String} : decode (yL_law nm).2.1 197 = .ok (.invokevirtual 34, 3) := eL_law_197
theorem eL_law_200 : decode code 200 = .ok (.if_icmp .eq 261, 3) := by decide +kernel
theorem dL_law_200 {nm : String} : decode (yL_law nm).2.1 200 = .ok (.if_icmp .eq 261, 3) := eL_law_200
theorem eL_law_203 : decode code 203 = .ok (.iconst 0, 1) := by decide +kernel
theorem dL_law_203 {nm : String} : decode (yL_law nm).2.1 203 = .ok (.iconst 0, 1) := eL_law_203
theorem eL_law_204 : decode code 204 = .ok (.ireturn, 1) := by decide +kernel
theorem dL_law_204 {nm : String} : decode (yL_law nm).2.1 204 = .ok (.ireturn, 1) := eL_law_204
theorem eL_law_205 : decode code 205 = .ok (.aload_n 1, 1) := by decide +kernel
theorem dL_law_205 {nm : String} : decode (yL_law nm).2.1 205 = .ok (.aload_n 1, 1) := eL_law_205
theorem eL_law_206 : decode code 206 = .ok (.aload_n 0, 1) := by decide +kernel
theorem dL_law_206 {nm : String} : decode (yL_law nm).2.1 206 = .ok (.aload_n 0, 1) := eL_law_206
theorem eL_law_207 : decode code 207 = .ok (.iload_n 3, 1) := by decide +kernel
theorem dL_law_207 {nm : String} : decode (yL_law nm).2.1 207 = .ok (.iload_n 3, 1) := eL_law_207
theorem eL_law_208 : decode code 208 = .ok (.iconst 1, 1) := by decide +kernel
theorem dL_law_208 {nm : String} : decode (yL_law nm).2.1 208 = .ok (.iconst 1, 1) := eL_law_208
theorem eL_law_209 : decode code 209 = .ok (.iadd, 1) := by decide +kernel
theorem dL_law_209 {nm : String} : decode (yL_law nm).2.1 209 = .ok (.iadd, 1) := eL_law_209
theorem eL_law_210 : decode code 210 = .ok (.iaload, 1) := by decide +kernel
theorem dL_law_210 {nm : String} : decode (yL_law nm).2.1 210 = .ok (.iaload, 1) := eL_law_210
theorem eL_law_211 : decode code 211 = .ok (.invokevirtual 35, 3) := by decide +kernel
theorem dL_law_211 {nm : String} : decode (yL_law nm).2.1 211 = .ok (.invokevirtual 35, 3) := eL_law_211
theorem eL_law_214 : decode code 214 = .ok (.aload_n 2, 1) := by decide +kernel
theorem dL_law_214 {nm : String} : decode (yL_law nm).2.1 214 = .ok (.aload_n 2, 1) := eL_law_214
theorem eL_law_215 : decode code 215 = .ok (.aload_n 0, 1) := by decide +kernel
theorem dL_law_215 {nm : String} : decode (yL_law nm).2.1 215 = .ok (.aload_n 0, 1) := eL_law_215
theorem eL_law_216 : decode code 216 = .ok (.iload_n 3, 1) := by decide +kernel
theorem dL_law_216 {nm : String} : decode (yL_law nm).2.1 216 = .ok (.iload_n 3, 1) := eL_law_216
theorem eL_law_217 : decode code 217 = .ok (.iconst 1, 1) := by decide +kernel
theorem dL_law_217 {nm : String} : decode (yL_law nm).2.1 217 = .ok (.iconst 1, 1) := eL_law_217
theorem eL_law_218 : decode code 218 = .ok (.iadd, 1) := by decide +kernel
theorem dL_law_218 {nm : String} : decode (yL_law nm).2.1 218 = .ok (.iadd, 1) := eL_law_218
theorem eL_law_219 : decode code 219 = .ok (.iaload, 1) := by decide +kernel
theorem dL_law_219 {nm : String} : decode (yL_law nm).2.1 219 = .ok (.iaload, 1) := eL_law_219
theorem eL_law_220 : decode code 220 = .ok (.invokevirtual 39, 3) := by decide +kernel
theorem dL_law_220 {nm : String} : decode (yL_law nm).2.1 220 = .ok (.invokevirtual 39, 3) := eL_law_220
theorem eL_law_223 : decode code 223 = .ok (.if_icmp .eq 238, 3) := by decide +kernel
theorem dL_law_223 {nm : String} : decode (yL_law nm).2.1 223 = .ok (.if_icmp .eq 238, 3) := eL_law_223
theorem eL_law_226 : decode code 226 = .ok (.iconst 0, 1) := by decide +kernel
theorem dL_law_226 {nm : String} : decode (yL_law nm).2.1 226 = .ok (.iconst 0, 1) := eL_law_226
theorem eL_law_227 : decode code 227 = .ok (.ireturn, 1) := by decide +kernel
theorem dL_law_227 {nm : String} : decode (yL_law nm).2.1 227 = .ok (.ireturn, 1) := eL_law_227
theorem eL_law_228 : decode code 228 = .ok (.aload_n 1, 1) := by decide +kernel
theorem dL_law_228 {nm : String} : decode (yL_law nm).2.1 228 = .ok (.aload_n 1, 1) := eL_law_228
theorem eL_law_229 : decode code 229 = .ok (.aload_n 0, 1) := by decide +kernel
theorem dL_law_229 {nm : String} : decode (yL_law nm).2.1 229 = .ok (.aload_n 0, 1) := eL_law_229
theorem eL_law_230 : decode code 230 = .ok (.iload_n 3, 1) := by decide +kernel
theorem dL_law_230 {nm : String} : decode (yL_law nm).2.1 230 = .ok (.iload_n 3, 1) := eL_law_230
theorem eL_law_231 : decode code 231 = .ok (.iconst 1, 1) := by decide +kernel
theorem dL_law_231 {nm : String} : decode (yL_law nm).2.1 231 = .ok (.iconst 1, 1) := eL_law_231
theorem eL_law_232 : decode code 232 = .ok (.iadd, 1) := by decide +kernel
theorem dL_law_232 {nm : String} : decode (yL_law nm).2.1 232 = .ok (.iadd, 1) := eL_law_232
theorem eL_law_233 : decode code 233 = .ok (.iaload, 1) := by decide +kernel
theorem dL_law_233 {nm : String} : decode (yL_law nm).2.1 233 = .ok (.iaload, 1) := eL_law_233
theorem eL_law_234 : decode code 234 = .ok (.invokevirtual 40, 3) := by decide +kernel
theorem dL_law_234 {nm : String} : decode (yL_law nm).2.1 234 = .ok (.invokevirtual 40, 3) := eL_law_234
theorem eL_law_237 : decode code 237 = .ok (.aload_n 2, 1) := by decide +kernel
theorem dL_law_237 {nm : String} : decode (yL_law nm).2.1 237 = .ok (.aload_n 2, 1) := eL_law_237
theorem eL_law_238 : decode code 238 = .ok (.aload_n 0, 1) := by decide +kernel
theorem dL_law_238 {nm : String} : decode (yL_law nm).2.1 238 = .ok (.aload_n 0, 1) := eL_law_238
theorem eL_law_239 : decode code 239 = .ok (.iload_n 3, 1) := by decide +kernel
theorem dL_law_239 {nm : String} : decode (yL_law nm).2.1 239 = .ok (.iload_n 3, 1) := eL_law_239
theorem eL_law_240 : decode code 240 = .ok (.iconst 1, 1) := by decide +kernel
theorem dL_law_240 {nm : String} : decode (yL_law nm).2.1 240 = .ok (.iconst 1, 1) := eL_law_240
theorem eL_law_241 : decode code 241 = .ok (.iadd, 1) := by decide +kernel
theorem dL_law_241 {nm : String} : decode (yL_law nm).2.1 241 = .ok (.iadd, 1) := eL_law_241
theorem eL_law_242 : decode code 242 = .ok (.iaload, 1) := by decide +kernel
theorem dL_law_242 {nm : String} : decode (yL_law nm).2.1 242 = .ok (.iaload, 1) := eL_law_242
theorem eL_law_243 : decode code 243 = .ok (.invokevirtual 44, 3) := by decide +kernel
theorem dL_law_243 {nm : String} : decode (yL_law nm).2.1 243 = .ok (.invokevirtual 44, 3) := eL_law_243
theorem eL_law_246 : decode code 246 = .ok (.if_icmp .eq 215, 3) := by decide +kernel
theorem dL_law_246 {nm : String} : decode (yL_law nm).2.1 246 = .ok (.if_icmp .eq 215, 3) := eL_law_246
theorem eL_law_249 : decode code 249 = .ok (.iconst 0, 1) := by decide +kernel
theorem dL_law_249 {nm : String} : decode (yL_law nm).2.1 249 = .ok (.iconst 0, 1) := eL_law_249
theorem eL_law_250 : decode code 250 = .ok (.ireturn, 1) := by decide +kernel
theorem dL_law_250 {nm : String} : decode (yL_law nm).2.1 250 = .ok (.ireturn, 1) := eL_law_250
theorem eL_law_251 : decode code 251 = .ok (.aload_n 1, 1) := by decide +kernel
theorem dL_law_251 {nm : String} : decode (yL_law nm).2.1 251 = .ok (.aload_n 1, 1) := eL_law_251
theorem eL_law_252 : decode code 252 = .ok (.aload_n 0, 1) := by decide +kernel
theorem dL_law_252 {nm : String} : decode (yL_law nm).2.1 252 = .ok (.aload_n 0, 1) := eL_law_252
theorem eL_law_253 : decode code 253 = .ok (.iload_n 3, 1) := by decide +kernel
theorem dL_law_253 {nm : String} : decode (yL_law nm).2.1 253 = .ok (.iload_n 3, 1) := eL_law_253
theorem eL_law_254 : decode code 254 = .ok (.iconst 1, 1) := by decide +kernel
theorem dL_law_254 {nm : String} : decode (yL_law nm).2.1 254 = .ok (.iconst 1, 1) := eL_law_254
theorem eL_law_255 : decode code 255 = .ok (.iadd, 1) := by decide +kernel
theorem dL_law_255 {nm : String} : decode (yL_law nm).2.1 255 = .ok (.iadd, 1) := eL_law_255
theorem eL_law_256 : decode code 256 = .ok (.iaload, 1) := by decide +kernel
theorem dL_law_256 {nm : String} : decode (yL_law nm).2.1 256 = .ok (.iaload, 1) := eL_law_256
theorem eL_law_257 : decode code 257 = .ok (.aload_n 0, 1) := by decide +kernel
theorem dL_law_257 {nm : String} : decode (yL_law nm).2.1 257 = .ok (.aload_n 0, 1) := eL_law_257
theorem eL_law_258 : decode code 258 = .ok (.iload_n 3, 1) := by decide +kernel
theorem dL_law_258 {nm : String} : decode (yL_law nm).2.1 258 = .ok (.iload_n 3, 1) := eL_law_258
theorem eL_law_259 : decode code 259 = .ok (.iconst 2, 1) := by decide +kernel
theorem dL_law_259 {nm : String} : decode (yL_law nm).2.1 259 = .ok (.iconst 2, 1) := eL_law_259
theorem eL_law_260 : decode code 260 = .ok (.iadd, 1) := by decide +kernel
theorem dL_law_260 {nm : String} : decode (yL_law nm).2.1 260 = .ok (.iadd, 1) := eL_law_260
theorem eL_law_261 : decode code 261 = .ok (.iaload, 1) := by decide +kernel
theorem dL_law_261 {nm : String} : decode (yL_law nm).2.1 261 = .ok (.iaload, 1) := eL_law_261
theorem eL_law_262 : decode code 262 = .ok (.invokevirtual 45, 3) := by decide +kernel
theorem dL_law_262 {nm : String} : decode (yL_law nm).2.1 262 = .ok (.invokevirtual 45, 3) := eL_law_262
theorem eL_law_265 : decode code 265 = .ok (.aload_n 2, 1) := by decide +kernel
theorem dL_law_265 {nm : String} : decode (yL_law nm).2.1 265 = .ok (.aload_n 2, 1) := eL_law_265
theorem eL_law_266 : decode code 266 = .ok (.aload_n 0, 1) := by decide +kernel
theorem dL_law_266 {nm : String} : decode (yL_law nm).2.1 266 = .ok (.aload_n 0, 1) := eL_law_266
theorem eL_law_267 : decode code 267 = .ok (.iload_n 3, 1) := by decide +kernel
theorem dL_law_267 {nm : String} : decode (yL_law nm).2.1 267 = .ok (.iload_n 3, 1) := eL_law_267
theorem eL_law_268 : decode code 268 = .ok (.iconst 1, 1) := by decide +kernel
theorem dL_law_268 {nm : String} : decode (yL_law nm).2.1 268 = .ok (.iconst 1, 1) := eL_law_268
theorem eL_law_269 : decode code 269 = .ok (.iadd, 1) := by decide +kernel
theorem dL_law_269 {nm : String} : decode (yL_law nm).2.1 269 = .ok (.iadd, 1) := eL_law_269
theorem eL_law_270 : decode code 270 = .ok (.iaload, 1) := by decide +kernel
theorem dL_law_270 {nm : String} : decode (yL_law nm).2.1 270 = .ok (.iaload, 1) := eL_law_270
theorem eL_law_271 : decode code 271 = .ok (.aload_n 0, 1) := by decide +kernel
theorem dL_law_271 {nm : String} : decode (yL_law nm).2.1 271 = .ok (.aload_n 0, 1) := eL_law_271
theorem eL_law_272 : decode code 272 = .ok (.iload_n 3, 1) := by decide +kernel
theorem dL_law_272 {nm : String} : decode (yL_law nm).2.1 272 = .ok (.iload_n 3, 1) := eL_law_272
theorem eL_law_273 : decode code 273 = .ok (.iconst 2, 1) := by decide +kernel
theorem dL_law_273 {nm : String} : decode (yL_law nm).2.1 273 = .ok (.iconst 2, 1) := eL_law_273
theorem eL_law_274 : decode code 274 = .ok (.iadd, 1) := by decide +kernel
theorem dL_law_274 {nm : String} : decode (yL_law nm).2.1 274 = .ok (.iadd, 1) := eL_law_274
theorem eL_law_275 : decode code 275 = .ok (.iaload, 1) := by decide +kernel
theorem dL_law_275 {nm : String} : decode (yL_law nm).2.1 275 = .ok (.iaload, 1) := eL_law_275
theorem eL_law_276 : decode code 276 = .ok (.invokevirtual 49, 3) := by decide +kernel
theorem dL_law_276 {nm : String} : decode (yL_law nm).2.1 276 = .ok (.invokevirtual 49, 3) := eL_law_276
theorem eL_law_279 : decode code 279 = .ok (.if_icmp .eq 182, 3) := by decide +kernel
theorem dL_law_279 {nm : String} : decode (yL_law nm).2.1 279 = .ok (.if_icmp .eq 182, 3) := eL_law_279
theorem eL_law_282 : decode code 282 = .ok (.iconst 0, 1) := by decide +kernel
theorem dL_law_282 {nm : String} : decode (yL_law nm).2.1 282 = .ok (.iconst 0, 1) := eL_law_282
theorem eL_law_283 : decode code 283 = .ok (.ireturn, 1) := by decide +kernel
theorem dL_law_283 {nm : String} : decode (yL_law nm).2.1 283 = .ok (.ireturn, 1) := eL_law_283
theorem eL_law_284 : decode code 284 = .ok (.aload_n 1, 1) := by decide +kernel
theorem dL_law_284 {nm : String} : decode (yL_law nm).2.1 284 = .ok (.aload_n 1, 1) := eL_law_284
theorem eL_law_285 : decode code 285 = .ok (.invokevirtual 50, 3) := by decide +kernel
theorem dL_law_285 {nm : String} : decode (yL_law nm).2.1 285 = .ok (.invokevirtual 50, 3) := eL_law_285
theorem eL_law_288 : decode code 288 = .ok (.aload_n 2, 1) := by decide +kernel
theorem dL_law_288 {nm : String} : decode (yL_law nm).2.1 288 = .ok (.aload_n 2, 1) := eL_law_288
theorem eL_law_289 : decode code 289 = .ok (.invokevirtual 53, 3) := by decide +kernel
theorem dL_law_289 {nm : String} : decode (yL_law nm).2.1 289 = .ok (.invokevirtual 53, 3) := eL_law_289
theorem eL_law_292 : decode code 292 = .ok (.if_icmp .eq 169, 3) := by decide +kernel
theorem dL_law_292 {nm : String} : decode (yL_law nm).2.1 292 = .ok (.if_icmp .eq 169, 3) := eL_law_292
theorem eL_law_295 : decode code 295 = .ok (.iconst 0, 1) := by decide +kernel
theorem dL_law_295 {nm : String} : decode (yL_law nm).2.1 295 = .ok (.iconst 0, 1) := eL_law_295
theorem eL_law_296 : decode code 296 = .ok (.ireturn, 1) := by decide +kernel
theorem dL_law_296 {nm : String} : decode (yL_law nm).2.1 296 = .ok (.ireturn, 1) := eL_law_296
theorem eL_law_297 : decode code 297 = .ok (.aload_n 1, 1) := by decide +kernel
theorem dL_law_297 {nm : String} : decode (yL_law nm).2.1 297 = .ok (.aload_n 1, 1) := eL_law_297
theorem eL_law_298 : decode code 298 = .ok (.aload_n 0, 1) := by decide +kernel
theorem dL_law_298 {nm : String} : decode (yL_law nm).2.1 298 = .ok (.aload_n 0, 1) := eL_law_298
theorem eL_law_299 : decode code 299 = .ok (.iload_n 3, 1) := by decide +kernel
theorem dL_law_299 {nm : String} : decode (yL_law nm).2.1 299 = .ok (.iload_n 3, 1) := eL_law_299
theorem eL_law_300 : decode code 300 = .ok (.iconst 1, 1) := by decide +kernel
theorem dL_law_300 {nm : String} : decode (yL_law nm).2.1 300 = .ok (.iconst 1, 1) := eL_law_300
theorem eL_law_301 : decode code 301 = .ok (.iadd, 1) := by decide +kernel
theorem dL_law_301 {nm : String} : decode (yL_law nm).2.1 301 = .ok (.iadd, 1) := eL_law_301
theorem eL_law_302 : decode code 302 = .ok (.iaload, 1) := by decide +kernel
theorem dL_law_302 {nm : String} : decode (yL_law nm).2.1 302 = .ok (.iaload, 1) := eL_law_302
theorem eL_law_303 : decode code 303 = .ok (.invokevirtual 54, 3) := by decide +kernel
theorem dL_law_303 {nm : String} : decode (yL_law nm).2.1 303 = .ok (.invokevirtual 54, 3) := eL_law_303
theorem eL_law_306 : decode code 306 = .ok (.aload_n 2, 1) := by decide +kernel
theorem dL_law_306 {nm : String} : decode (yL_law nm).2.1 306 = .ok (.aload_n 2, 1) := eL_law_306
theorem eL_law_307 : decode code 307 = .ok (.aload_n 0, 1) := by decide +kernel
theorem dL_law_307 {nm : String} : decode (yL_law nm).2.1 307 = .ok (.aload_n 0, 1) := eL_law_307
theorem eL_law_308 : decode code 308 = .ok (.iload_n 3, 1) := by decide +kernel
theorem dL_law_308 {nm : String} : decode (yL_law nm).2.1 308 = .ok (.iload_n 3, 1) := eL_law_308
theorem eL_law_309 : decode code 309 = .ok (.iconst 1, 1) := by decide +kernel
theorem dL_law_309 {nm : String} : decode (yL_law nm).2.1 309 = .ok (.iconst 1, 1) := eL_law_309
theorem eL_law_310 : decode code 310 = .ok (.iadd, 1) := by decide +kernel
theorem dL_law_310 {nm : String} : decode (yL_law nm).2.1 310 = .ok (.iadd, 1) := eL_law_310
theorem eL_law_311 : decode code 311 = .ok (.iaload, 1) := by decide +kernel
theorem dL_law_311 {nm : String} : decode (yL_law nm).2.1 311 = .ok (.iaload, 1) := eL_law_311
theorem eL_law_312 : decode code 312 = .ok (.invokevirtual 57, 3) := by decide +kernel
theorem dL_law_312 {nm : String} : decode (yL_law nm).2.1 312 = .ok (.invokevirtual 57, 3) := eL_law_312
theorem eL_law_315 : decode code 315 = .ok (.if_icmp .eq 146, 3) := by decide +kernel
theorem dL_law_315 {nm : String} : decode (yL_law nm).2.1 315 = .ok (.if_icmp .eq 146, 3) := eL_law_315
theorem eL_law_318 : decode code 318 = .ok (.iconst 0, 1) := by decide +kernel
theorem dL_law_318 {nm : String} : decode (yL_law nm).2.1 318 = .ok (.iconst 0, 1) := eL_law_318
theorem eL_law_319 : decode code 319 = .ok (.ireturn, 1) := by decide +kernel
theorem dL_law_319 {nm : String} : decode (yL_law nm).2.1 319 = .ok (.ireturn, 1) := eL_law_319
theorem eL_law_320 : decode code 320 = .ok (.aload_n 1, 1) := by decide +kernel
theorem dL_law_320 {nm : String} : decode (yL_law nm).2.1 320 = .ok (.aload_n 1, 1) := eL_law_320
theorem eL_law_321 : decode code 321 = .ok (.invokevirtual 58, 3) := by decide +kernel
theorem dL_law_321 {nm : String} : decode (yL_law nm).2.1 321 = .ok (.invokevirtual 58, 3) := eL_law_321
theorem eL_law_324 : decode code 324 = .ok (.aload_n 2, 1) := by decide +kernel
theorem dL_law_324 {nm : String} : decode (yL_law nm).2.1 324 = .ok (.aload_n 2, 1) := eL_law_324
theorem eL_law_325 : decode code 325 = .ok (.invokevirtual 61, 3) := by decide +kernel
theorem dL_law_325 {nm : String} : decode (yL_law nm).2.1 325 = .ok (.invokevirtual 61, 3) := eL_law_325
theorem eL_law_328 : decode code 328 = .ok (.if_icmp .eq 133, 3) := by decide +kernel
theorem dL_law_328 {nm : String} : decode (yL_law nm).2.1 328 = .ok (.if_icmp .eq 133, 3) := eL_law_328
theorem eL_law_331 : decode code 331 = .ok (.iconst 0, 1) := by decide +kernel
theorem dL_law_331 {nm : String} : decode (yL_law nm).2.1 331 = .ok (.iconst 0, 1) := eL_law_331
theorem eL_law_332 : decode code 332 = .ok (.ireturn, 1) := by decide +kernel
theorem dL_law_332 {nm : String} : decode (yL_law nm).2.1 332 = .ok (.ireturn, 1) := eL_law_332
theorem eL_law_333 : decode code 333 = .ok (.aload_n 1, 1) := by decide +kernel
theorem dL_law_333 {nm : String} : decode (yL_law nm).2.1 333 = .ok (.aload_n 1, 1) := eL_law_333
theorem eL_law_334 : decode code 334 = .ok (.invokevirtual 62, 3) := by decide +kernel
theorem dL_law_334 {nm : String} : decode (yL_law nm).2.1 334 = .ok (.invokevirtual 62, 3) := eL_law_334
theorem eL_law_337 : decode code 337 = .ok (.aload_n 2, 1) := by decide +kernel
theorem dL_law_337 {nm : String} : decode (yL_law nm).2.1 337 = .ok (.aload_n 2, 1) := eL_law_337
theorem eL_law_338 : decode code 338 = .ok (.invokevirtual 65, 3) := by decide +kernel
theorem dL_law_338 {nm : String} : decode (yL_law nm).2.1 338 = .ok (.invokevirtual 65, 3) := eL_law_338
theorem eL_law_341 : decode code 341 = .ok (.if_icmp .eq 120, 3) := by decide +kernel
theorem dL_law_341 {nm : String} : decode (yL_law nm).2.1 341 = .ok (.if_icmp .eq 120, 3) := eL_law_341
theorem eL_law_344 : decode code 344 = .ok (.iconst 0, 1) := by decide +kernel
theorem dL_law_344 {nm : String} : decode (yL_law nm).2.1 344 = .ok (.iconst 0, 1) := eL_law_344
theorem eL_law_345 : decode code 345 = .ok (.ireturn, 1) := by decide +kernel
theorem dL_law_345 {nm : String} : decode (yL_law nm).2.1 345 = .ok (.ireturn, 1) := eL_law_345
theorem eL_law_346 : decode code 346 = .ok (.aload_n 1, 1) := by decide +kernel
theorem dL_law_346 {nm : String} : decode (yL_law nm).2.1 346 = .ok (.aload_n 1, 1) := eL_law_346
theorem eL_law_347 : decode code 347 = .ok (.aload_n 0, 1) := by decide +kernel
theorem dL_law_347 {nm : String} : decode (yL_law nm).2.1 347 = .ok (.aload_n 0, 1) := eL_law_347
theorem eL_law_348 : decode code 348 = .ok (.iload_n 3, 1) := by decide +kernel
theorem dL_law_348 {nm : String} : decode (yL_law nm).2.1 348 = .ok (.iload_n 3, 1) := eL_law_348
theorem eL_law_349 : decode code 349 = .ok (.iconst 1, 1) := by decide +kernel
theorem dL_law_349 {nm : String} : decode (yL_law nm).2.1 349 = .ok (.iconst 1, 1) := eL_law_349
theorem eL_law_350 : decode code 350 = .ok (.iadd, 1) := by decide +kernel
theorem dL_law_350 {nm : String} : decode (yL_law nm).2.1 350 = .ok (.iadd, 1) := eL_law_350
theorem eL_law_351 : decode code 351 = .ok (.iaload, 1) := by decide +kernel
theorem dL_law_351 {nm : String} : decode (yL_law nm).2.1 351 = .ok (.iaload, 1) := eL_law_351
theorem eL_law_352 : decode code 352 = .ok (.i2l, 1) := by decide +kernel
theorem dL_law_352 {nm : String} : decode (yL_law nm).2.1 352 = .ok (.i2l, 1) := eL_law_352
theorem eL_law_353 : decode code 353 = .ok (.bipush 32, 2) := by decide +kernel
theorem dL_law_353 {nm : String} : decode (yL_law nm).2.1 353 = .ok (.bipush 32, 2) := eL_law_353
theorem eL_law_355 : decode code 355 = .ok (.lshl, 1) := by decide +kernel
theorem dL_law_355 {nm : String} : decode (yL_law nm).2.1 355 = .ok (.lshl, 1) := eL_law_355
theorem eL_law_356 : decode code 356 = .ok (.aload_n 0, 1) := by decide +kernel
theorem dL_law_356 {nm : String} : decode (yL_law nm).2.1 356 = .ok (.aload_n 0, 1) := eL_law_356
theorem eL_law_357 : decode code 357 = .ok (.iload_n 3, 1) := by decide +kernel
theorem dL_law_357 {nm : String} : decode (yL_law nm).2.1 357 = .ok (.iload_n 3, 1) := eL_law_357
theorem eL_law_358 : decode code 358 = .ok (.iconst 2, 1) := by decide +kernel
theorem dL_law_358 {nm : String} : decode (yL_law nm).2.1 358 = .ok (.iconst 2, 1) := eL_law_358
theorem eL_law_359 : decode code 359 = .ok (.iadd, 1) := by decide +kernel
theorem dL_law_359 {nm : String} : decode (yL_law nm).2.1 359 = .ok (.iadd, 1) := eL_law_359
theorem eL_law_360 : decode code 360 = .ok (.iaload, 1) := by decide +kernel
theorem dL_law_360 {nm : String} : decode (yL_law nm).2.1 360 = .ok (.iaload, 1) := eL_law_360
theorem eL_law_361 : decode code 361 = .ok (.i2l, 1) := by decide +kernel
theorem dL_law_361 {nm : String} : decode (yL_law nm).2.1 361 = .ok (.i2l, 1) := eL_law_361
theorem eL_law_362 : decode code 362 = .ok (.ldc2_w 66, 3) := by decide +kernel
theorem dL_law_362 {nm : String} : decode (yL_law nm).2.1 362 = .ok (.ldc2_w 66, 3) := eL_law_362
theorem eL_law_365 : decode code 365 = .ok (.land, 1) := by decide +kernel
theorem dL_law_365 {nm : String} : decode (yL_law nm).2.1 365 = .ok (.land, 1) := eL_law_365
theorem eL_law_366 : decode code 366 = .ok (.lor, 1) := by decide +kernel
theorem dL_law_366 {nm : String} : decode (yL_law nm).2.1 366 = .ok (.lor, 1) := eL_law_366
theorem eL_law_367 : decode code 367 = .ok (.aload_n 0, 1) := by decide +kernel
theorem dL_law_367 {nm : String} : decode (yL_law nm).2.1 367 = .ok (.aload_n 0, 1) := eL_law_367
theorem eL_law_368 : decode code 368 = .ok (.iload_n 3, 1) := by decide +kernel
theorem dL_law_368 {nm : String} : decode (yL_law nm).2.1 368 = .ok (.iload_n 3, 1) := eL_law_368
theorem eL_law_369 : decode code 369 = .ok (.iconst 3, 1) := by decide +kernel
theorem dL_law_369 {nm : String} : decode (yL_law nm).2.1 369 = .ok (.iconst 3, 1) := eL_law_369
theorem eL_law_370 : decode code 370 = .ok (.iadd, 1) := by decide +kernel
theorem dL_law_370 {nm : String} : decode (yL_law nm).2.1 370 = .ok (.iadd, 1) := eL_law_370
theorem eL_law_371 : decode code 371 = .ok (.iaload, 1) := by decide +kernel
theorem dL_law_371 {nm : String} : decode (yL_law nm).2.1 371 = .ok (.iaload, 1) := eL_law_371
theorem eL_law_372 : decode code 372 = .ok (.invokevirtual 68, 3) := by decide +kernel
theorem dL_law_372 {nm : String} : decode (yL_law nm).2.1 372 = .ok (.invokevirtual 68, 3) := eL_law_372
theorem eL_law_375 : decode code 375 = .ok (.aload_n 2, 1) := by decide +kernel
theorem dL_law_375 {nm : String} : decode (yL_law nm).2.1 375 = .ok (.aload_n 2, 1) := eL_law_375
theorem eL_law_376 : decode code 376 = .ok (.aload_n 0, 1) := by decide +kernel
theorem dL_law_376 {nm : String} : decode (yL_law nm).2.1 376 = .ok (.aload_n 0, 1) := eL_law_376
theorem eL_law_377 : decode code 377 = .ok (.iload_n 3, 1) := by decide +kernel
theorem dL_law_377 {nm : String} : decode (yL_law nm).2.1 377 = .ok (.iload_n 3, 1) := eL_law_377
theorem eL_law_378 : decode code 378 = .ok (.iconst 1, 1) := by decide +kernel
theorem dL_law_378 {nm : String} : decode (yL_law nm).2.1 378 = .ok (.iconst 1, 1) := eL_law_378
theorem eL_law_379 : decode code 379 = .ok (.iadd, 1) := by decide +kernel
theorem dL_law_379 {nm : String} : decode (yL_law nm).2.1 379 = .ok (.iadd, 1) := eL_law_379
theorem eL_law_380 : decode code 380 = .ok (.iaload, 1) := by decide +kernel
theorem dL_law_380 {nm : String} : decode (yL_law nm).2.1 380 = .ok (.iaload, 1) := eL_law_380
theorem eL_law_381 : decode code 381 = .ok (.i2l, 1) := by decide +kernel
theorem dL_law_381 {nm : String} : decode (yL_law nm).2.1 381 = .ok (.i2l, 1) := eL_law_381
theorem eL_law_382 : decode code 382 = .ok (.bipush 32, 2) := by decide +kernel
theorem dL_law_382 {nm : String} : decode (yL_law nm).2.1 382 = .ok (.bipush 32, 2) := eL_law_382
theorem eL_law_384 : decode code 384 = .ok (.lshl, 1) := by decide +kernel
theorem dL_law_384 {nm : String} : decode (yL_law nm).2.1 384 = .ok (.lshl, 1) := eL_law_384
theorem eL_law_385 : decode code 385 = .ok (.aload_n 0, 1) := by decide +kernel
theorem dL_law_385 {nm : String} : decode (yL_law nm).2.1 385 = .ok (.aload_n 0, 1) := eL_law_385
theorem eL_law_386 : decode code 386 = .ok (.iload_n 3, 1) := by decide +kernel
theorem dL_law_386 {nm : String} : decode (yL_law nm).2.1 386 = .ok (.iload_n 3, 1) := eL_law_386
theorem eL_law_387 : decode code 387 = .ok (.iconst 2, 1) := by decide +kernel
theorem dL_law_387 {nm : String} : decode (yL_law nm).2.1 387 = .ok (.iconst 2, 1) := eL_law_387
theorem eL_law_388 : decode code 388 = .ok (.iadd, 1) := by decide +kernel
theorem dL_law_388 {nm : String} : decode (yL_law nm).2.1 388 = .ok (.iadd, 1) := eL_law_388
theorem eL_law_389 : decode code 389 = .ok (.iaload, 1) := by decide +kernel
theorem dL_law_389 {nm : String} : decode (yL_law nm).2.1 389 = .ok (.iaload, 1) := eL_law_389
theorem eL_law_390 : decode code 390 = .ok (.i2l, 1) := by decide +kernel
theorem dL_law_390 {nm : String} : decode (yL_law nm).2.1 390 = .ok (.i2l, 1) := eL_law_390
theorem eL_law_391 : decode code 391 = .ok (.ldc2_w 66, 3) := by decide +kernel
theorem dL_law_391 {nm : String} : decode (yL_law nm).2.1 391 = .ok (.ldc2_w 66, 3) := eL_law_391
theorem eL_law_394 : decode code 394 = .ok (.land, 1) := by decide +kernel
theorem dL_law_394 {nm : String} : decode (yL_law nm).2.1 394 = .ok (.land, 1) := eL_law_394
theorem eL_law_395 : decode code 395 = .ok (.lor, 1) := by decide +kernel
theorem dL_law_395 {nm : String} : decode (yL_law nm).2.1 395 = .ok (.lor, 1) := eL_law_395
theorem eL_law_396 : decode code 396 = .ok (.aload_n 0, 1) := by decide +kernel
theorem dL_law_396 {nm : String} : decode (yL_law nm).2.1 396 = .ok (.aload_n 0, 1) := eL_law_396
theorem eL_law_397 : decode code 397 = .ok (.iload_n 3, 1) := by decide +kernel
theorem dL_law_397 {nm : String} : decode (yL_law nm).2.1 397 = .ok (.iload_n 3, 1) := eL_law_397
theorem eL_law_398 : decode code 398 = .ok (.iconst 3, 1) := by decide +kernel
theorem dL_law_398 {nm : String} : decode (yL_law nm).2.1 398 = .ok (.iconst 3, 1) := eL_law_398
theorem eL_law_399 : decode code 399 = .ok (.iadd, 1) := by decide +kernel
theorem dL_law_399 {nm : String} : decode (yL_law nm).2.1 399 = .ok (.iadd, 1) := eL_law_399
theorem eL_law_400 : decode code 400 = .ok (.iaload, 1) := by decide +kernel
theorem dL_law_400 {nm : String} : decode (yL_law nm).2.1 400 = .ok (.iaload, 1) := eL_law_400
theorem eL_law_401 : decode code 401 = .ok (.invokevirtual 72, 3) := by decide +kernel
theorem dL_law_401 {nm : String} : decode (yL_law nm).2.1 401 = .ok (.invokevirtual 72, 3) := eL_law_401
theorem eL_law_404 : decode code 404 = .ok (.if_icmp .eq 57, 3) := by decide +kernel
theorem dL_law_404 {nm : String} : decode (yL_law nm).2.1 404 = .ok (.if_icmp .eq 57, 3) := eL_law_404
theorem eL_law_407 : decode code 407 = .ok (.iconst 0, 1) := by decide +kernel
theorem dL_law_407 {nm : String} : decode (yL_law nm).2.1 407 = .ok (.iconst 0, 1) := eL_law_407
theorem eL_law_408 : decode code 408 = .ok (.ireturn, 1) := by decide +kernel
theorem dL_law_408 {nm : String} : decode (yL_law nm).2.1 408 = .ok (.ireturn, 1) := eL_law_408
theorem eL_law_409 : decode code 409 = .ok (.aload_n 1, 1) := by decide +kernel
theorem dL_law_409 {nm : String} : decode (yL_law nm).2.1 409 = .ok (.aload_n 1, 1) := eL_law_409
theorem eL_law_410 : decode code 410 = .ok (.invokevirtual 73, 3) := by decide +kernel
theorem dL_law_410 {nm : String} : decode (yL_law nm).2.1 410 = .ok (.invokevirtual 73, 3) := eL_law_410
theorem eL_law_413 : decode code 413 = .ok (.aload_n 2, 1) := by decide +kernel
theorem dL_law_413 {nm : String} : decode (yL_law nm).2.1 413 = .ok (.aload_n 2, 1) := eL_law_413
theorem eL_law_414 : decode code 414 = .ok (.invokevirtual 76, 3) := by decide +kernel
theorem dL_law_414 {nm : String} : decode (yL_law nm).2.1 414 = .ok (.invokevirtual 76, 3) := eL_law_414
theorem eL_law_417 : decode code 417 = .ok (.if_icmp .eq 44, 3) := by decide +kernel
theorem dL_law_417 {nm : String} : decode (yL_law nm).2.1 417 = .ok (.if_icmp .eq 44, 3) := eL_law_417
theorem eL_law_420 : decode code 420 = .ok (.iconst 0, 1) := by decide +kernel
theorem dL_law_420 {nm : String} : decode (yL_law nm).2.1 420 = .ok (.iconst 0, 1) := eL_law_420
theorem eL_law_421 : decode code 421 = .ok (.ireturn, 1) := by decide +kernel
theorem dL_law_421 {nm : String} : decode (yL_law nm).2.1 421 = .ok (.ireturn, 1) := eL_law_421
theorem eL_law_422 : decode code 422 = .ok (.aload_n 1, 1) := by decide +kernel
theorem dL_law_422 {nm : String} : decode (yL_law nm).2.1 422 = .ok (.aload_n 1, 1) := eL_law_422
theorem eL_law_423 : decode code 423 = .ok (.invokevirtual 77, 3) := by decide +kernel
theorem dL_law_423 {nm : String} : decode (yL_law nm).2.1 423 = .ok (.invokevirtual 77, 3) := eL_law_423
theorem eL_law_426 : decode code 426 = .ok (.aload_n 2, 1) := by decide +kernel
theorem dL_law_426 {nm : String} : decode (yL_law nm).2.1 426 = .ok (.aload_n 2, 1) := eL_law_426
theorem eL_law_427 : decode code 427 = .ok (.invokevirtual 80, 3) := by decide +kernel
theorem dL_law_427 {nm : String} : decode (yL_law nm).2.1 427 = .ok (.invokevirtual 80, 3) := eL_law_427
theorem eL_law_430 : decode code 430 = .ok (.if_icmp .eq 31, 3) := by decide +kernel
theorem dL_law_430 {nm : String} : decode (yL_law nm).2.1 430 = .ok (.if_icmp .eq 31, 3) := eL_law_430
theorem eL_law_433 : decode code 433 = .ok (.iconst 0, 1) := by decide +kernel
theorem dL_law_433 {nm : String} : decode (yL_law nm).2.1 433 = .ok (.iconst 0, 1) := eL_law_433
theorem eL_law_434 : decode code 434 = .ok (.ireturn, 1) := by decide +kernel
theorem dL_law_434 {nm : String} : decode (yL_law nm).2.1 434 = .ok (.ireturn, 1) := eL_law_434
theorem eL_law_435 : decode code 435 = .ok (.aload_n 1, 1) := by decide +kernel
theorem dL_law_435 {nm : String} : decode (yL_law nm).2.1 435 = .ok (.aload_n 1, 1) := eL_law_435
theorem eL_law_436 : decode code 436 = .ok (.invokevirtual 81, 3) := by decide +kernel
theorem dL_law_436 {nm : String} : decode (yL_law nm).2.1 436 = .ok (.invokevirtual 81, 3) := eL_law_436
theorem eL_law_439 : decode code 439 = .ok (.aload_n 2, 1) := by decide +kernel
theorem dL_law_439 {nm : String} : decode (yL_law nm).2.1 439 = .ok (.aload_n 2, 1) := eL_law_439
theorem eL_law_440 : decode code 440 = .ok (.invokevirtual 84, 3) := by decide +kernel
theorem dL_law_440 {nm : String} : decode (yL_law nm).2.1 440 = .ok (.invokevirtual 84, 3) := eL_law_440
theorem eL_law_443 : decode code 443 = .ok (.if_icmp .eq 18, 3) := by decide +kernel
theorem dL_law_443 {nm : String} : decode (yL_law nm).2.1 443 = .ok (.if_icmp .eq 18, 3) := eL_law_443
theorem eL_law_446 : decode code 446 = .ok (.iconst 0, 1) := by decide +kernel
theorem dL_law_446 {nm : String} : decode (yL_law nm).2.1 446 = .ok (.iconst 0, 1) := eL_law_446
theorem eL_law_447 : decode code 447 = .ok (.ireturn, 1) := by decide +kernel
theorem dL_law_447 {nm : String} : decode (yL_law nm).2.1 447 = .ok (.ireturn, 1) := eL_law_447
theorem eL_law_448 : decode code 448 = .ok (.aload_n 1, 1) := by decide +kernel
theorem dL_law_448 {nm : String} : decode (yL_law nm).2.1 448 = .ok (.aload_n 1, 1) := eL_law_448
theorem eL_law_449 : decode code 449 = .ok (.invokevirtual 85, 3) := by decide +kernel
theorem dL_law_449 {nm : String} : decode (yL_law nm).2.1 449 = .ok (.invokevirtual 85, 3) := eL_law_449
theorem eL_law_452 : decode code 452 = .ok (.aload_n 2, 1) := by decide +kernel
theorem dL_law_452 {nm : String} : decode (yL_law nm).2.1 452 = .ok (.aload_n 2, 1) := eL_law_452
theorem eL_law_453 : decode code 453 = .ok (.invokevirtual 88, 3) := by decide +kernel
theorem dL_law_453 {nm : String} : decode (yL_law nm).2.1 453 = .ok (.invokevirtual 88, 3) := eL_law_453
theorem eL_law_456 : decode code 456 = .ok (.if_icmp .eq 5, 3) := by decide +kernel
theorem dL_law_456 {nm : String} : decode (yL_law nm).2.1 456 = .ok (.if_icmp .eq 5, 3) := eL_law_456
theorem eL_law_459 : decode code 459 = .ok (.iconst 0, 1) := by decide +kernel
theorem dL_law_459 {nm : String} : decode (yL_law nm).2.1 459 = .ok (.iconst 0, 1) := eL_law_459
theorem eL_law_460 : decode code 460 = .ok (.ireturn, 1) := by decide +kernel
theorem dL_law_460 {nm : String} : decode (yL_law nm).2.1 460 = .ok (.ireturn, 1) := eL_law_460
theorem eL_law_461 : decode code 461 = .ok (.iinc 3 6, 3) := by decide +kernel
theorem dL_law_461 {nm : String} : decode (yL_law nm).2.1 461 = .ok (.iinc 3 6, 3) := eL_law_461
theorem eL_law_464 : decode code 464 = .ok (.goto (-436), 3) := by decide +kernel
theorem dL_law_464 {nm : String} : decode (yL_law nm).2.1 464 = .ok (.goto (-436), 3) := eL_law_464
theorem eL_law_467 : decode code 467 = .ok (.iconst 1, 1) := by decide +kernel
theorem dL_law_467 {nm : String} : decode (yL_law nm).2.1 467 = .ok (.iconst 1, 1) := eL_law_467
theorem eL_law_468 : decode code 468 = .ok (.ireturn, 1) := by decide +kernel
theorem dL_law_468 {nm : String} : decode (yL_law nm).2.1 468 = .ok (.ireturn, 1) := eL_law_468
