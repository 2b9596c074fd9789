theorem pg_k160 : ∀ q ∈ pg_L160, pg_ck 160 q = true := by decide +kernel
theorem pg_k161 : ∀ q ∈ pg_L161, pg_ck 161 q = true := by decide +kernel
theorem pg_k162 : ∀ q ∈ pg_L162, pg_ck 162 q = true := by decide +kernel
theorem pg_k163 : ∀ q ∈ pg_L163, pg_ck 163 q = true := by decide +kernel
theorem pg_k164 : ∀ q ∈ pg_L164, pg_ck 164 q = true := by decide +kernel
theorem pg_k165 : ∀ q ∈ pg_L165, pg_ck 165 q = true := by decide +kernel
theorem pg_k166 : ∀ q ∈ pg_L166, pg_ck 166 q = true := by decide +kernel
theorem pg_k167 : ∀ q ∈ pg_L167, pg_ck 167 q = true := by decide +kernel
theorem pg_k168 : ∀ q ∈ pg_L168, pg_ck 168 q = true := by decide +kernel
theorem pg_k169 : ∀ q ∈ pg_L169, pg_ck 169 q = true := by decide +kernel
theorem pg_k170 : ∀ q ∈ pg_L170, pg_ck 170 q = true := by decide +kernel
theorem pg_k171 : ∀ q ∈ pg_L171, pg_ck 171 q = true := by decide +kernel
theorem pg_k172 : ∀ q ∈ pg_L172, pg_ck 172 q = true := by decide +kernel
theorem pg_k173 : ∀ q ∈ pg_L173, pg_ck 173 q = true := by decide +kernel
theorem pg_k174 : ∀ q ∈ pg_L174, pg_ck 174 q = true := by decide +kernel
theorem pg_k175 : ∀ q ∈ pg_L175, pg_ck 175 q = true := by decide +kernel
theorem pg_kk10 : ∀ j, j < 16 → ∀ q ∈ pg_C10.getD j [], pg_ck (160 + j) q = true
  | 0, _ => pg_k160
  | 1, _ => pg_k161
  | 2, _ => pg_k162
  | 3, _ => pg_k163
  | 4, _ => pg_k164
  | 5, _ => pg_k165
  | 6, _ => pg_k166
  | 7, _ => pg_k167
  | 8, _ => pg_k168
  | 9, _ => pg_k169
  | 10, _ => pg_k170
  | 11, _ => pg_k171
  | 12, _ => pg_k172
  | 13, _ => pg_k173
  | 14, _ => pg_k174
  | 15, _ => pg_k175
  | n + 16, h => absurd h (by omega)
theorem pg_k176 : ∀ q ∈ pg_L176, pg_ck 176 q = true := by decide +kernel
theorem pg_k177 : ∀ q ∈ pg_L177, pg_ck 177 q = true := by decide +kernel
theorem pg_k178 : ∀ q ∈ pg_L178, pg_ck 178 q = true := by decide +kernel
theorem pg_k179 : ∀ q ∈ pg_L179, pg_ck 179 q = true := by decide +kernel
theorem pg_k180 : ∀ q ∈ pg_L180, pg_ck 180 q = true := by decide +kernel
theorem pg_k181 : ∀ q ∈ pg_L181, pg_ck 181 q = true := by decide +kernel
theorem pg_k182 : ∀ q ∈ pg_L182, pg_ck 182 q = true := by decide +kernel
theorem pg_k183 : ∀ q ∈ pg_L183, pg_ck 183 q = true := by decide +kernel
theorem pg_k184 : ∀ q ∈ pg_L184, pg_ck 184 q = true := by decide +kernel
theorem pg_k185 : ∀ q ∈ pg_L185, pg_ck 185 q = true := by decide +kernel
theorem pg_k186 : ∀ q ∈ pg_L186, pg_ck 186 q = true := by decide +kernel
theorem pg_k187 : ∀ q ∈ pg_L187, pg_ck 187 q = true := by decide +kernel
theorem pg_k188 : ∀ q ∈ pg_L188, pg_ck 188 q = true := by decide +kernel
theorem pg_k189 : ∀ q ∈ pg_L189, pg_ck 189 q = true := by decide +kernel
theorem pg_k190 : ∀ q ∈ pg_L190, pg_ck 190 q = true := by decide +kernel
theorem pg_k191 : ∀ q ∈ pg_L191, pg_ck 191 q = true := by decide +kernel
theorem pg_kk11 : ∀ j, j < 16 → ∀ q ∈ pg_C11.getD j [], pg_ck (176 + j) q = true
  | 0, _ => pg_k176
  | 1, _ => pg_k177
  | 2, _ => pg_k178
  | 3, _ => pg_k179
  | 4, _ => pg_k180
  | 5, _ => pg_k181
  | 6, _ => pg_k182
  | 7, _ => pg_k183
  | 8, _ => pg_k184
  | 9, _ => pg_k185
  | 10, _ => pg_k186
  | 11, _ => pg_k187
  | 12, _ => pg_k188
  | 13, _ => pg_k189
  | 14, _ => pg_k190
  | 15, _ => pg_k191
  | n + 16, h => absurd h (by omega)
theorem pg_k192 : ∀ q ∈ pg_L192, pg_ck 192 q = true := by decide +kernel
theorem pg_k193 : ∀ q ∈ pg_L193, pg_ck 193 q = true := by decide +kernel
theorem pg_k194 : ∀ q ∈ pg_L194, pg_ck 194 q = true := by decide +kernel
theorem pg_k195 : ∀ q ∈ pg_L195, pg_ck 195 q = true := by decide +kernel
theorem pg_k196 : ∀ q ∈ pg_L196, pg_ck 196 q = true := by decide +kernel
theorem pg_k197 : ∀ q ∈ pg_L197, pg_ck 197 q = true := by decide +kernel
theorem pg_k198 : ∀ q ∈ pg_L198, pg_ck 198 q = true := by decide +kernel
theorem pg_k199 : ∀ q ∈ pg_L199, pg_ck 199 q = true := by decide +kernel
theorem pg_k200 : ∀ q ∈ pg_L200, pg_ck 200 q = true := by decide +kernel
theorem pg_k201 : ∀ q ∈ pg_L201, pg_ck 201 q = true := by decide +kernel
theorem pg_k202 : ∀ q ∈ pg_L202, pg_ck 202 q = true := by decide +kernel
theorem pg_k203 : ∀ q ∈ pg_L203, pg_ck 203 q = true := by decide +kernel
theorem pg_k204 : ∀ q ∈ pg_L204, pg_ck 204 q = true := by decide +kernel
theorem pg_k205 : ∀ q ∈ pg_L205, pg_ck 205 q = true := by decide +kernel
theorem pg_k206 : ∀ q ∈ pg_L206, pg_ck 206 q = true := by decide +kernel
theorem pg_k207 : ∀ q ∈ pg_L207, pg_ck 207 q = true := by decide +kernel
theorem pg_kk12 : ∀ j, j < 16 → ∀ q ∈ pg_C12.getD j [], pg_ck (192 + j) q = true
  | 0, _ => pg_k192
  | 1, _ => pg_k193
  | 2, _ => pg_k194
  | 3, _ => pg_k195
  | 4, _ => pg_k196
  | 5, _ => pg_k197
  | 6, _ => pg_k198
  | 7, _ => pg_k199
  | 8, _ => pg_k200
  | 9, _ => pg_k201
  | 10, _ => pg_k202
  | 11, _ => pg_k203
  | 12, _ => pg_k204
  | 13, _ => pg_k205
  | 14, _ => pg_k206
  | 15, _ => pg_k207
  | n + 16, h => absurd h (by omega)
theorem pg_k208 : ∀ q ∈ pg_L208, pg_ck 208 q = true := by decide +kernel
theorem pg_k209 : ∀ q ∈ pg_L209, pg_ck 209 q = true := by decide +kernel
theorem pg_k210 : ∀ q ∈ pg_L210, pg_ck 210 q = true := by decide +kernel
theorem pg_k211 : ∀ q ∈ pg_L211, pg_ck 211 q = true := by decide +kernel
theorem pg_k212 : ∀ q ∈ pg_L212, pg_ck 212 q = true := by decide +kernel
theorem pg_k213 : ∀ q ∈ pg_L213, pg_ck 213 q = true := by decide +kernel
theorem pg_k214 : ∀ q ∈ pg_L214, pg_ck 214 q = true := by decide +kernel
theorem pg_k215 : ∀ q ∈ pg_L215, pg_ck 215 q = true := by decide +kernel
theorem pg_k216 : ∀ q ∈ pg_L216, pg_ck 216 q = true := by decide +kernel
theorem pg_k217 : ∀ q ∈ pg_L217, pg_ck 217 q = true := by decide +kernel
theorem pg_k218 : ∀ q ∈ pg_L218, pg_ck 218 q = true := by decide +kernel
theorem pg_k219 : ∀ q ∈ pg_L219, pg_ck 219 q = true := by decide +kernel
theorem pg_k220 : ∀ q ∈ pg_L220, pg_ck 220 q = true := by decide +kernel
theorem pg_k221 : ∀ q ∈ pg_L221, pg_ck 221 q = true := by decide +kernel
theorem pg_k222 : ∀ q ∈ pg_L222, pg_ck 222 q = true := by decide +kernel
theorem pg_k223 : ∀ q ∈ pg_L223, pg_ck 223 q = true := by decide +kernel
theorem pg_kk13 : ∀ j, j < 16 → ∀ q ∈ pg_C13.getD j [], pg_ck (208 + j) q = true
  | 0, _ => pg_k208
  | 1, _ => pg_k209
  | 2, _ => pg_k210
  | 3, _ => pg_k211
  | 4, _ => pg_k212
  | 5, _ => pg_k213
  | 6, _ => pg_k214
  | 7, _ => pg_k215
  | 8, _ => pg_k216
  | 9, _ => pg_k217
  | 10, _ => pg_k218
  | 11, _ => pg_k219
  | 12, _ => pg_k220
  | 13, _ => pg_k221
  | 14, _ => pg_k222
  | 15, _ => pg_k223
  | n + 16, h => absurd h (by omega)
theorem pg_k224 : ∀ q ∈ pg_L224, pg_ck 224 q = true := by decide +kernel
theorem pg_k225 : ∀ q ∈ pg_L225, pg_ck 225 q = true := by decide +kernel
theorem pg_k226 : ∀ q ∈ pg_L226, pg_ck 226 q = true := by decide +kernel
theorem pg_k227 : ∀ q ∈ pg_L227, pg_ck 227 q = true := by decide +kernel
theorem pg_k228 : ∀ q ∈ pg_L228, pg_ck 228 q = true := by decide +kernel
theorem pg_k229 : ∀ q ∈ pg_L229, pg_ck 229 q = true := by decide +kernel
theorem pg_k230 : ∀ q ∈ pg_L230, pg_ck 230 q = true := by decide +kernel
theorem pg_k231 : ∀ q ∈ pg_L231, pg_ck 231 q = true := by decide +kernel
theorem pg_k232 : ∀ q ∈ pg_L232, pg_ck 232 q = true := by decide +kernel
theorem pg_k233 : ∀ q ∈ pg_L233, pg_ck 233 q = true := by decide +kernel
theorem pg_k234 : ∀ q ∈ pg_L234, pg_ck 234 q = true := by decide +kernel
theorem pg_k235 : ∀ q ∈ pg_L235, pg_ck 235 q = true := by decide +kernel
theorem pg_k236 : ∀ q ∈ pg_L236, pg_ck 236 q = true := by decide +kernel
theorem pg_k237 : ∀ q ∈ pg_L237, pg_ck 237 q = true := by decide +kernel
theorem pg_k238 : ∀ q ∈ pg_L238, pg_ck 238 q = true := by decide +kernel
theorem pg_k239 : ∀ q ∈ pg_L239, pg_ck 239 q = true := by decide +kernel
theorem pg_kk14 : ∀ j, j < 16 → ∀ q ∈ pg_C14.getD j [], pg_ck (224 + j) q = true
  | 0, _ => pg_k224
  | 1, _ => pg_k225
  | 2, _ => pg_k226
  | 3, _ => pg_k227
  | 4, _ => pg_k228
  | 5, _ => pg_k229
  | 6, _ => pg_k230
  | 7, _ => pg_k231
  | 8, _ => pg_k232
  | 9, _ => pg_k233
  | 10, _ => pg_k234
  | 11, _ => pg_k235
  | 12, _ => pg_k236
  | 13, _ => pg_k237
  | 14, _ => pg_k238
  | 15, _ => pg_k239
  | n + 16, h => absurd h (by omega)
