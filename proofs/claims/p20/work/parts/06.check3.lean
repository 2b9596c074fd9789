theorem pg_k240 : ∀ q ∈ pg_L240, pg_ck 240 q = true := by decide +kernel
theorem pg_k241 : ∀ q ∈ pg_L241, pg_ck 241 q = true := by decide +kernel
theorem pg_k242 : ∀ q ∈ pg_L242, pg_ck 242 q = true := by decide +kernel
theorem pg_k243 : ∀ q ∈ pg_L243, pg_ck 243 q = true := by decide +kernel
theorem pg_k244 : ∀ q ∈ pg_L244, pg_ck 244 q = true := by decide +kernel
theorem pg_k245 : ∀ q ∈ pg_L245, pg_ck 245 q = true := by decide +kernel
theorem pg_k246 : ∀ q ∈ pg_L246, pg_ck 246 q = true := by decide +kernel
theorem pg_k247 : ∀ q ∈ pg_L247, pg_ck 247 q = true := by decide +kernel
theorem pg_k248 : ∀ q ∈ pg_L248, pg_ck 248 q = true := by decide +kernel
theorem pg_k249 : ∀ q ∈ pg_L249, pg_ck 249 q = true := by decide +kernel
theorem pg_k250 : ∀ q ∈ pg_L250, pg_ck 250 q = true := by decide +kernel
theorem pg_k251 : ∀ q ∈ pg_L251, pg_ck 251 q = true := by decide +kernel
theorem pg_k252 : ∀ q ∈ pg_L252, pg_ck 252 q = true := by decide +kernel
theorem pg_k253 : ∀ q ∈ pg_L253, pg_ck 253 q = true := by decide +kernel
theorem pg_k254 : ∀ q ∈ pg_L254, pg_ck 254 q = true := by decide +kernel
theorem pg_k255 : ∀ q ∈ pg_L255, pg_ck 255 q = true := by decide +kernel
theorem pg_kk15 : ∀ j, j < 16 → ∀ q ∈ pg_C15.getD j [], pg_ck (240 + j) q = true
  | 0, _ => pg_k240
  | 1, _ => pg_k241
  | 2, _ => pg_k242
  | 3, _ => pg_k243
  | 4, _ => pg_k244
  | 5, _ => pg_k245
  | 6, _ => pg_k246
  | 7, _ => pg_k247
  | 8, _ => pg_k248
  | 9, _ => pg_k249
  | 10, _ => pg_k250
  | 11, _ => pg_k251
  | 12, _ => pg_k252
  | 13, _ => pg_k253
  | 14, _ => pg_k254
  | 15, _ => pg_k255
  | n + 16, h => absurd h (by omega)
theorem pg_k256 : ∀ q ∈ pg_L256, pg_ck 256 q = true := by decide +kernel
theorem pg_k257 : ∀ q ∈ pg_L257, pg_ck 257 q = true := by decide +kernel
theorem pg_k258 : ∀ q ∈ pg_L258, pg_ck 258 q = true := by decide +kernel
theorem pg_k259 : ∀ q ∈ pg_L259, pg_ck 259 q = true := by decide +kernel
theorem pg_k260 : ∀ q ∈ pg_L260, pg_ck 260 q = true := by decide +kernel
theorem pg_k261 : ∀ q ∈ pg_L261, pg_ck 261 q = true := by decide +kernel
theorem pg_k262 : ∀ q ∈ pg_L262, pg_ck 262 q = true := by decide +kernel
theorem pg_k263 : ∀ q ∈ pg_L263, pg_ck 263 q = true := by decide +kernel
theorem pg_k264 : ∀ q ∈ pg_L264, pg_ck 264 q = true := by decide +kernel
theorem pg_k265 : ∀ q ∈ pg_L265, pg_ck 265 q = true := by decide +kernel
theorem pg_k266 : ∀ q ∈ pg_L266, pg_ck 266 q = true := by decide +kernel
theorem pg_k267 : ∀ q ∈ pg_L267, pg_ck 267 q = true := by decide +kernel
theorem pg_k268 : ∀ q ∈ pg_L268, pg_ck 268 q = true := by decide +kernel
theorem pg_k269 : ∀ q ∈ pg_L269, pg_ck 269 q = true := by decide +kernel
theorem pg_k270 : ∀ q ∈ pg_L270, pg_ck 270 q = true := by decide +kernel
theorem pg_k271 : ∀ q ∈ pg_L271, pg_ck 271 q = true := by decide +kernel
theorem pg_kk16 : ∀ j, j < 16 → ∀ q ∈ pg_C16.getD j [], pg_ck (256 + j) q = true
  | 0, _ => pg_k256
  | 1, _ => pg_k257
  | 2, _ => pg_k258
  | 3, _ => pg_k259
  | 4, _ => pg_k260
  | 5, _ => pg_k261
  | 6, _ => pg_k262
  | 7, _ => pg_k263
  | 8, _ => pg_k264
  | 9, _ => pg_k265
  | 10, _ => pg_k266
  | 11, _ => pg_k267
  | 12, _ => pg_k268
  | 13, _ => pg_k269
  | 14, _ => pg_k270
  | 15, _ => pg_k271
  | n + 16, h => absurd h (by omega)
theorem pg_k272 : ∀ q ∈ pg_L272, pg_ck 272 q = true := by decide +kernel
theorem pg_k273 : ∀ q ∈ pg_L273, pg_ck 273 q = true := by decide +kernel
theorem pg_k274 : ∀ q ∈ pg_L274, pg_ck 274 q = true := by decide +kernel
theorem pg_k275 : ∀ q ∈ pg_L275, pg_ck 275 q = true := by decide +kernel
theorem pg_k276 : ∀ q ∈ pg_L276, pg_ck 276 q = true := by decide +kernel
theorem pg_k277 : ∀ q ∈ pg_L277, pg_ck 277 q = true := by decide +kernel
theorem pg_k278 : ∀ q ∈ pg_L278, pg_ck 278 q = true := by decide +kernel
theorem pg_k279 : ∀ q ∈ pg_L279, pg_ck 279 q = true := by decide +kernel
theorem pg_k280 : ∀ q ∈ pg_L280, pg_ck 280 q = true := by decide +kernel
theorem pg_k281 : ∀ q ∈ pg_L281, pg_ck 281 q = true := by decide +kernel
theorem pg_k282 : ∀ q ∈ pg_L282, pg_ck 282 q = true := by decide +kernel
theorem pg_k283 : ∀ q ∈ pg_L283, pg_ck 283 q = true := by decide +kernel
theorem pg_k284 : ∀ q ∈ pg_L284, pg_ck 284 q = true := by decide +kernel
theorem pg_k285 : ∀ q ∈ pg_L285, pg_ck 285 q = true := by decide +kernel
theorem pg_k286 : ∀ q ∈ pg_L286, pg_ck 286 q = true := by decide +kernel
theorem pg_k287 : ∀ q ∈ pg_L287, pg_ck 287 q = true := by decide +kernel
theorem pg_kk17 : ∀ j, j < 16 → ∀ q ∈ pg_C17.getD j [], pg_ck (272 + j) q = true
  | 0, _ => pg_k272
  | 1, _ => pg_k273
  | 2, _ => pg_k274
  | 3, _ => pg_k275
  | 4, _ => pg_k276
  | 5, _ => pg_k277
  | 6, _ => pg_k278
  | 7, _ => pg_k279
  | 8, _ => pg_k280
  | 9, _ => pg_k281
  | 10, _ => pg_k282
  | 11, _ => pg_k283
  | 12, _ => pg_k284
  | 13, _ => pg_k285
  | 14, _ => pg_k286
  | 15, _ => pg_k287
  | n + 16, h => absurd h (by omega)
theorem pg_k288 : ∀ q ∈ pg_L288, pg_ck 288 q = true := by decide +kernel
theorem pg_k289 : ∀ q ∈ pg_L289, pg_ck 289 q = true := by decide +kernel
theorem pg_k290 : ∀ q ∈ pg_L290, pg_ck 290 q = true := by decide +kernel
theorem pg_k291 : ∀ q ∈ pg_L291, pg_ck 291 q = true := by decide +kernel
theorem pg_k292 : ∀ q ∈ pg_L292, pg_ck 292 q = true := by decide +kernel
theorem pg_k293 : ∀ q ∈ pg_L293, pg_ck 293 q = true := by decide +kernel
theorem pg_k294 : ∀ q ∈ pg_L294, pg_ck 294 q = true := by decide +kernel
theorem pg_k295 : ∀ q ∈ pg_L295, pg_ck 295 q = true := by decide +kernel
theorem pg_k296 : ∀ q ∈ pg_L296, pg_ck 296 q = true := by decide +kernel
theorem pg_k297 : ∀ q ∈ pg_L297, pg_ck 297 q = true := by decide +kernel
theorem pg_k298 : ∀ q ∈ pg_L298, pg_ck 298 q = true := by decide +kernel
theorem pg_k299 : ∀ q ∈ pg_L299, pg_ck 299 q = true := by decide +kernel
theorem pg_k300 : ∀ q ∈ pg_L300, pg_ck 300 q = true := by decide +kernel
theorem pg_k301 : ∀ q ∈ pg_L301, pg_ck 301 q = true := by decide +kernel
theorem pg_k302 : ∀ q ∈ pg_L302, pg_ck 302 q = true := by decide +kernel
theorem pg_k303 : ∀ q ∈ pg_L303, pg_ck 303 q = true := by decide +kernel
theorem pg_kk18 : ∀ j, j < 16 → ∀ q ∈ pg_C18.getD j [], pg_ck (288 + j) q = true
  | 0, _ => pg_k288
  | 1, _ => pg_k289
  | 2, _ => pg_k290
  | 3, _ => pg_k291
  | 4, _ => pg_k292
  | 5, _ => pg_k293
  | 6, _ => pg_k294
  | 7, _ => pg_k295
  | 8, _ => pg_k296
  | 9, _ => pg_k297
  | 10, _ => pg_k298
  | 11, _ => pg_k299
  | 12, _ => pg_k300
  | 13, _ => pg_k301
  | 14, _ => pg_k302
  | 15, _ => pg_k303
  | n + 16, h => absurd h (by omega)
theorem pg_k304 : ∀ q ∈ pg_L304, pg_ck 304 q = true := by decide +kernel
theorem pg_k305 : ∀ q ∈ pg_L305, pg_ck 305 q = true := by decide +kernel
theorem pg_k306 : ∀ q ∈ pg_L306, pg_ck 306 q = true := by decide +kernel
theorem pg_k307 : ∀ q ∈ pg_L307, pg_ck 307 q = true := by decide +kernel
theorem pg_k308 : ∀ q ∈ pg_L308, pg_ck 308 q = true := by decide +kernel
theorem pg_k309 : ∀ q ∈ pg_L309, pg_ck 309 q = true := by decide +kernel
theorem pg_k310 : ∀ q ∈ pg_L310, pg_ck 310 q = true := by decide +kernel
theorem pg_k311 : ∀ q ∈ pg_L311, pg_ck 311 q = true := by decide +kernel
theorem pg_k312 : ∀ q ∈ pg_L312, pg_ck 312 q = true := by decide +kernel
theorem pg_k313 : ∀ q ∈ pg_L313, pg_ck 313 q = true := by decide +kernel
theorem pg_k314 : ∀ q ∈ pg_L314, pg_ck 314 q = true := by decide +kernel
theorem pg_k315 : ∀ q ∈ pg_L315, pg_ck 315 q = true := by decide +kernel
theorem pg_k316 : ∀ q ∈ pg_L316, pg_ck 316 q = true := by decide +kernel
theorem pg_k317 : ∀ q ∈ pg_L317, pg_ck 317 q = true := by decide +kernel
theorem pg_k318 : ∀ q ∈ pg_L318, pg_ck 318 q = true := by decide +kernel
theorem pg_k319 : ∀ q ∈ pg_L319, pg_ck 319 q = true := by decide +kernel
theorem pg_kk19 : ∀ j, j < 16 → ∀ q ∈ pg_C19.getD j [], pg_ck (304 + j) q = true
  | 0, _ => pg_k304
  | 1, _ => pg_k305
  | 2, _ => pg_k306
  | 3, _ => pg_k307
  | 4, _ => pg_k308
  | 5, _ => pg_k309
  | 6, _ => pg_k310
  | 7, _ => pg_k311
  | 8, _ => pg_k312
  | 9, _ => pg_k313
  | 10, _ => pg_k314
  | 11, _ => pg_k315
  | 12, _ => pg_k316
  | 13, _ => pg_k317
  | 14, _ => pg_k318
  | 15, _ => pg_k319
  | n + 16, h => absurd h (by omega)
