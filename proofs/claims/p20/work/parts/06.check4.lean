theorem pg_k320 : ∀ q ∈ pg_L320, pg_ck 320 q = true := by decide +kernel
theorem pg_k321 : ∀ q ∈ pg_L321, pg_ck 321 q = true := by decide +kernel
theorem pg_k322 : ∀ q ∈ pg_L322, pg_ck 322 q = true := by decide +kernel
theorem pg_k323 : ∀ q ∈ pg_L323, pg_ck 323 q = true := by decide +kernel
theorem pg_k324 : ∀ q ∈ pg_L324, pg_ck 324 q = true := by decide +kernel
theorem pg_k325 : ∀ q ∈ pg_L325, pg_ck 325 q = true := by decide +kernel
theorem pg_k326 : ∀ q ∈ pg_L326, pg_ck 326 q = true := by decide +kernel
theorem pg_k327 : ∀ q ∈ pg_L327, pg_ck 327 q = true := by decide +kernel
theorem pg_k328 : ∀ q ∈ pg_L328, pg_ck 328 q = true := by decide +kernel
theorem pg_k329 : ∀ q ∈ pg_L329, pg_ck 329 q = true := by decide +kernel
theorem pg_k330 : ∀ q ∈ pg_L330, pg_ck 330 q = true := by decide +kernel
theorem pg_k331 : ∀ q ∈ pg_L331, pg_ck 331 q = true := by decide +kernel
theorem pg_k332 : ∀ q ∈ pg_L332, pg_ck 332 q = true := by decide +kernel
theorem pg_k333 : ∀ q ∈ pg_L333, pg_ck 333 q = true := by decide +kernel
theorem pg_k334 : ∀ q ∈ pg_L334, pg_ck 334 q = true := by decide +kernel
theorem pg_k335 : ∀ q ∈ pg_L335, pg_ck 335 q = true := by decide +kernel
theorem pg_kk20 : ∀ j, j < 16 → ∀ q ∈ pg_C20.getD j [], pg_ck (320 + j) q = true
  | 0, _ => pg_k320
  | 1, _ => pg_k321
  | 2, _ => pg_k322
  | 3, _ => pg_k323
  | 4, _ => pg_k324
  | 5, _ => pg_k325
  | 6, _ => pg_k326
  | 7, _ => pg_k327
  | 8, _ => pg_k328
  | 9, _ => pg_k329
  | 10, _ => pg_k330
  | 11, _ => pg_k331
  | 12, _ => pg_k332
  | 13, _ => pg_k333
  | 14, _ => pg_k334
  | 15, _ => pg_k335
  | n + 16, h => absurd h (by omega)
theorem pg_k336 : ∀ q ∈ pg_L336, pg_ck 336 q = true := by decide +kernel
theorem pg_k337 : ∀ q ∈ pg_L337, pg_ck 337 q = true := by decide +kernel
theorem pg_k338 : ∀ q ∈ pg_L338, pg_ck 338 q = true := by decide +kernel
theorem pg_k339 : ∀ q ∈ pg_L339, pg_ck 339 q = true := by decide +kernel
theorem pg_k340 : ∀ q ∈ pg_L340, pg_ck 340 q = true := by decide +kernel
theorem pg_k341 : ∀ q ∈ pg_L341, pg_ck 341 q = true := by decide +kernel
theorem pg_k342 : ∀ q ∈ pg_L342, pg_ck 342 q = true := by decide +kernel
theorem pg_k343 : ∀ q ∈ pg_L343, pg_ck 343 q = true := by decide +kernel
theorem pg_k344 : ∀ q ∈ pg_L344, pg_ck 344 q = true := by decide +kernel
theorem pg_k345 : ∀ q ∈ pg_L345, pg_ck 345 q = true := by decide +kernel
theorem pg_k346 : ∀ q ∈ pg_L346, pg_ck 346 q = true := by decide +kernel
theorem pg_k347 : ∀ q ∈ pg_L347, pg_ck 347 q = true := by decide +kernel
theorem pg_k348 : ∀ q ∈ pg_L348, pg_ck 348 q = true := by decide +kernel
theorem pg_k349 : ∀ q ∈ pg_L349, pg_ck 349 q = true := by decide +kernel
theorem pg_k350 : ∀ q ∈ pg_L350, pg_ck 350 q = true := by decide +kernel
theorem pg_k351 : ∀ q ∈ pg_L351, pg_ck 351 q = true := by decide +kernel
theorem pg_kk21 : ∀ j, j < 16 → ∀ q ∈ pg_C21.getD j [], pg_ck (336 + j) q = true
  | 0, _ => pg_k336
  | 1, _ => pg_k337
  | 2, _ => pg_k338
  | 3, _ => pg_k339
  | 4, _ => pg_k340
  | 5, _ => pg_k341
  | 6, _ => pg_k342
  | 7, _ => pg_k343
  | 8, _ => pg_k344
  | 9, _ => pg_k345
  | 10, _ => pg_k346
  | 11, _ => pg_k347
  | 12, _ => pg_k348
  | 13, _ => pg_k349
  | 14, _ => pg_k350
  | 15, _ => pg_k351
  | n + 16, h => absurd h (by omega)
theorem pg_k352 : ∀ q ∈ pg_L352, pg_ck 352 q = true := by decide +kernel
theorem pg_k353 : ∀ q ∈ pg_L353, pg_ck 353 q = true := by decide +kernel
theorem pg_k354 : ∀ q ∈ pg_L354, pg_ck 354 q = true := by decide +kernel
theorem pg_k355 : ∀ q ∈ pg_L355, pg_ck 355 q = true := by decide +kernel
theorem pg_k356 : ∀ q ∈ pg_L356, pg_ck 356 q = true := by decide +kernel
theorem pg_k357 : ∀ q ∈ pg_L357, pg_ck 357 q = true := by decide +kernel
theorem pg_k358 : ∀ q ∈ pg_L358, pg_ck 358 q = true := by decide +kernel
theorem pg_k359 : ∀ q ∈ pg_L359, pg_ck 359 q = true := by decide +kernel
theorem pg_k360 : ∀ q ∈ pg_L360, pg_ck 360 q = true := by decide +kernel
theorem pg_k361 : ∀ q ∈ pg_L361, pg_ck 361 q = true := by decide +kernel
theorem pg_k362 : ∀ q ∈ pg_L362, pg_ck 362 q = true := by decide +kernel
theorem pg_k363 : ∀ q ∈ pg_L363, pg_ck 363 q = true := by decide +kernel
theorem pg_k364 : ∀ q ∈ pg_L364, pg_ck 364 q = true := by decide +kernel
theorem pg_k365 : ∀ q ∈ pg_L365, pg_ck 365 q = true := by decide +kernel
theorem pg_k366 : ∀ q ∈ pg_L366, pg_ck 366 q = true := by decide +kernel
theorem pg_k367 : ∀ q ∈ pg_L367, pg_ck 367 q = true := by decide +kernel
theorem pg_kk22 : ∀ j, j < 16 → ∀ q ∈ pg_C22.getD j [], pg_ck (352 + j) q = true
  | 0, _ => pg_k352
  | 1, _ => pg_k353
  | 2, _ => pg_k354
  | 3, _ => pg_k355
  | 4, _ => pg_k356
  | 5, _ => pg_k357
  | 6, _ => pg_k358
  | 7, _ => pg_k359
  | 8, _ => pg_k360
  | 9, _ => pg_k361
  | 10, _ => pg_k362
  | 11, _ => pg_k363
  | 12, _ => pg_k364
  | 13, _ => pg_k365
  | 14, _ => pg_k366
  | 15, _ => pg_k367
  | n + 16, h => absurd h (by omega)
theorem pg_k368 : ∀ q ∈ pg_L368, pg_ck 368 q = true := by decide +kernel
theorem pg_k369 : ∀ q ∈ pg_L369, pg_ck 369 q = true := by decide +kernel
theorem pg_k370 : ∀ q ∈ pg_L370, pg_ck 370 q = true := by decide +kernel
theorem pg_k371 : ∀ q ∈ pg_L371, pg_ck 371 q = true := by decide +kernel
theorem pg_k372 : ∀ q ∈ pg_L372, pg_ck 372 q = true := by decide +kernel
theorem pg_k373 : ∀ q ∈ pg_L373, pg_ck 373 q = true := by decide +kernel
theorem pg_k374 : ∀ q ∈ pg_L374, pg_ck 374 q = true := by decide +kernel
theorem pg_k375 : ∀ q ∈ pg_L375, pg_ck 375 q = true := by decide +kernel
theorem pg_k376 : ∀ q ∈ pg_L376, pg_ck 376 q = true := by decide +kernel
theorem pg_k377 : ∀ q ∈ pg_L377, pg_ck 377 q = true := by decide +kernel
theorem pg_k378 : ∀ q ∈ pg_L378, pg_ck 378 q = true := by decide +kernel
theorem pg_k379 : ∀ q ∈ pg_L379, pg_ck 379 q = true := by decide +kernel
theorem pg_k380 : ∀ q ∈ pg_L380, pg_ck 380 q = true := by decide +kernel
theorem pg_k381 : ∀ q ∈ pg_L381, pg_ck 381 q = true := by decide +kernel
theorem pg_k382 : ∀ q ∈ pg_L382, pg_ck 382 q = true := by decide +kernel
theorem pg_k383 : ∀ q ∈ pg_L383, pg_ck 383 q = true := by decide +kernel
theorem pg_kk23 : ∀ j, j < 16 → ∀ q ∈ pg_C23.getD j [], pg_ck (368 + j) q = true
  | 0, _ => pg_k368
  | 1, _ => pg_k369
  | 2, _ => pg_k370
  | 3, _ => pg_k371
  | 4, _ => pg_k372
  | 5, _ => pg_k373
  | 6, _ => pg_k374
  | 7, _ => pg_k375
  | 8, _ => pg_k376
  | 9, _ => pg_k377
  | 10, _ => pg_k378
  | 11, _ => pg_k379
  | 12, _ => pg_k380
  | 13, _ => pg_k381
  | 14, _ => pg_k382
  | 15, _ => pg_k383
  | n + 16, h => absurd h (by omega)
theorem pg_k384 : ∀ q ∈ pg_L384, pg_ck 384 q = true := by decide +kernel
theorem pg_k385 : ∀ q ∈ pg_L385, pg_ck 385 q = true := by decide +kernel
theorem pg_k386 : ∀ q ∈ pg_L386, pg_ck 386 q = true := by decide +kernel
theorem pg_k387 : ∀ q ∈ pg_L387, pg_ck 387 q = true := by decide +kernel
theorem pg_k388 : ∀ q ∈ pg_L388, pg_ck 388 q = true := by decide +kernel
theorem pg_k389 : ∀ q ∈ pg_L389, pg_ck 389 q = true := by decide +kernel
theorem pg_k390 : ∀ q ∈ pg_L390, pg_ck 390 q = true := by decide +kernel
theorem pg_k391 : ∀ q ∈ pg_L391, pg_ck 391 q = true := by decide +kernel
theorem pg_k392 : ∀ q ∈ pg_L392, pg_ck 392 q = true := by decide +kernel
theorem pg_k393 : ∀ q ∈ pg_L393, pg_ck 393 q = true := by decide +kernel
theorem pg_k394 : ∀ q ∈ pg_L394, pg_ck 394 q = true := by decide +kernel
theorem pg_k395 : ∀ q ∈ pg_L395, pg_ck 395 q = true := by decide +kernel
theorem pg_k396 : ∀ q ∈ pg_L396, pg_ck 396 q = true := by decide +kernel
theorem pg_k397 : ∀ q ∈ pg_L397, pg_ck 397 q = true := by decide +kernel
theorem pg_k398 : ∀ q ∈ pg_L398, pg_ck 398 q = true := by decide +kernel
theorem pg_kk24 : ∀ j, j < 16 → ∀ q ∈ pg_C24.getD j [], pg_ck (384 + j) q = true
  | 0, _ => pg_k384
  | 1, _ => pg_k385
  | 2, _ => pg_k386
  | 3, _ => pg_k387
  | 4, _ => pg_k388
  | 5, _ => pg_k389
  | 6, _ => pg_k390
  | 7, _ => pg_k391
  | 8, _ => pg_k392
  | 9, _ => pg_k393
  | 10, _ => pg_k394
  | 11, _ => pg_k395
  | 12, _ => pg_k396
  | 13, _ => pg_k397
  | 14, _ => pg_k398
  | 15, _ => fun _ h => absurd h List.not_mem_nil
  | n + 16, h => absurd h (by omega)
theorem pg_kall (mi : Nat) : ∀ q ∈ pg_L mi, pg_ck mi q = true := by
  have hj : mi % 16 < 16 := Nat.mod_lt _ (by decide)
  have hm : mi = 16 * (mi / 16) + mi % 16 := (Nat.div_add_mod mi 16).symm
  intro q hq
  unfold pg_L at hq
  generalize hj2 : mi % 16 = j at hj hm hq
  generalize hk2 : mi / 16 = k at hm hq
  subst hm
  revert hq
  exact match k with
  | 0 => pg_kk0 j hj q
  | 1 => pg_kk1 j hj q
  | 2 => pg_kk2 j hj q
  | 3 => pg_kk3 j hj q
  | 4 => pg_kk4 j hj q
  | 5 => pg_kk5 j hj q
  | 6 => pg_kk6 j hj q
  | 7 => pg_kk7 j hj q
  | 8 => pg_kk8 j hj q
  | 9 => pg_kk9 j hj q
  | 10 => pg_kk10 j hj q
  | 11 => pg_kk11 j hj q
  | 12 => pg_kk12 j hj q
  | 13 => pg_kk13 j hj q
  | 14 => pg_kk14 j hj q
  | 15 => pg_kk15 j hj q
  | 16 => pg_kk16 j hj q
  | 17 => pg_kk17 j hj q
  | 18 => pg_kk18 j hj q
  | 19 => pg_kk19 j hj q
  | 20 => pg_kk20 j hj q
  | 21 => pg_kk21 j hj q
  | 22 => pg_kk22 j hj q
  | 23 => pg_kk23 j hj q
  | 24 => pg_kk24 j hj q
  | n + 25 => fun h => absurd h List.not_mem_nil
