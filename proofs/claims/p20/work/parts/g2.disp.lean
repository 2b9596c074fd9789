/-! the law's loop: its head and its switch, written by a program (wip/tools/gendisp.py) -/
def lw_pcs : List Nat := [148, 220, 236, 252, 293, 306, 366, 382, 393, 406, 422, 479, 519, 571, 587, 603, 643, 683, 723, 778, 819, 876, 933, 961]
theorem lw_sub4 : ∀ L, L < 2049 → (nI L - nI 4).toInt = (L : Int) - 4 := by decide +kernel
theorem lw_31 (v : Int32) : ∃ n, n < 32 ∧ v &&& nI 31 = nI n := by
  refine ⟨(v.toBitVec &&& 31#32).toNat, ?_, ?_⟩
  · have h : (v.toBitVec &&& 31#32).toNat ≤ 31 := by
      rw [BitVec.toNat_and]
      exact Nat.and_le_right
    omega
  · apply Int32.toBitVec_inj.mp
    show v.toBitVec &&& 31#32 = BitVec.ofNat 32 (v.toBitVec &&& 31#32).toNat
    rw [BitVec.ofNat_toNat, BitVec.setWidth_eq]
section LAWD
variable {l : Launch} {g : px_G} {d : Nat} {ph : px_H} {Q : px_Q} {L a x m o : Nat} {xs : Nat → Int32}
set_option maxRecDepth 20000 in
set_option maxHeartbeats 2000000 in
theorem law_loop (hct : px_ct g 0 = (.int, L, xs)) (hL : L ≤ 2048) (ha : a ≤ 4096) (hexit : L < a + 4 → Q (.inl (some (.int 1))) ph)
    (hcase : a + 3 < L → ∀ n, n < 24 → xs a &&& nI 31 = nI n → PW l g d m_L_law (lw_pcs.getD n 0) [.retAddr 0, .ref x, .ref m, .ref o, .int (nI a), px_u, px_u, px_u] [] ph Q)
    (hdef : a + 3 < L → PW l g d m_L_law 23 [.retAddr 0, .ref x, .ref m, .ref o, .int (nI (a + 4)), px_u, px_u, px_u] [] ph Q) : PW l g d m_L_law 23 [.retAddr 0, .ref x, .ref m, .ref o, .int (nI a), px_u, px_u, px_u] [] ph Q := by
  refine px_ld rfl rfl rfl rfl rfl ?_
  refine px_ld rfl rfl rfl rfl rfl ?_
  refine px_clen rfl (by decide) rfl ?_
  rw [hct]
  refine px_alu rfl rfl rfl ?_
  refine px_alu rfl rfl rfl ?_
  have key : nI L - nI 4 < nI a ↔ L < a + 4 := by
    rw [Int32.lt_iff_toInt_lt, lw_sub4 L (by omega), nI_toInt (show a < 2 ^ 31 by omega)]
    omega
  refine px_icgt rfl (by decide) rfl (fun h => ?_) (fun h => ?_)
  · refine px_alu rfl rfl rfl ?_
    exact px_iret rfl (Or.inr ⟨rfl, Or.inr rfl⟩) rfl (hexit (key.mp h))
  · have hlt : a + 3 < L := by
      have h2 : ¬ L < a + 4 := fun h3 => h (key.mpr h3)
      omega
    refine px_ld rfl rfl rfl rfl rfl ?_
    refine px_ld rfl rfl rfl rfl rfl ?_
    refine px_scr0 rfl hct hL (by omega) rfl ?_
    refine px_alu rfl rfl rfl ?_
    refine px_alu rfl rfl rfl ?_
    obtain ⟨n, hn, hv⟩ := lw_31 (xs a)
    have hc := hcase hlt
    rw [hv] at hc ⊢
    have out : ∀ k, 24 ≤ k → k < 32 → PW l g d m_L_law 39 [.retAddr 0, .ref x, .ref m, .ref o, .int (nI a), px_u, px_u, px_u] [.int (nI k)] ph Q := by
      intro k h24 h32
      refine px_tsOut (len := 109) rfl (Or.inr (by rw [nI_toInt (show k < 2 ^ 31 by omega)]; omega)) (tgt := 989) (by decide) ?_
      refine px_iinc (lv' := [_, _, _, _, _, _, _, _]) rfl rfl rfl rfl rfl rfl ?_
      refine px_goto rfl (by decide) rfl ?_
      rw [show nI a + Int32.ofInt 4 = nI (a + 4) from nI_add a 4]
      exact hdef hlt
    match n, hn, hc with
    | 0, _, hc => exact px_tsIn (len := 109) (off := 109) (tgt := 148) rfl (by decide) (by decide) rfl (by decide) (hc 0 (by decide) rfl)
    | 1, _, hc => exact px_tsIn (len := 109) (off := 181) (tgt := 220) rfl (by decide) (by decide) rfl (by decide) (hc 1 (by decide) rfl)
    | 2, _, hc => exact px_tsIn (len := 109) (off := 197) (tgt := 236) rfl (by decide) (by decide) rfl (by decide) (hc 2 (by decide) rfl)
    | 3, _, hc => exact px_tsIn (len := 109) (off := 213) (tgt := 252) rfl (by decide) (by decide) rfl (by decide) (hc 3 (by decide) rfl)
    | 4, _, hc => exact px_tsIn (len := 109) (off := 254) (tgt := 293) rfl (by decide) (by decide) rfl (by decide) (hc 4 (by decide) rfl)
    | 5, _, hc => exact px_tsIn (len := 109) (off := 267) (tgt := 306) rfl (by decide) (by decide) rfl (by decide) (hc 5 (by decide) rfl)
    | 6, _, hc => exact px_tsIn (len := 109) (off := 327) (tgt := 366) rfl (by decide) (by decide) rfl (by decide) (hc 6 (by decide) rfl)
    | 7, _, hc => exact px_tsIn (len := 109) (off := 343) (tgt := 382) rfl (by decide) (by decide) rfl (by decide) (hc 7 (by decide) rfl)
    | 8, _, hc => exact px_tsIn (len := 109) (off := 354) (tgt := 393) rfl (by decide) (by decide) rfl (by decide) (hc 8 (by decide) rfl)
    | 9, _, hc => exact px_tsIn (len := 109) (off := 367) (tgt := 406) rfl (by decide) (by decide) rfl (by decide) (hc 9 (by decide) rfl)
    | 10, _, hc => exact px_tsIn (len := 109) (off := 383) (tgt := 422) rfl (by decide) (by decide) rfl (by decide) (hc 10 (by decide) rfl)
    | 11, _, hc => exact px_tsIn (len := 109) (off := 440) (tgt := 479) rfl (by decide) (by decide) rfl (by decide) (hc 11 (by decide) rfl)
    | 12, _, hc => exact px_tsIn (len := 109) (off := 480) (tgt := 519) rfl (by decide) (by decide) rfl (by decide) (hc 12 (by decide) rfl)
    | 13, _, hc => exact px_tsIn (len := 109) (off := 532) (tgt := 571) rfl (by decide) (by decide) rfl (by decide) (hc 13 (by decide) rfl)
    | 14, _, hc => exact px_tsIn (len := 109) (off := 548) (tgt := 587) rfl (by decide) (by decide) rfl (by decide) (hc 14 (by decide) rfl)
    | 15, _, hc => exact px_tsIn (len := 109) (off := 564) (tgt := 603) rfl (by decide) (by decide) rfl (by decide) (hc 15 (by decide) rfl)
    | 16, _, hc => exact px_tsIn (len := 109) (off := 604) (tgt := 643) rfl (by decide) (by decide) rfl (by decide) (hc 16 (by decide) rfl)
    | 17, _, hc => exact px_tsIn (len := 109) (off := 644) (tgt := 683) rfl (by decide) (by decide) rfl (by decide) (hc 17 (by decide) rfl)
    | 18, _, hc => exact px_tsIn (len := 109) (off := 684) (tgt := 723) rfl (by decide) (by decide) rfl (by decide) (hc 18 (by decide) rfl)
    | 19, _, hc => exact px_tsIn (len := 109) (off := 739) (tgt := 778) rfl (by decide) (by decide) rfl (by decide) (hc 19 (by decide) rfl)
    | 20, _, hc => exact px_tsIn (len := 109) (off := 780) (tgt := 819) rfl (by decide) (by decide) rfl (by decide) (hc 20 (by decide) rfl)
    | 21, _, hc => exact px_tsIn (len := 109) (off := 837) (tgt := 876) rfl (by decide) (by decide) rfl (by decide) (hc 21 (by decide) rfl)
    | 22, _, hc => exact px_tsIn (len := 109) (off := 894) (tgt := 933) rfl (by decide) (by decide) rfl (by decide) (hc 22 (by decide) rfl)
    | 23, _, hc => exact px_tsIn (len := 109) (off := 922) (tgt := 961) rfl (by decide) (by decide) rfl (by decide) (hc 23 (by decide) rfl)
    | k + 24, hk, _ => exact out (k + 24) (by omega) hk
end LAWD
