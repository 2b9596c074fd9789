/-! the law -/
theorem px_main {l : Launch} (hfl : l.flags = flags0) : px_Law l 2048 := by
  intro g L xs hL hgk hct
  obtain ⟨z, m, o, hz, h1⟩ := fz_of ck1
  have h2 := fz_at ck2 hz
  have h3 := fz_at ck3 hz
  have h4 := fz_at ck4 hz
  have h5 := fz_at ck5 hz
  have h6 := fz_at ck6 hz
  have h7 := fz_at ck7 hz
  have hP : ∀ j, j < 8 → chkP z (192 * j) = true := by
    intro j hj
    match j, hj with
    | 0, _ => exact fz_at ckp0 hz
    | 1, _ => exact fz_at ckp1 hz
    | 2, _ => exact fz_at ckp2 hz
    | 3, _ => exact fz_at ckp3 hz
    | 4, _ => exact fz_at ckp4 hz
    | 5, _ => exact fz_at ckp5 hz
    | 6, _ => exact fz_at ckp6 hz
    | 7, _ => exact fz_at ckp7 hz
    | k + 8, h => exact absurd h (by omega)
  simp only [Bool.and_eq_true] at h1 h2 h4 h5 h6 h7
  obtain ⟨em, eo, hA⟩ := h1
  have em : m = 1726 := Nat.eq_of_beq_eq_true em
  have eo : o = 1814 := Nat.eq_of_beq_eq_true eo
  subst em
  subst eo
  refine law_new (d := 1259) hfl hgk hz (fun ph hR => PW_msk ?_)
  exact lawI (d := 1259) (F := 65541) hfl (KT_gk hgk) (by decide) hct hL 512 0 _ (by decide) (by omega) (INV_0 hR hA h2.1 h3 hP h2.2 h4.1 h4.2.1 h4.2.2 h5.1 h5.2.1 h5.2.2.1 h5.2.2.2 h6.1 h6.2.1 h6.2.2 h7.1 h7.2)
