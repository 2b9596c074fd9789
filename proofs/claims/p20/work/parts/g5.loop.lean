/-! the law's loop -/
theorem KT_gk {g : px_G} (h : px_gk g) : KT (px_ct g) := by
  have e1 : px_ct g 1 = pg_ctv 0 := h 0 (by decide)
  have e2 : px_ct g 2 = pg_ctv 1 := h 1 (by decide)
  have e3 : px_ct g 3 = pg_ctv 2 := h 2 (by decide)
  have e4 : px_ct g 4 = pg_ctv 3 := h 3 (by decide)
  have e5 : px_ct g 5 = pg_ctv 4 := h 4 (by decide)
  have e6 : px_ct g 6 = pg_ctv 5 := h 5 (by decide)
  unfold KT kv
  rw [e1, e2, e3, e4, e5, e6]
  exact ⟨⟨by decide, by decide, by decide⟩, ⟨by decide, by decide, by decide⟩, ⟨by decide, by decide, by decide⟩, ⟨by decide, by decide, by decide⟩, ⟨by decide, by decide, by decide⟩, by decide, by decide, by decide⟩
theorem INV_le {r : Nat} {ph : px_H} (h : INV (r + 1) ph) : INV r ph := by
  obtain ⟨sk, L, own, τ, σ, fs, gs, ws, n, b, a, Y, e, h1, h2, h3, h4, h5, h6⟩ := h
  exact ⟨sk, L, own, τ, σ, fs, gs, ws, n, b, a, Y, e, h1, h2, h3, h4, RMk_le h5 (by omega), by omega⟩
theorem lawI {l : Launch} {g : px_G} {d F L : Nat} {xs : Nat → Int32} (hfl : l.flags = flags0) (hK : KT (px_ct g)) (hF : 65540 < F) (hct : px_ct g 0 = (.int, L, xs)) (hL : L ≤ 2048) : ∀ (r a : Nat) (ph : px_H), a + 4 * r ≤ 2048 → L < a + 4 * r + 4 → INV r ph → PW l g (d + 41) m_L_law 23 [.retAddr 0, .ref 0, .ref 1726, .ref 1814, .int (nI a), px_u, px_u, px_u] [] ph (fun r _ => r = .inl (some (.int 1))) := by
  intro r
  induction r with
  | zero =>
    intro a ph ha hl hI
    exact law_loop hct hL (by omega) (fun _ => rfl) (fun h => absurd h (by omega)) (fun h => absurd h (by omega))
  | succ r ih =>
    intro a ph ha hl hI
    have K : ∀ ph2, INV r ph2 → PW l g (d + 41) m_L_law 23 [.retAddr 0, .ref 0, .ref 1726, .ref 1814, .int (nI (a + 4)), px_u, px_u, px_u] [] ph2 (fun r _ => r = .inl (some (.int 1))) := fun ph2 h2 => ih (a + 4) ph2 (by omega) (by omega) h2
    refine law_loop hct hL (by omega) (fun _ => rfl) (fun hlt n hn hv => ?_) (fun hlt => K ph (INV_le hI))
    match n, hn with
    | 0, _ => exact cs_0 hfl hK hF hct hL hlt hI K
    | 1, _ => exact cs_1 hfl hK hF hct hL hlt hI K
    | 2, _ => exact cs_2 hfl hK hF hct hL hlt hI K
    | 3, _ => exact cs_3 hfl hK hF hct hL hlt hI K
    | 4, _ => exact cs_4 hfl hK hF hct hL hlt hI K
    | 5, _ => exact cs_5 hfl hK hF hct hL hlt hI K
    | 6, _ => exact cs_6 hfl hK hF hct hL hlt hI K
    | 7, _ => exact cs_7 hfl hK hF hct hL hlt hI K
    | 8, _ => exact cs_8 hfl hK hF hct hL hlt hI K
    | 9, _ => exact cs_9 hfl hK hF hct hL hlt hI K
    | 10, _ => exact cs_10 hfl hK hF hct hL hlt hI K
    | 11, _ => exact cs_11 hfl hK hF hct hL hlt hI K
    | 12, _ => exact cs_12 hfl hK hF hct hL hlt hI K
    | 13, _ => exact cs_13 hfl hK hF hct hL hlt hI K
    | 14, _ => exact cs_14 hfl hK hF hct hL hlt hI K
    | 15, _ => exact cs_15 hfl hK hF hct hL hlt hI K
    | 16, _ => exact cs_16 hfl hK hF hct hL hlt hI K
    | 17, _ => exact cs_17 hfl hK hF hct hL hlt hI K
    | 18, _ => exact cs_18 hfl hK hF hct hL hlt hI K
    | 19, _ => exact cs_19 hfl hK hF hct hL hlt hI K
    | 20, _ => exact cs_20 hfl hK hF hct hL hlt hI K
    | 21, _ => exact cs_21 hfl hK hF hct hL hlt hI K
    | 22, _ => exact cs_22 hfl hK hF hct hL hlt hI K
    | 23, _ => exact cs_23 hfl hK hF hct hL hlt hI K
    | k + 24, h => exact absurd h (by omega)
