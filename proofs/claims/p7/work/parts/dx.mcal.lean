/-! the reference's calls that ask for a member or a byte: safe (steps spelled out by sf/pp.py) -/
section MCL
variable {F m : Nat} {h : px_H} {σ0 σ : px_S} {fs : px_FS}
theorem RF_0 (hr : RF σ0 fs) (hf : FR [0] [] [] [] σ0 σ) : RF σ fs := RF_FR hr hf (by decide) (by decide)
theorem RF_8 (hr : RF σ fs) {i : Nat} (hi : i < fs.length) : ∃ l, l ≤ 8 ∧ gA σ 8 i = nI l := by
  obtain ⟨x, hx⟩ : ∃ x, fs[i]? = some x := ⟨_, List.getElem?_eq_getElem hi⟩
  obtain ⟨_, _, _, _, l, hl, _⟩ := hr.2.2.2 i x hx
  obtain ⟨w1, w2, _⟩ := RF_row hr hx hl
  exact ⟨_, w2, w1⟩
theorem ix8 {i k : Nat} : (nI 8 * nI i) + nI k = nI (8 * i + k) := by
  rw [show nI 8 * nI i = nI (8 * i) from (Int32.ofNat_mul 8 i).symm, nI_add]
theorem sm_taken {a1 a2 : Int32} (hm : m ≤ h.length) (hr : RF σ0 fs) (hf : FR [0] [] [] [] σ0 σ) : Sm m h (FR [0] [] [] [] σ0) Any (f_M_taken F m a1 a2 (mh m h σ)) := by
  have hr1 := RF_0 hr hf
  have h8 := hr1.2.1
  unfold f_M_taken f_M_taken_27 f_M_taken_32 f_M_taken_68 f_M_taken_69
  refine sm_i (fun _ => ?_) (fun c1 => sm_gI hm rfl (sm_i (fun _ => ?_) (fun c2 => sm_i (fun _ => ?_) (fun c3 => ?_))))
  · repeat' (first | exact absurd (show nI 0 = 0 from rfl) (by assumption) | exact absurd (show nI 1 = 0 by assumption) (by decide) | ((with_reducible refine sm_i (fun hc => ?_) (fun hc => ?_))) | ((with_reducible refine sm_gI hm (by with_unfolding_all exact rfl) ?_)) | ((with_reducible refine sm_gJ hm (by with_unfolding_all exact rfl) ?_)) | ((with_reducible refine sm_gR hm (by with_unfolding_all exact rfl) ?_)) | ((with_reducible refine sm_o hm (fun l => ?_))) | ((with_reducible refine sm_r ?_ ?_); (first | exact any | assumption | first | exact ⟨false, rfl⟩ | exact ⟨true, rfl⟩ | assumption); assumption) | ((with_reducible refine sm_z ?_ ?_ ?_); (first | exact ⟨false, rfl⟩ | exact ⟨true, rfl⟩ | assumption); (first | exact any | exact ⟨false, rfl⟩ | exact ⟨true, rfl⟩ | assumption); assumption) | ((with_reducible refine sm_t0 hm (by assumption) (fun σ hi => ?_))) | ((with_reducible refine sm_tA hm (by assumption) (fun σ hi => ?_))) | ((with_reducible refine sm_tB hm (by assumption) (fun σ hi => ?_))) | ((with_reducible refine sm_tC hm (by assumption) (fun σ hi => ?_))))
  · repeat' (first | exact absurd (show nI 0 = 0 from rfl) (by assumption) | exact absurd (show nI 1 = 0 by assumption) (by decide) | ((with_reducible refine sm_i (fun hc => ?_) (fun hc => ?_))) | ((with_reducible refine sm_gI hm (by with_unfolding_all exact rfl) ?_)) | ((with_reducible refine sm_gJ hm (by with_unfolding_all exact rfl) ?_)) | ((with_reducible refine sm_gR hm (by with_unfolding_all exact rfl) ?_)) | ((with_reducible refine sm_o hm (fun l => ?_))) | ((with_reducible refine sm_r ?_ ?_); (first | exact any | assumption | first | exact ⟨false, rfl⟩ | exact ⟨true, rfl⟩ | assumption); assumption) | ((with_reducible refine sm_z ?_ ?_ ?_); (first | exact ⟨false, rfl⟩ | exact ⟨true, rfl⟩ | assumption); (first | exact any | exact ⟨false, rfl⟩ | exact ⟨true, rfl⟩ | assumption); assumption) | ((with_reducible refine sm_t0 hm (by assumption) (fun σ hi => ?_))) | ((with_reducible refine sm_tA hm (by assumption) (fun σ hi => ?_))) | ((with_reducible refine sm_tB hm (by assumption) (fun σ hi => ?_))) | ((with_reducible refine sm_tC hm (by assumption) (fun σ hi => ?_))))
  · repeat' (first | exact absurd (show nI 0 = 0 from rfl) (by assumption) | exact absurd (show nI 1 = 0 by assumption) (by decide) | ((with_reducible refine sm_i (fun hc => ?_) (fun hc => ?_))) | ((with_reducible refine sm_gI hm (by with_unfolding_all exact rfl) ?_)) | ((with_reducible refine sm_gJ hm (by with_unfolding_all exact rfl) ?_)) | ((with_reducible refine sm_gR hm (by with_unfolding_all exact rfl) ?_)) | ((with_reducible refine sm_o hm (fun l => ?_))) | ((with_reducible refine sm_r ?_ ?_); (first | exact any | assumption | first | exact ⟨false, rfl⟩ | exact ⟨true, rfl⟩ | assumption); assumption) | ((with_reducible refine sm_z ?_ ?_ ?_); (first | exact ⟨false, rfl⟩ | exact ⟨true, rfl⟩ | assumption); (first | exact any | exact ⟨false, rfl⟩ | exact ⟨true, rfl⟩ | assumption); assumption) | ((with_reducible refine sm_t0 hm (by assumption) (fun σ hi => ?_))) | ((with_reducible refine sm_tA hm (by assumption) (fun σ hi => ?_))) | ((with_reducible refine sm_tB hm (by assumption) (fun σ hi => ?_))) | ((with_reducible refine sm_tC hm (by assumption) (fun σ hi => ?_))))
  · rw [hr1.1] at c2
    obtain ⟨i, hi, rfl⟩ := ixG c1 c2 (Nat.le_refl _)
    obtain ⟨l, hl, el⟩ := RF_8 hr1 hi
    refine sm_gR hm (c := 5) rfl (sm_aI hm (k := 8) (n := 8) rfl rfl ⟨i, by omega, rfl⟩ (fun j hj ej => ?_))
    have e : j = i := ((nI_eq (show i < 2 ^ 31 by omega) (show j < 2 ^ 31 by omega)).mp ej).symm
    subst e
    refine sm_i (fun c4 => ?_) (fun _ => ?_)
    · rw [el] at c4
      obtain ⟨k, hk, rfl⟩ := ixL c3 c4 hl
      rw [ix8]
      have hx : ∃ q, q < 64 ∧ nI (8 * j + k) = nI q := ⟨_, by omega, rfl⟩
      have hx8 : ∃ q, q < 8 ∧ nI j = nI q := ⟨_, by omega, rfl⟩
      repeat' (first | ((with_reducible refine sm_aI hm (by with_unfolding_all exact rfl) (by with_unfolding_all exact rfl) ?_ (fun j hj ej => ?_)); first | exact hx | exact hx8) | exact absurd (show nI 0 = 0 from rfl) (by assumption) | exact absurd (show nI 1 = 0 by assumption) (by decide) | ((with_reducible refine sm_i (fun hc => ?_) (fun hc => ?_))) | ((with_reducible refine sm_gI hm (by with_unfolding_all exact rfl) ?_)) | ((with_reducible refine sm_gJ hm (by with_unfolding_all exact rfl) ?_)) | ((with_reducible refine sm_gR hm (by with_unfolding_all exact rfl) ?_)) | ((with_reducible refine sm_o hm (fun l => ?_))) | ((with_reducible refine sm_r ?_ ?_); (first | exact any | assumption | first | exact ⟨false, rfl⟩ | exact ⟨true, rfl⟩ | assumption); assumption) | ((with_reducible refine sm_z ?_ ?_ ?_); (first | exact ⟨false, rfl⟩ | exact ⟨true, rfl⟩ | assumption); (first | exact any | exact ⟨false, rfl⟩ | exact ⟨true, rfl⟩ | assumption); assumption) | ((with_reducible refine sm_t0 hm (by assumption) (fun σ hi => ?_))) | ((with_reducible refine sm_tA hm (by assumption) (fun σ hi => ?_))) | ((with_reducible refine sm_tB hm (by assumption) (fun σ hi => ?_))) | ((with_reducible refine sm_tC hm (by assumption) (fun σ hi => ?_))))
    · repeat' (first | exact absurd (show nI 0 = 0 from rfl) (by assumption) | exact absurd (show nI 1 = 0 by assumption) (by decide) | ((with_reducible refine sm_i (fun hc => ?_) (fun hc => ?_))) | ((with_reducible refine sm_gI hm (by with_unfolding_all exact rfl) ?_)) | ((with_reducible refine sm_gJ hm (by with_unfolding_all exact rfl) ?_)) | ((with_reducible refine sm_gR hm (by with_unfolding_all exact rfl) ?_)) | ((with_reducible refine sm_o hm (fun l => ?_))) | ((with_reducible refine sm_r ?_ ?_); (first | exact any | assumption | first | exact ⟨false, rfl⟩ | exact ⟨true, rfl⟩ | assumption); assumption) | ((with_reducible refine sm_z ?_ ?_ ?_); (first | exact ⟨false, rfl⟩ | exact ⟨true, rfl⟩ | assumption); (first | exact any | exact ⟨false, rfl⟩ | exact ⟨true, rfl⟩ | assumption); assumption) | ((with_reducible refine sm_t0 hm (by assumption) (fun σ hi => ?_))) | ((with_reducible refine sm_tA hm (by assumption) (fun σ hi => ?_))) | ((with_reducible refine sm_tB hm (by assumption) (fun σ hi => ?_))) | ((with_reducible refine sm_tC hm (by assumption) (fun σ hi => ?_))))
theorem lN_T3 {y : Nat} (h : y < 2 ^ 63) : (lN y).toInt = (y : Int) := Int64.toInt_ofNat_of_lt h
theorem lN_Tn {y : Nat} (h1 : 2 ^ 63 ≤ y) (h2 : y < 2 ^ 64) : (lN y).toInt = (y : Int) - 2 ^ 64 := by
  show (BitVec.ofNat 64 y).toInt = _
  rw [BitVec.toInt_eq_toNat_cond, BitVec.toNat_ofNat, Nat.mod_eq_of_lt h2, if_neg (by omega)]
  rfl
theorem sm_peek {x : Int64} (hm : m ≤ h.length) (hF : 8 < F) (hv : MV σ0) (hf : FR [0] [] [] [] σ0 σ) : Sm m h (FR [0] [] [] [] σ0) Any (f_M_peek F m x (mh m h σ)) := by
  unfold f_M_peek f_M_peek_62
  refine sm_pI hm rfl (FR0 hf) (fun σ hi => ?_)
  obtain ⟨r, hr, er, hx⟩ := MV_0 hv hi
  refine sm_o hm (fun _ => sm_x (sm_row_2 hm hr er r 0 F (Nat.zero_add _) (by omega)) ?_)
  rintro v _ hv rfl
  refine sm_i (fun hc => ?_) (fun hc => sm_r any hi)
  rcases hv with rfl | ⟨i, hi8, rfl, hlt⟩
  · exact absurd hc (by decide)
  · obtain ⟨s, p, fz, e7, hs, e6, e8, hb⟩ := hx i hi8
    have hii : ∀ j, nI i = nI j → j < 8 → j = i := fun j ej hj => ((nI_eq (show i < 2 ^ 31 by omega) (show j < 2 ^ 31 by omega)).mp ej).symm
    refine sm_gR hm (c := 71) rfl (sm_aJ hm (k := 107) (n := 8) rfl rfl ⟨i, by omega, rfl⟩ (fun j hj ej => ?_))
    obtain rfl := hii j ej hj
    refine sm_gR hm (c := 72) rfl (sm_aJ hm (k := 108) (n := 8) rfl rfl ⟨j, by omega, rfl⟩ (fun j' hj' ej' => ?_))
    obtain rfl := hii j' ej' hj'
    refine sm_i (fun _ => sm_r any hi) (fun hc2 => ?_)
    refine sm_gR hm (c := 68) rfl (sm_gR hm (c := 70) rfl (sm_aJ hm (k := 106) (n := 8) rfl rfl ⟨j', by omega, rfl⟩ (fun j2 hj2 ej2 => ?_)))
    obtain rfl := hii j2 ej2 hj2
    refine sm_aI hm (k := 100) (n := 65536) rfl rfl ?_ (fun _ _ _ => sm_r any hi)
    rw [e7] at hlt hc2 ⊢
    rw [e8] at hc2
    rw [e6]
    obtain ⟨y, hy, rfl⟩ := wb_of x
    have hp : ∃ d, d < fz ∧ lN y - lN s = lN d := by
      have h1 : ¬ (lN y).toInt < (lN s).toInt := fun w => hlt (Int64.lt_iff_toInt_lt.mpr w)
      have es : (lN s).toInt = (s : Int) := lN_T3 (by omega)
      have hy2 : y < 2 ^ 63 := by
        apply Nat.lt_of_not_le
        intro w
        apply h1
        rw [es, lN_Tn w hy]
        omega
      have ey : (lN y).toInt = (y : Int) := lN_T3 hy2
      rw [es, ey] at h1
      have hsy : s ≤ y := by omega
      refine ⟨y - s, ?_, lN_sub hsy⟩
      apply Nat.lt_of_not_le
      intro w
      apply hc2
      rw [lN_sub hsy]
      exact Int64.le_iff_toInt_le.mpr (by rw [lN_T3 (by omega), lN_T3 (by omega)]; omega)
    obtain ⟨d, hd, ed⟩ := hp
    rw [ed, lN_add, lN_i]
    exact ⟨p + d, by omega, rfl⟩
/-- the address that is answered -/
def adQ (σ : px_S) : Option Nat → Int64
  | none => -1
  | some i => gB σ 29 i
theorem q_address {n : Nat} {b : Nat → Nat} {ws : List (List Nat)} (hm : m ≤ h.length) (hF : 4096 < F) (ht : RT σ n b) (hn : RNm σ ws) : ∃ v σ', f_M_address F m (mh m h σ) = some (v, mh m h σ') ∧ gI σ' 0 = nI (if gI σ 13 = 0 then 0 else 1) ∧ RT σ' (if gI σ 13 = 0 then 0 else n) (if gI σ 13 = 0 then fun _ => 0 else b) ∧ FR [0, 2] [] [] [] σ σ' ∧ (gI σ 13 = 0 → v = adQ σ (idx (tk b 0 n) 0 ws)) := by
  obtain ⟨t1, t2, t3, t4⟩ := ht
  unfold f_M_address f_M_address_13 f_M_address_57
  rw [Mg13 hm, bs]
  by_cases c1 : gI σ 13 = 0
  · rw [if_pos c1, e_o hm, bs, show f_M_throwing F m (nI 0) (nI 0) (mh m h σ) = _ from q_throwing hm false false, xb_mk, if_pos (show bI (false || false) = 0 from rfl), Mr1 hm, bs, Mg2 hm, bs, e_o hm, bs]
    have e2 : gI (sI σ 0 (nI (thr false false))) 2 = nI n := t1
    have hs : srcT (gA σ 1) 0 (tk b 0 n) := fun j x hx => by
      have hj : j < n := by have := List.getElem?_eq_some_iff.mp hx; obtain ⟨w, _⟩ := this; rw [tk_len] at w; exact w
      rw [tk_get b 0 n j hj] at hx
      injection hx with hx
      rw [← hx, ← t4, cb_at (by omega), Nat.zero_add, Nat.zero_add]
      exact t3 j
    have hw : ∀ x, x ∈ tk b 0 n → x < 256 := tk_lt (fun k => by rw [← t4]; exact cb_lt _ _ _ _) 0 n
    have q := q_find (F := F) (σ := sI σ 0 (nI (thr false false))) (pa := m + 1) (M := 8192) (T := gA σ 1) (p := 0) (w := tk b 0 n) hm hF (RNm_eq hn rfl rfl rfl) (fun i hi => Ma1 hm hi) hs hw (by rw [tk_len]; omega) (by decide)
    rw [tk_len, Nat.zero_add] at q
    rw [e2, q, xb_mk, Mp2 hm, bs]
    have fin : ∀ (o : Option Nat) (v : Int64), v = adQ σ o → ∃ v' σ', some (v, mh m h (sI (sI σ 0 (nI (thr false false))) 2 (nI 0))) = some (v', mh m h σ') ∧ gI σ' 0 = nI (if gI σ 13 = 0 then 0 else 1) ∧ RT σ' (if gI σ 13 = 0 then 0 else n) (if gI σ 13 = 0 then fun _ => 0 else b) ∧ FR [0, 2] [] [] [] σ σ' ∧ (gI σ 13 = 0 → v' = adQ σ o) := fun o v hv => by
      refine ⟨v, _, rfl, ?_, ?_, FR_trans (FR_mono (FR_I _ _ _) (by decide) (by decide) (by decide) (by decide)) (FR_mono (FR_I _ _ _) (by decide) (by decide) (by decide) (by decide)), fun _ => hv⟩
      · rw [if_pos c1]; rfl
      · rw [if_pos c1, if_pos c1]
        refine ⟨rfl, Nat.zero_le _, t3, ?_⟩
        funext x
        unfold cb
        rw [if_neg (Nat.not_lt_zero x)]
    cases e : idx (tk b 0 n) 0 ws with
    | none => rw [if_neg (show ¬ (0 : Int32) ≤ tdA none by decide)]; exact fin none _ rfl
    | some i =>
      have hi := (idx_lt e).2
      have hl := hn.2.1
      rw [if_pos (show (0 : Int32) ≤ tdA (some i) from nI_0le (by omega)), Mr29 hm, bs, show tdA (some i) = nI i from rfl, Ma29 hm (by omega), bs]
      exact fin (some i) _ rfl
  · rw [if_neg c1, e_o hm, bs, show f_M_throwing F m (nI 1) (nI 0) (mh m h σ) = _ from q_throwing hm true false, xb_mk, if_neg (show ¬ bI (true || false) = 0 by decide)]
    refine ⟨_, _, rfl, ?_, ?_, FR_mono (FR_I _ _ _) (by decide) (by decide) (by decide) (by decide), fun q => absurd q c1⟩
    · rw [if_neg c1]; rfl
    · rw [if_neg c1, if_neg c1]; exact ⟨t1, t2, t3, t4⟩
end MCL
