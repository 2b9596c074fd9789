/-! object t taken, of n bytes b at o -/
def OB (σ : px_S) (t o n : Nat) (b : Nat → Nat) : Prop := RTa σ t o ∧ cb (gA σ 6) o n = b ∧ o + n ≤ 65536 ∧ eObj b n = 0 ∧ ∀ k, isB (gA σ 6 k)
theorem OB_FR {σ σ' : px_S} {I J A B : List Nat} {t o n : Nat} {b : Nat → Nat} (h : OB σ t o n b) (f : FR I J A B σ σ') (hA : 6 ∉ A ∧ 9 ∉ A ∧ 17 ∉ A) : OB σ' t o n b := by
  obtain ⟨⟨a1, q, a2, a3, a4⟩, h2, h3, h4, h5⟩ := h
  have e6 := f.2.2.1 6 hA.1
  exact ⟨⟨a1, q, a2, by rw [f.2.2.1 17 hA.2.2]; exact a3, by rw [f.2.2.1 9 hA.2.1]; exact a4⟩, by rw [e6]; exact h2, h3, h4, by rw [e6]; exact h5⟩
theorem eObj_s {b : Nat → Nat} {n : Nat} (h : eObj b n = 0) : eSit b = 0 := by
  unfold eObj at h
  split at h
  · cases h
  · split at h
    · cases h
    · split at h
      · rename_i c; exact absurd h c
      · split at h
        · rename_i c; exact absurd h c
        · split at h
          · rename_i c; exact absurd h c
          · rename_i c
            by_cases e : eSit b = 0
            · exact e
            · exact absurd e c
theorem al_iffw {p : Nat → Bool} : ∀ {c k : Nat}, al p k c = true ↔ ∀ i, k ≤ i → i < k + c → p i = true := by
  intro c
  induction c with
  | zero => intro k; exact ⟨fun _ i h1 h2 => by omega, fun _ => rfl⟩
  | succ c ih =>
    intro k
    rw [show al p k (c + 1) = (p k && al p (k + 1) c) from rfl, Bool.and_eq_true, ih]
    constructor
    · rintro ⟨h1, h2⟩ i h3 h4
      by_cases e : i = k
      · rw [e]; exact h1
      · exact h2 i (by omega) (by omega)
    · intro hh
      exact ⟨hh k (Nat.le_refl _) (by omega), fun i h1 h2 => hh i (by omega) (by omega)⟩
/-- the sites of an object that was read -/
theorem eSit_0 {b : Nat → Nat} {n : Nat} (h : eObj b n = 0) {i : Nat} (hi : 1 ≤ i) (hiS : i < oS b) (hs : isS b i = true) : oI b i < oS b ∧ oK b (oI b i) = true ∧ oT b i = 4 ∧ oP b i + oZ b i ≤ n ∧ oZ b i % 24 = 0 ∧ ∀ j, j < sN b i → sOK b i j = true := by
  have h1 := eObj_s h
  have hw := (eObj_0 h).1
  have hs0 := hs
  unfold isS at hs
  have hs := of_decide_eq_true hs
  unfold eSit at h1
  split at h1
  · rename_i c
    have h2 := al_iffw.mp c i hi (by omega)
    rw [hs0] at h2
    have h2 : (false || sSec b i) = true := h2
    rw [Bool.false_or] at h2
    unfold sSec at h2
    rw [Bool.and_eq_true] at h2
    refine ⟨hs.2.1, hs.2.2, hs.1, hw.1.2.2.2.1 i hiS (by omega) (by omega), (of_decide_eq_true h2.1).1, fun j hj => ?_⟩
    exact al_iffw.mp h2.2 j (Nat.zero_le _) (by omega)
  · cases h1
theorem sOK_0w {b : Nat → Nat} {i j : Nat} (h : sOK b i j = true) : wd (sH b i j) ≠ 16 ∧ sY b i j < oM b ∧ (wd (sH b i j) = 0 ∨ oT b (oI b i) ≠ 8 ∧ sL b i j + wd (sH b i j) ≤ oZ b (oI b i)) := by
  unfold sOK at h
  rw [Bool.and_eq_true] at h
  exact of_decide_eq_true h.1
section MOB
variable {F m t o n k i j : Nat} {h : px_H} {σ : px_S} {b : Nat → Nat}
theorem OB_w (hb : OB σ t o n b) : w2 b n := (eObj_0 hb.2.2.2.1).1
theorem OB_rk (hb : OB σ t o n b) : rk (gA σ 6) o n := w1_rk (by rw [hb.2.1]; exact (OB_w hb).1) hb.2.2.1
theorem OB_y (hb : OB σ t o n b) (h1 : 1 ≤ k) (hk : k < oM b) : yOK b k = true := (eObj_0 hb.2.2.2.1).2.1 k h1 hk
theorem O_obj (hm : m ≤ h.length) (hb : OB σ t o n b) : f_M_object F m (nI t) (mh m h σ) = some (nI o, mh m h σ) := q_object hm hb.1
theorem O_sec (hm : m ≤ h.length) (hF : 24 < F) (hb : OB σ t o n b) : f_M_sections F m (nI o) (mh m h σ) = some (nI (oS b), mh m h σ) := by
  rw [q_sections (Mmb hm hb.2.2.2.2) (by omega) (OB_rk hb).1, hb.2.1]
theorem O_type (hm : m ≤ h.length) (hF : 24 < F) (hb : OB σ t o n b) (hi : i < oS b) : f_M_type F m (nI o) (nI i) (mh m h σ) = some (lN (oT b i), mh m h σ) := by
  rw [q_type (Mmb hm hb.2.2.2.2) (by omega) (OB_rk hb) (by rw [hb.2.1]; exact hi), hb.2.1]
theorem O_flags (hm : m ≤ h.length) (hF : 24 < F) (hb : OB σ t o n b) (hi : i < oS b) : f_M_flagsOf F m (nI o) (nI i) (mh m h σ) = some (lN (oF b i), mh m h σ) := by
  rw [q_flagsOf (Mmb hm hb.2.2.2.2) (by omega) (OB_rk hb) (by rw [hb.2.1]; exact hi), hb.2.1]
theorem O_beg (hm : m ≤ h.length) (hF : 24 < F) (hb : OB σ t o n b) (hi : i < oS b) : f_M_beginning F m (nI o) (nI i) (mh m h σ) = some (lN (oP b i), mh m h σ) := by
  rw [q_beginning (Mmb hm hb.2.2.2.2) (by omega) (OB_rk hb) (by rw [hb.2.1]; exact hi), hb.2.1]
theorem O_size (hm : m ≤ h.length) (hF : 24 < F) (hb : OB σ t o n b) (hi : i < oS b) : f_M_size F m (nI o) (nI i) (mh m h σ) = some (lN (oZ b i), mh m h σ) := by
  rw [q_size (Mmb hm hb.2.2.2.2) (by omega) (OB_rk hb) (by rw [hb.2.1]; exact hi), hb.2.1]
theorem O_info (hm : m ≤ h.length) (hF : 24 < F) (hb : OB σ t o n b) (hi : i < oS b) : f_M_info F m (nI o) (nI i) (mh m h σ) = some (lN (oI b i), mh m h σ) := by
  rw [q_info (Mmb hm hb.2.2.2.2) (by omega) (OB_rk hb) (by rw [hb.2.1]; exact hi), hb.2.1]
theorem O_align (hm : m ≤ h.length) (hF : 24 < F) (hb : OB σ t o n b) (hi : i < oS b) : f_M_align F m (nI o) (nI i) (mh m h σ) = some (lN (oA b i), mh m h σ) := by
  rw [q_align (Mmb hm hb.2.2.2.2) (by omega) (OB_rk hb) (by rw [hb.2.1]; exact hi), hb.2.1]
theorem O_kept (hm : m ≤ h.length) (hF : 24 < F) (hb : OB σ t o n b) (hi : i < oS b) : f_M_isKept F m (nI o) (nI i) (mh m h σ) = some (bI (oK b i), mh m h σ) := by
  rw [q_isKept (Mmb hm hb.2.2.2.2) (by omega) (OB_rk hb) (by rw [hb.2.1]; exact hi), hb.2.1]
theorem O_group (hm : m ≤ h.length) (hF : 24 < F) (hb : OB σ t o n b) (hi : i < oS b) : f_M_group F m (nI o) (nI i) (mh m h σ) = some (nI (oG b i), mh m h σ) := by
  rw [q_group (Mmb hm hb.2.2.2.2) (by omega) (OB_rk hb) (by rw [hb.2.1]; exact hi), hb.2.1]
theorem O_many (hm : m ≤ h.length) (hF : 24 < F) (hb : OB σ t o n b) : f_M_symbolMany F m (nI o) (mh m h σ) = some (nI (oM b), mh m h σ) := by
  rw [q_symbolMany (Mmb hm hb.2.2.2.2) (by omega) (OB_rk hb) (by rw [hb.2.1]; exact (OB_w hb).1.2.1.1) (by rw [hb.2.1]; exact w2_z (OB_w hb)), hb.2.1]
theorem O_where (hm : m ≤ h.length) (hF : 24 < F) (hb : OB σ t o n b) (hk : k < oM b) : f_M_where F m (nI o) (nI k) (mh m h σ) = some (nI (yW b k), mh m h σ) := by
  rw [q_where (Mmb hm hb.2.2.2.2) (by omega) (OB_rk hb) (by rw [hb.2.1]; exact (OB_w hb).1.2.1.1) (by rw [hb.2.1]; exact w2_y (OB_w hb) hk), hb.2.1]
theorem O_value (hm : m ≤ h.length) (hF : 24 < F) (hb : OB σ t o n b) (hk : k < oM b) : f_M_value F m (nI o) (nI k) (mh m h σ) = some (lN (yV b k), mh m h σ) := by
  rw [q_value (Mmb hm hb.2.2.2.2) (by omega) (OB_rk hb) (by rw [hb.2.1]; exact (OB_w hb).1.2.1.1) (by rw [hb.2.1]; exact w2_y (OB_w hb) hk), hb.2.1]
theorem O_ysize (hm : m ≤ h.length) (hF : 24 < F) (hb : OB σ t o n b) (hk : k < oM b) : f_M_symbolSize F m (nI o) (nI k) (mh m h σ) = some (lN (yZ b k), mh m h σ) := by
  rw [q_symbolSize (Mmb hm hb.2.2.2.2) (by omega) (OB_rk hb) (by rw [hb.2.1]; exact (OB_w hb).1.2.1.1) (by rw [hb.2.1]; exact w2_y (OB_w hb) hk), hb.2.1]
theorem O_bind (hm : m ≤ h.length) (hF : 24 < F) (hb : OB σ t o n b) (hk : k < oM b) : f_M_bind F m (nI o) (nI k) (mh m h σ) = some (nI (yB b k), mh m h σ) := by
  rw [q_bind (Mmb hm hb.2.2.2.2) (by omega) (OB_rk hb) (by rw [hb.2.1]; exact (OB_w hb).1.2.1.1) (by rw [hb.2.1]; exact w2_y (OB_w hb) hk), hb.2.1]
theorem O_sym (hm : m ≤ h.length) (hF : 24 < F) (hb : OB σ t o n b) : f_M_symbol F m (nI o) (nI k) (mh m h σ) = some (nI (o + yP b k), mh m h σ) := by
  rw [q_symbol (Mmb hm hb.2.2.2.2) (by omega) (OB_rk hb) (by rw [hb.2.1]; exact (OB_w hb).1.2.1.1), hb.2.1]
theorem O_wNo {dr : Nat → Bool} (hm : m ≤ h.length) (hF : 24 < F) (hb : OB σ t o n b) (hd : RDr σ dr) (hk : k < oM b) : f_M_whereNow F m (nI t) (nI k) (mh m h σ) = some (nI (wNo dr t b k), mh m h σ) := by
  have := q_whereNow (F := F) (k := k) (dr := dr) hm hF hb.2.2.2.2 (by rw [hb.2.1]; exact OB_w hb) hb.2.2.1 (by rw [hb.2.1]; exact hk) hb.1 hd
  rw [hb.2.1] at this
  exact this
theorem O_name {xs : px_NL} (hm : m ≤ h.length) (hF : 4096 < F) (hb : OB σ t o n b) (hr : RL σ xs) (h1 : 1 ≤ k) (hk : k < oM b) (hk2 : yB b k ≠ 0) : f_M_nameOf F m (nI o) (nI k) (mh m h σ) = some (tdA (idx (yT b k) 0 (xs.map Prod.fst)), mh m h σ) := by
  have := q_nameOf (F := F) (k := k) (xs := xs) hm hF hb.2.2.2.2 (by rw [hb.2.1]; exact OB_w hb) hb.2.2.1 (by rw [hb.2.1]; exact hk) (by rw [hb.2.1]; exact (yOK_n (OB_y hb h1 hk) hk2).2.1) hr
  rw [hb.2.1] at this
  exact this
theorem O_isS (hm : m ≤ h.length) (hF : 24 < F) (hb : OB σ t o n b) (hi : i < oS b) : f_M_isSites F m (nI o) (nI i) (mh m h σ) = some (bI (isS b i), mh m h σ) := by
  rw [q_isSites (Mmb hm hb.2.2.2.2) (by omega) (OB_rk hb) (by rw [hb.2.1]; exact hi), hb.2.1]
theorem O_sN (hm : m ≤ h.length) (hF : 24 < F) (hb : OB σ t o n b) (h1 : 1 ≤ i) (hi : i < oS b) (hs : isS b i = true) : f_M_siteMany F m (nI o) (nI i) (mh m h σ) = some (nI (sN b i), mh m h σ) := by
  have hz := (eSit_0 hb.2.2.2.1 h1 hi hs).2.2.2.1
  have hn := hb.2.2.1
  rw [q_siteMany (Mmb hm hb.2.2.2.2) (by omega) (OB_rk hb) (by rw [hb.2.1]; exact hi) (by rw [hb.2.1]; omega), hb.2.1]
theorem O_site (hm : m ≤ h.length) (hF : 24 < F) (hb : OB σ t o n b) (hi : i < oS b) : f_M_site F m (nI o) (nI i) (nI j) (mh m h σ) = some (nI (o + sP b i j), mh m h σ) := by
  rw [q_site (Mmb hm hb.2.2.2.2) (by omega) (OB_rk hb) (by rw [hb.2.1]; exact hi), hb.2.1]
theorem OB_sP (hb : OB σ t o n b) (h1 : 1 ≤ i) (hi : i < oS b) (hs : isS b i = true) (hj : j < sN b i) : sP b i j + 24 ≤ n := by
  have h2 := eSit_0 hb.2.2.2.1 h1 hi hs
  have h3 := h2.2.2.2.1
  have h4 := h2.2.2.2.2.1
  unfold sP
  unfold sN at hj
  omega
theorem O_sL (hm : m ≤ h.length) (hF : 24 < F) (hb : OB σ t o n b) (hp : sP b i j + 24 ≤ n) : f_M_num F m (nI (o + sP b i j)) (nI 8) (mh m h σ) = some (lN (sL b i j), mh m h σ) := by
  have := q_sL (F := F) (p := sP b i j) (Mmb hm hb.2.2.2.2) (by omega) hb.2.2.1 hp
  rw [hb.2.1] at this
  exact this
theorem O_sH (hm : m ≤ h.length) (hF : 24 < F) (hb : OB σ t o n b) (hp : sP b i j + 24 ≤ n) : f_M_num F m (nI (o + sP b i j + 8)) (nI 4) (mh m h σ) = some (lN (sH b i j), mh m h σ) := by
  have := q_sH (F := F) (p := sP b i j) (Mmb hm hb.2.2.2.2) (by omega) hb.2.2.1 hp
  rw [hb.2.1] at this
  exact this
theorem O_sY (hm : m ≤ h.length) (hF : 24 < F) (hb : OB σ t o n b) (hp : sP b i j + 24 ≤ n) : f_M_num F m (nI (o + sP b i j + 12)) (nI 4) (mh m h σ) = some (lN (sY b i j), mh m h σ) := by
  have := q_sY (F := F) (p := sP b i j) (Mmb hm hb.2.2.2.2) (by omega) hb.2.2.1 hp
  rw [hb.2.1] at this
  exact this
theorem O_sD (hm : m ≤ h.length) (hF : 24 < F) (hb : OB σ t o n b) (hp : sP b i j + 24 ≤ n) : f_M_num F m (nI (o + sP b i j + 16)) (nI 8) (mh m h σ) = some (lN (sD b i j), mh m h σ) := by
  have := q_sD (F := F) (p := sP b i j) (Mmb hm hb.2.2.2.2) (by omega) hb.2.2.1 hp
  rw [hb.2.1] at this
  exact this
theorem OB_lt (hb : OB σ t o n b) (x : Nat) : b x < 256 := by
  have := cb_lt (gA σ 6) o n x
  rw [hb.2.1] at this
  exact this
theorem OB_yB (hb : OB σ t o n b) : yB b k < 16 := yB_lt (OB_lt hb) k
theorem OB_yW (hb : OB σ t o n b) : yW b k < 65536 := by
  have := yW_2 (B := gA σ 6) (o := o) (n := n) (k := k)
  rw [hb.2.1] at this
  exact this
theorem wNo_lt {dr : Nat → Bool} (hb : OB σ t o n b) : wNo dr t b k < 65536 := by
  have := OB_yW (k := k) hb
  unfold wNo
  split <;> omega
end MOB
