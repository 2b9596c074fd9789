section
/-! address: class and reference answer alike (steps spelled out by sf/pp.py) -/
section BAD
variable {F : Nat} {c : px_CT} {sk : Nat → Nat × Nat × Nat} {L : Nat} {own : Nat → Nat × Nat} {τ : px_TT} {σ : px_S} {fs : List (Nat × (Nat → Nat))} {gs : List (List Nat × Int64)} {ws : List (List Nat)} {n : Nat} {b : Nat → Nat} {a : Int32} {Y : px_Y} {k N : Nat}
/-- the address of a name -/
def adY (ns : List (List Nat × Int64)) (w : List Nat) : Int64 := match idx w 0 (ns.map Prod.fst) with
  | none => -1
  | some i => (ns.getD i ([], 0)).2
theorem adY_q (h : ∀ (i : Nat) (x : List Nat × Int64), Y.2.2.2.1[i]? = some x → gB σ 29 i = x.2) (w : List Nat) : adQ σ (idx w 0 (Y.2.2.2.1.map Prod.fst)) = adY Y.2.2.2.1 w := by
  unfold adY
  cases e : idx w 0 (Y.2.2.2.1.map Prod.fst) with
  | none => rfl
  | some i =>
    have hi := (idx_lt e).2
    rw [List.length_map] at hi
    have hx : Y.2.2.2.1[i]? = some Y.2.2.2.1[i] := List.getElem?_eq_getElem (by omega)
    show gB σ 29 i = (Y.2.2.2.1.getD i ([], 0)).2
    rw [h i _ hx, List.getD_eq_getElem?_getD, hx]
    rfl
theorem adY_n {ns : List (List Nat × Int64)} (hn : ∀ w, w ∈ ns.map Prod.fst → nT w) (ht : tnm b n = false) : adY ns (tk b 0 n) = -1 := by
  unfold adY
  cases e : idx (tk b 0 n) 0 (ns.map Prod.fst) with
  | none => rfl
  | some i =>
    have hm : tk b 0 n ∈ ns.map Prod.fst := idx_iff.mp (by rw [e]; rfl)
    rw [nT_tnm.mpr (hn _ hm)] at ht
    cases ht
theorem Bx_address (hF : 65540 < F) (hC : CV sk L own τ fs gs ws n b a Y) (hR : RV σ fs gs ws n b a Y) (hm : RMk sk L (k + 210)) (hN : n + (fs.map Prod.fst).sum ≤ N) : BT RnJ (fun ci σ => ci = 14 ∧ gI σ 0 = nI 1) sk L τ k N (f_H_address F c 0 (cH sk L τ)) (g_H_address F c 0 (cH sk L τ)) (fun h => f_M_address F 1726 (mh 1726 h σ)) := by
  have o0 := G0 hC.1
  have ea : fI τ 147 18 = a := hC.2.2.2.2.2.2.2.2.2.2
  have h13 : gI σ 13 = a := hR.2.2.2.2.2.2.2.2.1
  have u : ∀ (h : px_H) (nms : List (List Nat)), 1726 ≤ h.length → RNm σ nms → ∃ v σ', f_M_address F 1726 (mh 1726 h σ) = some (v, mh 1726 h σ') ∧ gI σ' 0 = nI (if a = 0 then 0 else 1) ∧ RV σ' fs gs ws (if a = 0 then 0 else n) (if a = 0 then fun _ => 0 else b) a Y ∧ (a = 0 → v = adQ σ (idx (tk b 0 n) 0 nms)) := fun h nms hl hn => by
    obtain ⟨v1, v2, v3, v4, v5, v6, v7, v8⟩ := id hR
    obtain ⟨v, σ', e, g0, g1, f, g2⟩ := q_address (F := F) hl (by omega) v1 hn
    rw [h13] at g0 g1 g2
    exact ⟨v, σ', e, g0, ⟨g1, RF_FR v2 f (by decide) (by decide), RG_FR v3 f (by decide) (by decide) (by decide), RW_FR v4 f (by decide) (by decide), OUo_FR v5 f (by decide) (by decide), MV_FR v6 f (by decide) (by decide), MNa_FR v7 f (by decide) (by decide), RVc_FR v8 f (by decide) (by decide) (by decide)⟩, g2⟩
  by_cases c0 : a = 0
  · obtain ⟨_, r1, r2, _⟩ := (RV_X hR).2 c0
    obtain ⟨_, ⟨hns, hnt⟩, hna, _⟩ := (CV_X hC).2 c0
    obtain ⟨τ1, e1, h1, h2, h3⟩ := v_readTapeName (F := F) (c := c) hF hC
    obtain ⟨_, ⟨hns1, _⟩, hna1, _⟩ := (CV_X h1).2 c0
    have hlen : (Y.2.2.2.1.map Prod.fst).length ≤ 4128 := hns1.2.2.2.1
    have eC : f_H_address F c 0 (cH sk L τ) = some (adY Y.2.2.2.1 (tk b 0 n), cH sk L τ1) := by
      unfold f_H_address f_H_address_45 f_H_address_60
      rw [C0r11 o0 (GR_r (v := 147) hC.2.1 (by decide)), bs, C3g18 (G147 hC.1), bs, ea, if_pos c0, c_o o0, bs, e1, xb_mk]
      cases ht : tnm b n with
      | false =>
        rw [if_pos (show bI false = 0 from rfl), adY_n hnt ht]
      | true =>
        have hw := h2 ht
        have hok := tk_ok hC.2.2.2.2.2.2.1 ht
        rw [if_neg (show ¬ bI true = 0 by decide), C0r11 o0 (GR_r (v := 147) h1.2.1 (by decide)), bs, C3r3 (G147 hC.1) (GR_r (v := 148) h1.2.1 (by decide)), bs, C0r10 o0 (R0_10 h1.2.1), bs, c_o hns1.1, bs, k_find hns1 (G146 hC.1) hw hok (by omega), xb_mk]
        unfold adY
        cases e : idx (tk b 0 n) 0 (Y.2.2.2.1.map Prod.fst) with
        | none => rfl
        | some i =>
          have hi := (idx_lt e).2
          rw [List.length_map] at hi
          have hx : Y.2.2.2.1[i]? = some Y.2.2.2.1[i] := List.getElem?_eq_getElem (by omega)
          have hxw : (Y.2.2.2.1.map Prod.fst)[i]? = some Y.2.2.2.1[i].1 := by rw [List.getElem?_map, hx]; rfl
          obtain ⟨_, _, op, _⟩ := hns1.2.2.2.2.2.2 i _ hxw
          show ((xgJ (cH sk L τ1) 5 14 (pN τ1 149 i)).bind _) = _
          have eg : Y.2.2.2.1.getD i ([], 0) = Y.2.2.2.1[i] := by rw [List.getD_eq_getElem?_getD, hx]; rfl
          rw [C5g14 op, bs, hna1 i _ hx]
          show some (Y.2.2.2.1[i].2, cH sk L τ1) = some ((Y.2.2.2.1.getD i ([], 0)).2, cH sk L τ1)
          rw [eg]
    refine ⟨fs, gs, ws, 0, fun _ => 0, a, Y, by omega, Or.inl ⟨_, sk, L, τ1, own, eC, EX_refl, h3, RMk_le hm (by omega), h1, fun h hl => ?_⟩⟩
    obtain ⟨v, σ', e, g0, g1, g2⟩ := u h _ hl r1
    rw [if_pos c0] at g0
    rw [if_pos c0, if_pos c0] at g1
    exact ⟨v, σ', e, g1, by rw [g2 c0, adY_q r2], g0⟩
  · obtain ⟨nms, hn, _⟩ := (RV_X hR).1.2
    refine ⟨fs, gs, ws, n, b, a, Y, hN, Or.inr ⟨14, τ, own, ?_, K26_refl τ, RMk_le hm (by omega), hC, fun h hl => ?_⟩⟩
    · unfold g_H_address
      rw [C0r11 o0 (GR_r (v := 147) hC.2.1 (by decide)), bs, C3g18 (G147 hC.1), bs, if_neg (by rw [ea]; exact c0)]
    · obtain ⟨v, σ', e, g0, g1, g2⟩ := u h _ hl hn
      rw [if_neg c0] at g0
      rw [if_neg c0, if_neg c0] at g1
      exact ⟨v, σ', e, g1, rfl, g0⟩
end BAD
end
section
/-! the reference's map: what it answers (steps spelled out by sf/pp.py) -/
/-- OUT was written, no exception -/
def OWxe (σ0 σ : px_S) : Prop := ∃ c, c ≤ 65536 ∧ OWx σ0 σ c
/-- what a text of t bytes answers -/
def mpA (t : Nat) : Int32 := if t ≤ 65536 then nI t else Int32.ofInt (-1)
section MDX
variable {F m : Nat} {h : px_H} {σ0 σ : px_S} {c : Nat}
theorem qx_dg_21 {v : Int32} (hm : m ≤ h.length) : ∀ (k f p : Nat) (σ : px_S), k ≤ 5 → k < f → p + k ≤ 65536 → OWx σ0 σ c → Sm m h (fun σ' => OWx σ0 σ' c) Any (f_M_digits_21 F f m v (nI (10 ^ k / 10)) (nI p) (mh m h σ)) := by
  intro k
  induction k with
  | zero =>
    intro f p σ hk hf hp hI
    obtain ⟨f, rfl⟩ : ∃ y, f = y + 1 := ⟨f - 1, by omega⟩
    unfold f_M_digits_21 f_M_digits_53
    rw [if_pos (by decide)]
    exact sm_r any hI
  | succ k ih =>
    intro f p σ hk hf hp hI
    obtain ⟨f, rfl⟩ : ∃ y, f = y + 1 := ⟨f - 1, by omega⟩
    have e10 : 10 ^ (k + 1) / 10 = 10 ^ k := by rw [Nat.pow_succ, Nat.mul_div_cancel _ (by decide)]
    have hb : 10 ^ k ≤ 10 ^ 4 := Nat.pow_le_pow_right (by decide) (by omega)
    have h1 : 1 ≤ 10 ^ k := Nat.pos_of_ne_zero (by simp)
    rw [e10]
    have hn : ¬ nI (10 ^ k) ≤ 0 := fun w => absurd w (nI_ge (a := 0) (b := 10 ^ k) (by omega) (by omega))
    have hx : xnzI (nI (10 ^ k)) = some () := by
      unfold xnzI
      rw [if_neg (fun w => hn (by rw [w]; decide))]
    unfold f_M_digits_21
    rw [if_neg hn, Mr3 hm, bs, hx, bs, nI_divG (by omega) (by decide), nI_add]
    exact qx_w3 hm hI (by omega) (fun σ hi => ih f (p + 1) σ (by omega) (by omega) (by omega) hi)
theorem qx_dg_2 {v p : Nat} (hm : m ≤ h.length) (hF : 65540 < F) (hv : v ≤ 99999) (hp : p + wdN v ≤ 65536) (hI : OWx σ0 σ c) : ∀ (d k f : Nat), k + d = 4 → d < f → 10 ^ k ≤ v ∨ k = 0 → Sm m h (fun σ' => OWx σ0 σ' c) Any (f_M_digits_2 F f m (nI p) (nI v) (nI (10 ^ k)) (mh m h σ)) := by
  have stop : ∀ k, k ≤ 4 → (10 ^ k ≤ v ∨ k = 0) → v < 10 ^ (k + 1) → Sm m h (fun σ' => OWx σ0 σ' c) Any (f_M_digits_18 F m (nI p) (nI v) (nI (10 ^ k)) (mh m h σ)) := fun k hk h1 h2 => by
    have e10 : 10 ^ k = 10 ^ (k + 1) / 10 := by rw [Nat.pow_succ, Nat.mul_div_cancel _ (by decide)]
    have hw : wdN v = k + 1 := by
      have : k = 0 ∨ k = 1 ∨ k = 2 ∨ k = 3 ∨ k = 4 := by omega
      unfold wdN
      rcases this with rfl | rfl | rfl | rfl | rfl
      · rw [if_pos (by omega)]
      · rw [if_neg (by omega), if_pos (by omega)]
      · rw [if_neg (by omega), if_neg (by omega), if_pos (by omega)]
      · rw [if_neg (by omega), if_neg (by omega), if_neg (by omega), if_pos (by omega)]
      · rw [if_neg (by omega), if_neg (by omega), if_neg (by omega), if_neg (by omega)]
    unfold f_M_digits_18
    rw [e10]
    exact qx_dg_21 hm (k + 1) F p σ (by omega) (by omega) (by omega) hI
  have nz : ∀ k, k ≤ 4 → xnzI (nI (10 ^ k)) = some () := fun k hk => by
    have : k = 0 ∨ k = 1 ∨ k = 2 ∨ k = 3 ∨ k = 4 := by omega
    rcases this with rfl | rfl | rfl | rfl | rfl <;> decide
  have bd : ∀ k, k ≤ 4 → 1 ≤ 10 ^ k ∧ 10 ^ k ≤ 10000 := fun k hk => ⟨Nat.pos_of_ne_zero (by simp), (Nat.pow_le_pow_right (by decide) hk : 10 ^ k ≤ 10 ^ 4)⟩
  have dv : ∀ k, k ≤ 4 → (v / 10 ^ k ≤ 9 ↔ v < 10 ^ (k + 1)) := fun k hk => by
    rw [Nat.pow_succ, Nat.mul_comm, ← Nat.div_lt_iff_lt_mul (bd k hk).1]; omega
  intro d
  induction d with
  | zero =>
    intro k f hk hf h1
    obtain ⟨f, rfl⟩ : ∃ y, f = y + 1 := ⟨f - 1, by omega⟩
    obtain rfl : k = 4 := by omega
    unfold f_M_digits_2
    rw [nz 4 (by decide), bs, nI_divG (by omega) (by decide), if_pos (nI_le ((dv 4 (by decide)).mpr (by omega)) (by decide))]
    exact stop 4 (by decide) h1 (by omega)
  | succ d ih =>
    intro k f hk hf h1
    obtain ⟨f, rfl⟩ : ∃ y, f = y + 1 := ⟨f - 1, by omega⟩
    have hb := bd k (by omega)
    unfold f_M_digits_2
    rw [nz k (by omega), bs, nI_divG (by omega) (by omega)]
    by_cases c9 : v / 10 ^ k ≤ 9
    · rw [if_pos (nI_le c9 (by decide))]
      exact stop k (by omega) h1 ((dv k (by omega)).mp c9)
    · have hd : v / 10 ^ k ≤ v := Nat.div_le_self _ _
      rw [if_neg (nI_ge (by omega) (by omega)), show nI 10 * nI (10 ^ k) = nI (10 * 10 ^ k) from (Int32.ofNat_mul 10 (10 ^ k)).symm, Nat.mul_comm 10 (10 ^ k), ← Nat.pow_succ]
      exact ih (k + 1) f (by omega) (by omega) (Or.inl (Nat.le_of_not_lt (fun w => c9 ((dv k (by omega)).mpr w))))
theorem qx_sayN {v : Nat} {w : Int32} (hm : m ≤ h.length) (hF : 65540 < F) (hv : v ≤ 99999) (hc : c + wdN v + 1 ≤ 65536) (hI : OWx σ0 σ c) : Sm m h (fun σ' => OWx σ0 σ' (c + wdN v + 1)) Any (f_M_sayNumber F m (nI v) w (mh m h σ)) := by
  unfold f_M_sayNumber f_M_digits
  rw [Mg4 hm, bs, hI.1.2.1]
  refine sm_o hm (fun _ => sm_x (qx_dg_2 hm hF hv (by omega) hI 4 0 F rfl (by omega) (Or.inr rfl)) (fun _ σ _ hi => ?_))
  rw [Mg4 hm, bs, hi.1.2.1, q_wide (by omega), xb_mk, nI_add]
  refine qx_p4 hm hi (fun σ hi => ?_)
  rw [Mr3 hm, bs, Mg4 hm, bs, hi.1.2.1]
  refine qx_w3 hm hi (by omega) (fun σ hi => ?_)
  rw [Mg4 hm, bs, hi.1.2.1, nI_add]
  exact qx_p4 hm hi (fun σ hi => sm_r any hi)
end MDX
section MMX
variable {F m : Nat} {h : px_H} {σ0 σ : px_S} {c nS nD : Nat} {zf uf gf ff mf lf df : Nat → Nat}
theorem qx_mp_291 {V : Int32 → Prop} {k234 : Nat → Int32 → px_H → Option (Int32 × px_H)} {i d l c0 : Nat} (hm : m ≤ h.length) (hd : d < 4096) (hl : l ≤ 20) (e22 : gA σ0 22 d = nI l) (hc : c0 + l + 1 ≤ 65536) (hK : ∀ σ, OWx σ0 σ (c0 + l + 1) → Sm m h (OWxe σ0) V (k234 m (nI (i + 1)) (mh m h σ))) : ∀ (e j f : Nat) (σ : px_S), j + e = l → e < f → OWx σ0 σ (c0 + j) → Sm m h (OWxe σ0) V (f_M_map_291 F k234 f m (nI i) (nI d) (nI j) (mh m h σ)) := by
  intro e
  induction e with
  | zero =>
    intro j f σ hj hf hI
    obtain ⟨f, rfl⟩ : ∃ y, f = y + 1 := ⟨f - 1, by omega⟩
    obtain rfl : j = l := by omega
    have g22 : gA σ 22 = gA σ0 22 := hI.1.1.2.2.1 22 (by decide)
    unfold f_M_map_291 f_M_map_339
    rw [Mr22 hm, bs, Ma22 hm hd, bs, g22, e22, if_pos (nI_le (by omega) (by omega)), Mr3 hm, bs, Mg4 hm, bs, hI.1.2.1, nI_add]
    refine qx_w3 hm hI (by omega) (fun σ hi => ?_)
    rw [Mg4 hm, bs, hi.1.2.1, nI_add]
    exact qx_p4 hm hi (fun σ hi => hK σ hi)
  | succ e ih =>
    intro j f σ hj hf hI
    obtain ⟨f, rfl⟩ : ∃ y, f = y + 1 := ⟨f - 1, by omega⟩
    have g22 : gA σ 22 = gA σ0 22 := hI.1.1.2.2.1 22 (by decide)
    unfold f_M_map_291
    rw [Mr22 hm, bs, Ma22 hm hd, bs, g22, e22, if_neg (nI_ge (by omega) (by omega)), Mr3 hm, bs, Mg4 hm, bs, hI.1.2.1, Mr21 hm, bs, show nI 20 * nI d = nI (20 * d) from (Int32.ofNat_mul 20 d).symm, nI_add, Ma21 hm (by omega), bs, nI_add]
    refine qx_w3 hm hI (by omega) (fun σ hi => ?_)
    rw [Mg4 hm, bs, hi.1.2.1, nI_add, Nat.add_assoc]
    exact qx_p4 hm hi (fun σ hi => ih (j + 1) f σ (by omega) (by omega) hi)
theorem qx_mp_234 {T : Nat} (hm : m ≤ h.length) (hF : 65540 < F) (hM : MPs σ0 nS nD zf uf gf ff mf lf df) (hT : T + sumT (fun i => 18 + lf i) nD ≤ 65536) : ∀ (d j f : Nat) (σ : px_S), j + d = nD → d < f → OWx σ0 σ (T + sumT (fun i => 18 + lf i) j) → Sm m h (OWxe σ0) (fun v => v = nI (T + sumT (fun i => 18 + lf i) nD)) (f_M_map_234 F f m (nI j) (mh m h σ)) := by
  have hN := hM.2.1
  intro d
  induction d with
  | zero =>
    intro j f σ hj hf hI
    obtain ⟨f, rfl⟩ : ∃ y, f = y + 1 := ⟨f - 1, by omega⟩
    obtain rfl : j = nD := by omega
    unfold f_M_map_234 f_M_map_366
    rw [Mg48 hm, bs, (MPs_O hM hI.1).2.2.1, if_pos (nI_le (by omega) (by omega)), Mg4 hm, bs, hI.1.2.1]
    exact sm_r rfl ⟨_, hT, hI⟩
  | succ d ih =>
    intro j f σ hj hf hI
    obtain ⟨f, rfl⟩ : ∃ y, f = y + 1 := ⟨f - 1, by omega⟩
    obtain ⟨e49, hd, e22, hl⟩ := hM.2.2.2 j (by omega)
    have g49 : gA σ 49 = gA σ0 49 := hI.1.1.2.2.1 49 (by decide)
    have hle := sumT_le (f := fun i => 18 + lf i) (show j + 1 ≤ nD by omega)
    have es : sumT (fun i => 18 + lf i) (j + 1) = sumT (fun i => 18 + lf i) j + (18 + lf j) := rfl
    unfold f_M_map_234
    rw [Mg48 hm, bs, (MPs_O hM hI.1).2.2.1, if_neg (nI_ge (by omega) (by omega)), Mr49 hm, bs, Ma49 hm (by omega), bs, g49, e49, Mg4 hm, bs, hI.1.2.1, Mr29 hm, bs, Ma29 hm hd, bs]
    generalize sumT (fun i => 18 + lf i) j = S at *
    refine sm_o hm (fun _ => sm_x (qx_16_3 (F := F) (p := T + S) hm (by omega) 16 0 F σ rfl (by omega) hI) (fun _ σ _ hi => ?_))
    rw [Mr3 hm, bs, Mg4 hm, bs, hi.1.2.1, nI_add]
    refine qx_w3 hm hi (by omega) (fun σ hi => ?_)
    rw [Mg4 hm, bs, hi.1.2.1, nI_add]
    refine qx_p4 hm hi (fun σ hi => ?_)
    exact qx_mp_291 (c0 := T + S + 17) (l := lf j) hm hd hl e22 (by omega) (fun σ hi => ih (j + 1) f σ (by omega) (by omega) (by rw [es]; rw [show T + (S + (18 + lf j)) = T + S + 17 + lf j + 1 by omega]; exact hi)) (lf j) 0 F σ (Nat.zero_add _) (by omega) hi
theorem qx_mp_119 (hm : m ≤ h.length) (hF : 65540 < F) (hM : MPs σ0 nS nD zf uf gf ff mf lf df) (hT : sumT (fun p => 25 + wdN (zf p) + wdN (uf p)) nS + sumT (fun i => 18 + lf i) nD ≤ 65536) : ∀ (d j f : Nat) (σ : px_S), j + d = nS → d < f → OWx σ0 σ (sumT (fun p => 25 + wdN (zf p) + wdN (uf p)) j) → Sm m h (OWxe σ0) (fun v => v = nI (sumT (fun p => 25 + wdN (zf p) + wdN (uf p)) nS + sumT (fun i => 18 + lf i) nD)) (f_M_map_119 F f m (nI j) (mh m h σ)) := by
  have hN := hM.1.1
  have hN2 := hM.2.1
  intro d
  induction d with
  | zero =>
    intro j f σ hj hf hI
    obtain ⟨f, rfl⟩ : ∃ y, f = y + 1 := ⟨f - 1, by omega⟩
    obtain rfl : j = nS := by omega
    unfold f_M_map_119 f_M_map_232
    rw [Mg50 hm, bs, (MPs_O hM hI.1).1.2.1, if_pos (nI_le (by omega) (by omega))]
    exact qx_mp_234 hm hF hM hT nD 0 F σ (Nat.zero_add _) (by omega) hI
  | succ d ih =>
    intro j f σ hj hf hI
    obtain ⟨f, rfl⟩ : ∃ y, f = y + 1 := ⟨f - 1, by omega⟩
    have hj1 : j < 1536 := by omega
    have hle := sumT_le (f := fun p => 25 + wdN (zf p) + wdN (uf p)) (show j + 1 ≤ nS by omega)
    have es : sumT (fun p => 25 + wdN (zf p) + wdN (uf p)) (j + 1) = sumT (fun p => 25 + wdN (zf p) + wdN (uf p)) j + (25 + wdN (zf j) + wdN (uf j)) := rfl
    unfold f_M_map_119
    rw [Mg50 hm, bs, (MPs_O hM hI.1).1.2.1, if_neg (nI_ge (by omega) (by omega)), Mg4 hm, bs, hI.1.2.1, Mr57 hm, bs, Ma57 hm hj1, bs, nI_add]
    generalize sumT (fun p => 25 + wdN (zf p) + wdN (uf p)) j = S at *
    generalize sumT (fun p => 25 + wdN (zf p) + wdN (uf p)) nS = SS at *
    have wz := wdN_b (zf j)
    have wu := wdN_b (uf j)
    refine sm_o hm (fun _ => sm_x (qx_16_3 (F := F) (p := S) hm (by omega) 16 0 F σ rfl (by omega) hI) (fun _ σ _ hi => ?_))
    rw [Mr3 hm, bs, Mg4 hm, bs, hi.1.2.1, nI_add]
    refine qx_w3 hm hi (by omega) (fun σ hi => ?_)
    rw [Mg4 hm, bs, hi.1.2.1, nI_add]
    refine qx_p4 hm hi (fun σ hi => ?_)
    obtain ⟨z1, z2, _⟩ := (MPs_O hM hi.1).1.2.2 j (by omega)
    rw [Mr56 hm, bs, Ma56 hm hj1, bs, z1]
    refine sm_o hm (fun _ => sm_x (qx_sayN hm hF z2 (by omega) hi) (fun _ σ _ hi => ?_))
    obtain ⟨_, _, _, _, g1, g2, _⟩ := (MPs_O hM hi.1).1.2.2 j (by omega)
    rw [Mr55 hm, bs, Ma55 hm hj1, bs, g1]
    refine sm_o hm (fun _ => sm_x (qx_sayN hm hF (by omega) (by rw [wdN_1 g2]; omega) hi) (fun _ σ _ hi => ?_))
    obtain ⟨_, _, _, _, _, _, f1, f2, _⟩ := (MPs_O hM hi.1).1.2.2 j (by omega)
    rw [wdN_1 g2] at hi
    rw [Mr52 hm, bs, Ma52 hm hj1, bs, f1]
    refine sm_o hm (fun _ => sm_x (qx_sayN hm hF (by omega) (by rw [wdN_1 f2]; omega) hi) (fun _ σ _ hi => ?_))
    obtain ⟨_, _, _, _, _, _, _, _, m1, m2⟩ := (MPs_O hM hi.1).1.2.2 j (by omega)
    rw [wdN_1 f2] at hi
    rw [Mr53 hm, bs, Ma53 hm hj1, bs, m1]
    refine sm_o hm (fun _ => sm_x (qx_sayN hm hF (by omega) (by rw [wdN_1 m2]; omega) hi) (fun _ σ _ hi => ?_))
    obtain ⟨_, _, u1, u2, _⟩ := (MPs_O hM hi.1).1.2.2 j (by omega)
    rw [wdN_1 m2] at hi
    rw [Mr54 hm, bs, Ma54 hm hj1, bs, u1]
    refine sm_o hm (fun _ => sm_x (qx_sayN hm hF u2 (by omega) hi) (fun _ σ _ hi => ?_))
    refine ih (j + 1) f σ (by omega) (by omega) ?_
    rw [es, show S + (25 + wdN (zf j) + wdN (uf j)) = S + 17 + wdN (zf j) + 1 + 1 + 1 + 1 + 1 + 1 + 1 + wdN (uf j) + 1 by omega]
    exact hi
theorem qx_mp_73 {T : Nat} (hm : m ≤ h.length) (hF : 65540 < F) (ho : OUo σ0) (hM : MPs σ0 nS nD zf uf gf ff mf lf df) (eT : T = sumT (fun p => 25 + wdN (zf p) + wdN (uf p)) nS) (hTb : T ≤ 53760) (hf0 : FR [0] [] [] [] σ0 σ) (h00 : gI σ 0 = nI 0) : ∀ (d j f : Nat), j + d = nD → d < f → Sm m h (OWxe σ0) (fun v => v = mpA (T + sumT (fun i => 18 + lf i) nD)) (f_M_map_73 F f m (nI (T + sumT (fun i => 18 + lf i) j)) (nI j) (mh m h σ)) := by
  have hN := hM.1.1
  have hN2 := hM.2.1
  obtain ⟨co, hco, hO⟩ := OWe_0 ho hf0
  have hMs := MPs_O hM hO
  intro d
  induction d with
  | zero =>
    intro j f hj hf
    obtain ⟨f, rfl⟩ : ∃ y, f = y + 1 := ⟨f - 1, by omega⟩
    obtain rfl : j = nD := by omega
    unfold f_M_map_73 f_M_map_104
    rw [Mg48 hm, bs, hMs.2.2.1, if_pos (nI_le (by omega) (by omega))]
    have hB := sumT_b' (f := fun i => 18 + lf i) (k := 38) (n := j) (fun i hi => by have := (hM.2.2.2 i hi).2.2.2; show 18 + lf i ≤ 38; omega)
    by_cases hle : T + sumT (fun i => 18 + lf i) j ≤ 65536
    · rw [if_pos (show nI (T + sumT (fun i => 18 + lf i) j) ≤ (65536 : Int32) from nI_le hle (by decide)), Mp4 hm, bs]
      have w := qx_mp_119 hm hF hM (by rw [← eT]; exact hle) nS 0 F _ (Nat.zero_add _) (by omega) (OWx_p ⟨hO, h00⟩)
      rw [← eT] at w
      have eA : mpA (T + sumT (fun i => 18 + lf i) j) = nI (T + sumT (fun i => 18 + lf i) j) := if_pos hle
      rw [eA]
      exact w
    · rw [if_neg (show ¬ nI (T + sumT (fun i => 18 + lf i) j) ≤ (65536 : Int32) from nI_ge (a := 65536) (by omega) (by omega))]
      exact sm_r (if_neg hle).symm ⟨co, hco, hO, h00⟩
  | succ d ih =>
    intro j f hj hf
    obtain ⟨f, rfl⟩ : ∃ y, f = y + 1 := ⟨f - 1, by omega⟩
    obtain ⟨e49, hd, e22, hl⟩ := hMs.2.2.2 j (by omega)
    have es : sumT (fun i => 18 + lf i) (j + 1) = sumT (fun i => 18 + lf i) j + (18 + lf j) := rfl
    have go := ih (j + 1) f (by omega) (by omega)
    unfold f_M_map_73
    rw [Mg48 hm, bs, hMs.2.2.1, if_neg (nI_ge (by omega) (by omega)), Mr22 hm, bs, Mr49 hm, bs, Ma49 hm (by omega), bs, e49, Ma22 hm hd, bs, e22, nI_add, nI_add, nI_add, Nat.add_assoc, ← es]
    exact go
theorem qx_mp_26 (hm : m ≤ h.length) (hF : 65540 < F) (ho : OUo σ0) (hM : MPs σ0 nS nD zf uf gf ff mf lf df) (hf0 : FR [0] [] [] [] σ0 σ) (h00 : gI σ 0 = nI 0) : ∀ (d j f : Nat), j + d = nS → d < f → Sm m h (OWxe σ0) (fun v => v = mpA (sumT (fun p => 25 + wdN (zf p) + wdN (uf p)) nS + sumT (fun i => 18 + lf i) nD)) (f_M_map_26 F f m (nI (sumT (fun p => 25 + wdN (zf p) + wdN (uf p)) j)) (nI j) (mh m h σ)) := by
  have hN := hM.1.1
  have hN2 := hM.2.1
  obtain ⟨co, hco, hO⟩ := OWe_0 ho hf0
  have hMs := MPs_O hM hO
  intro d
  induction d with
  | zero =>
    intro j f hj hf
    obtain ⟨f, rfl⟩ : ∃ y, f = y + 1 := ⟨f - 1, by omega⟩
    obtain rfl : j = nS := by omega
    have hB := sumT_b' (f := fun p => 25 + wdN (zf p) + wdN (uf p)) (k := 35) (n := j) (fun i hi => by have w1 := (wdN_b (zf i)).2; have w2 := (wdN_b (uf i)).2; show 25 + wdN (zf i) + wdN (uf i) ≤ 35; omega)
    unfold f_M_map_26 f_M_map_71
    rw [Mg50 hm, bs, hMs.1.2.1, if_pos (nI_le (by omega) (by omega))]
    exact qx_mp_73 hm hF ho hM rfl (by omega) hf0 h00 nD 0 F (Nat.zero_add _) (by omega)
  | succ d ih =>
    intro j f hj hf
    obtain ⟨f, rfl⟩ : ∃ y, f = y + 1 := ⟨f - 1, by omega⟩
    obtain ⟨z1, z2, u1, u2, _⟩ := hMs.1.2.2 j (by omega)
    have es : sumT (fun p => 25 + wdN (zf p) + wdN (uf p)) (j + 1) = sumT (fun p => 25 + wdN (zf p) + wdN (uf p)) j + (25 + wdN (zf j) + wdN (uf j)) := rfl
    have go := ih (j + 1) f (by omega) (by omega)
    rw [es, show 25 + wdN (zf j) + wdN (uf j) = 22 + wdN (zf j) + wdN (uf j) + 1 + 1 + 1 by omega] at go
    unfold f_M_map_26
    rw [Mg50 hm, bs, hMs.1.2.1, if_neg (nI_ge (by omega) (by omega)), Mr56 hm, bs, Ma56 hm (by omega), bs, z1, q_wide (by omega), xb_mk, Mr54 hm, bs, Ma54 hm (by omega), bs, u1, q_wide (by omega), xb_mk, nI_add, nI_add, nI_add, nI_add, nI_add, nI_add, nI_add]
    exact go
theorem q_map (hm : m ≤ h.length) (hF : 65540 < F) (ho : OUo σ) : (¬ gI σ 13 = 0 → f_M_map F m (mh m h σ) = some (nI 0, mh m h (sI σ 0 (nI 1)))) ∧ (gI σ 13 = 0 → MPs σ nS nD zf uf gf ff mf lf df → Sm m h (OWxe σ) (fun v => v = mpA (sumT (fun p => 25 + wdN (zf p) + wdN (uf p)) nS + sumT (fun i => 18 + lf i) nD)) (f_M_map F m (mh m h σ))) := by
  have th1 : f_M_throwing F m (nI 1) (nI 0) (mh m h σ) = some (nI 1, mh m h (sI σ 0 (nI 1))) := q_throwing hm true false
  have th0 : f_M_throwing F m (nI 0) (nI 0) (mh m h σ) = some (nI 0, mh m h (sI σ 0 (nI 0))) := q_throwing hm false false
  refine ⟨fun h13 => ?_, fun h13 hM => ?_⟩
  · unfold f_M_map f_M_map_13
    rw [Mg13 hm, bs, if_neg h13, e_o hm, bs, th1, xb_mk, if_neg (by decide)]
  · unfold f_M_map f_M_map_13
    rw [Mg13 hm, bs, if_pos h13, e_o hm, bs, th0, xb_mk, if_pos (show (nI 0 : Int32) = 0 from rfl)]
    have hN := hM.1.1
    exact qx_mp_26 hm hF ho hM (FR_I _ _ _) (by rw [gI_sI, if_pos rfl]) nS 0 F (Nat.zero_add _) (by omega)
end MMX
end
section
/-! map: class and reference answer alike (steps spelled out by sf/pp.py) -/
/-- of section p: its size, its number -/
def mpZ (Y : px_Y) (p : Nat) : Nat := (Y.2.2.1.getD p (0, 0, 0, 0, 0, 0)).2.2.2.2.1
def mpU (Y : px_Y) (p : Nat) : Nat := (Y.2.2.1.getD p (0, 0, 0, 0, 0, 0)).2.2.1
/-- of definition i: how long its name is -/
def mpL (Y : px_Y) (i : Nat) : Nat := (Y.2.2.2.1.getD (Y.2.2.2.2.getD i 0) ([], 0)).1.length
def mpS (Y : px_Y) : Nat := sumT (fun p => 25 + wdN (mpZ Y p) + wdN (mpU Y p)) Y.2.2.1.length
def mpT (Y : px_Y) : Nat := mpS Y + sumT (fun i => 18 + mpL Y i) Y.2.2.2.2.length
section CMPZ
variable {F : Nat} {c : px_CT} {sk : Nat → Nat × Nat × Nat} {L : Nat} {own : Nat → Nat × Nat} {τ0 τ : px_TT} {fs : List (Nat × (Nat → Nat))} {gs : List (List Nat × Int64)} {ws : List (List Nat)} {n : Nat} {b : Nat → Nat} {a : Int32} {Y : px_Y} {r A : Nat}
theorem mpZ_at {i : Nat} {p : Nat × Nat × Nat × Nat × Nat × Nat} (hp : Y.2.2.1[i]? = some p) : mpZ Y i = p.2.2.2.2.1 ∧ mpU Y i = p.2.2.1 := by
  unfold mpZ mpU
  rw [List.getD_eq_getElem?_getD, hp]
  exact ⟨rfl, rfl⟩
/-- the part at place i, while rows are written -/
theorem z_parts {i : Nat} {p : Nat × Nat × Nat × Nat × Nat × Nat} (hC : CV sk L own τ0 fs gs ws n b a Y) (ha : a = 0) (hp : Y.2.2.1[i]? = some p) : ∃ x, x < 1536 ∧ ∀ τ, SI none sk L τ0 τ → f_Layout_partAt F c 1700 (nI i) (cH sk L τ) = some (some (152 + x), cH sk L τ) ∧ fI τ (152 + x) 1 = nI p.1 ∧ fI τ (152 + x) 2 = nI p.2.1 ∧ fI τ (152 + x) 3 = nI p.2.2.1 ∧ fI τ (152 + x) 4 = nI p.2.2.2.1 ∧ fI τ (152 + x) 5 = nI p.2.2.2.2.1 := by
  obtain ⟨x, x1, x2, _⟩ := z_part (F := F) (c := c) hC ha hp
  refine ⟨x, x1, fun τ hI => ?_⟩
  obtain ⟨y, y1, y2, y3, y4, y5, y6, y7, y8, _⟩ := z_part (F := F) (c := c) (CV_SI hC hI) ha hp
  rw [hI.1.2.2.2.2.2 1701 (by decide)] at y2
  have e : 152 + x = 152 + y := Option.some.inj (x2.symm.trans y2)
  rw [e]
  exact ⟨y3, y4, y5, y6, y7, y8⟩
theorem z_mp6 {J : px_TT → Prop} {V : Int32 → Prop} (hF : 65540 < F) (hC : CV sk L own τ0 fs gs ws n b a Y) (ha : a = 0) (hr : TRw r A 65536) (hT : ∀ τ, SZ none sk L τ0 r 65536 (mpS Y) τ → Sf sk L J V (f_Scribe_writeMap_128 F c 1713 r (cH sk L τ))) : ∀ (d i f : Nat) (τ : px_TT), i + d = Y.2.2.1.length → d < f → SZ none sk L τ0 r 65536 (sumT (fun p => 25 + wdN (mpZ Y p) + wdN (mpU Y p)) i) τ → Sf sk L J V (f_Scribe_writeMap_6 F c f 1713 r (nI i) (cH sk L τ)) := by
  have h0 := (CV_S4 hC).1.1.1
  have o13 := G1713 hC.1
  have o17 : ob sk L 2 1700 := GS_o hC.1 (by decide) (by decide)
  obtain ⟨⟨_, hlen, hps⟩, _⟩ := (CV_X hC).2 ha
  intro d
  induction d with
  | zero =>
    intro i f τ hi hf hI
    obtain ⟨f, rfl⟩ : ∃ y, f = y + 1 := ⟨f - 1, by omega⟩
    have ei : i = Y.2.2.1.length := by omega
    have hR := GR_Z h0.2.1 hI.1.1
    have e11 := ((CV_X (CV_SI hC hI.1)).2 ha).1.1
    unfold f_Scribe_writeMap_6
    rw [C11r1 o13 (GR_r (v := 1700) hR (by decide)), bs, C2g11 o17, bs, e11, if_pos (nI_le (by omega) (by omega))]
    refine hT τ ?_
    rw [ei] at hI
    exact hI
  | succ d ih =>
    intro i f τ hi hf hI
    obtain ⟨f, rfl⟩ : ∃ y, f = y + 1 := ⟨f - 1, by omega⟩
    have hp : Y.2.2.1[i]? = some Y.2.2.1[i] := List.getElem?_eq_getElem (by omega)
    have hbd := (hps i _ hp).1
    obtain ⟨em1, em2⟩ := mpZ_at hp
    obtain ⟨x, x1, hx⟩ := z_parts (F := F) (c := c) hC ha hp
    have oP := G_part hC.1 x1
    have hR := GR_Z h0.2.1 hI.1.1
    have e11 := ((CV_X (CV_SI hC hI.1)).2 ha).1.1
    have orr := (SI_row hI.1 hr).1
    have es : sumT (fun p => 25 + wdN (mpZ Y p) + wdN (mpU Y p)) (i + 1) = sumT (fun p => 25 + wdN (mpZ Y p) + wdN (mpU Y p)) i + (25 + wdN (mpZ Y i) + wdN (mpU Y i)) := rfl
    have go := fun τ hI => ih (i + 1) f τ (by omega) (by omega) hI
    rw [es, em1, em2] at go
    generalize sumT (fun p => 25 + wdN (mpZ Y p) + wdN (mpU Y p)) i = S at *
    generalize Y.2.2.1[i] = p at *
    unfold f_Scribe_writeMap_6
    rw [C11r1 o13 (GR_r (v := 1700) hR (by decide)), bs, C2g11 o17, bs, e11, if_neg (nI_ge (by omega) (by omega)), bs, c_o o17, bs, (hx τ hI.1).1, xb_mk, bs, C8g11 oP, bs, c_o orr, bs]
    refine sz_x (sz_hex hF hr hI) (fun _ τ1 _ i1 => ?_)
    rw [c_o orr, bs]
    refine sz_x (sz_put hF hr (by decide) i1) (fun _ τ2 _ i2 => ?_)
    rw [C8g5 oP, bs, (hx τ2 i2.1).2.2.2.2.2, c_o orr, bs]
    refine sz_x (sz_dec hF hr (by omega) i2) (fun _ τ3 _ i3 => ?_)
    rw [c_o orr, bs]
    refine sz_x (sz_put hF hr (by decide) i3) (fun _ τ4 _ i4 => ?_)
    rw [C8g4 oP, bs, (hx τ4 i4.1).2.2.2.2.1, c_o orr, bs]
    refine sz_x (sz_dec hF hr (by omega) i4) (fun _ τ5 _ i5 => ?_)
    rw [c_o orr, bs]
    refine sz_x (sz_put hF hr (by decide) i5) (fun _ τ6 _ i6 => ?_)
    rw [C8g1 oP, bs, (hx τ6 i6.1).2.1, c_o orr, bs]
    refine sz_x (sz_dec hF hr (by omega) i6) (fun _ τ7 _ i7 => ?_)
    rw [c_o orr, bs]
    refine sz_x (sz_put hF hr (by decide) i7) (fun _ τ8 _ i8 => ?_)
    rw [C8g2 oP, bs, (hx τ8 i8.1).2.2.1, c_o orr, bs]
    refine sz_x (sz_dec hF hr (by omega) i8) (fun _ τ9 _ i9 => ?_)
    rw [c_o orr, bs]
    refine sz_x (sz_put hF hr (by decide) i9) (fun _ τa _ ia => ?_)
    rw [C8g3 oP, bs, (hx τa ia.1).2.2.2.1, c_o orr, bs]
    refine sz_x (sz_dec hF hr (by omega) ia) (fun _ τb _ ib => ?_)
    rw [c_o orr, bs]
    refine sz_x (sz_put hF hr (by decide) ib) (fun _ τc _ ic => ?_)
    rw [wdN_1 hbd.1, wdN_1 hbd.2.1, wdN_1 hbd.2.2.2.1] at ic
    rw [nI_add]
    refine go τc ?_
    rw [show S + (25 + wdN p.2.2.2.2.1 + wdN p.2.2.1) = S + 16 + 1 + wdN p.2.2.2.2.1 + 1 + 1 + 1 + 1 + 1 + 1 + 1 + wdN p.2.2.1 + 1 by omega]
    exact ic
theorem z_mp130 (hF : 65540 < F) (hC : CV sk L own τ0 fs gs ws n b a Y) (ha : a = 0) (hr : TRw r A 65536) (hod : Y.2.2.2.2.length ≤ 4096) : ∀ (d i f : Nat) (τ : px_TT), i + d = Y.2.2.2.2.length → d < f → SZ none sk L τ0 r 65536 (mpS Y + sumT (fun i => 18 + mpL Y i) i) τ → Sf sk L (SZ none sk L τ0 r 65536 (mpT Y)) (fun v => v = bI (decide (mpT Y ≤ 65536))) (f_Scribe_writeMap_130 F c f 1713 r (nI i) (cH sk L τ)) := by
  have h0 := (CV_S4 hC).1.1.1
  have o13 := G1713 hC.1
  have o47 := G147 hC.1
  intro d
  induction d with
  | zero =>
    intro i f τ hi hf hI
    obtain ⟨f, rfl⟩ : ∃ y, f = y + 1 := ⟨f - 1, by omega⟩
    have ei : i = Y.2.2.2.2.length := by omega
    have hR := GR_Z h0.2.1 hI.1.1
    obtain ⟨_, _, e15, _⟩ := ((CV_X (CV_SI hC hI.1)).2 ha).2
    have orr := (SI_row hI.1 hr).1
    rw [ei] at hI
    have hI : SZ none sk L τ0 r 65536 (mpT Y) τ := hI
    unfold f_Scribe_writeMap_130 f_Scribe_writeMap_185 f_Scribe_writeMap_197
    rw [C11r0 o13 (GR_r (v := 147) hR (by decide)), bs, C3g15 o47, bs, e15, if_pos (nI_le (by omega) (by omega)), C10g2 orr, bs]
    by_cases cT : mpT Y ≤ 65536
    · rw [(hI.2.1.1 cT).2, if_pos (show bI false = 0 from rfl), decide_eq_true cT]
      exact ⟨_, τ, xz_b true _, rfl, hI⟩
    · rw [hI.2.1.2 (by omega), if_neg (show ¬ bI true = 0 by decide), decide_eq_false cT]
      exact ⟨_, τ, xz_b false _, rfl, hI⟩
  | succ d ih =>
    intro i f τ hi hf hI
    obtain ⟨f, rfl⟩ : ∃ y, f = y + 1 := ⟨f - 1, by omega⟩
    have hR := GR_Z h0.2.1 hI.1.1
    have hCt := CV_SI hC hI.1
    obtain ⟨⟨hns, hnt⟩, hna, e15, hod2⟩ := ((CV_X hCt).2 ha).2
    obtain ⟨dd, hd⟩ : ∃ dd, Y.2.2.2.2[i]? = some dd := ⟨_, List.getElem?_eq_getElem (by omega)⟩
    obtain ⟨d1, d2⟩ := hod2 i dd hd
    have hx : Y.2.2.2.1[dd]? = some Y.2.2.2.1[dd] := List.getElem?_eq_getElem d1
    have hxw : (Y.2.2.2.1.map Prod.fst)[dd]? = some Y.2.2.2.1[dd].1 := by rw [List.getElem?_map, hx]; rfl
    obtain ⟨_, n2, op, nm⟩ := hns.2.2.2.2.2.2 dd _ hxw
    have hge := (hCt.2.2.1 149 dd _ (Or.inr (Or.inr rfl)) n2).1
    have hw20 := (hnt _ (List.mem_of_getElem? hxw)).2.1
    have eL : mpL Y i = Y.2.2.2.1[dd].1.length := by
      unfold mpL
      rw [List.getD_eq_getElem?_getD, List.getD_eq_getElem?_getD, hd]
      show (Y.2.2.2.1[dd]?.getD ([], 0)).1.length = _
      rw [hx]
      rfl
    have orr := (SI_row hI.1 hr).1
    have hrp : r < 1815 := by unfold TRw at hr; omega
    have es : sumT (fun i => 18 + mpL Y i) (i + 1) = sumT (fun i => 18 + mpL Y i) i + (18 + mpL Y i) := rfl
    have go := fun τ hI => ih (i + 1) f τ (by omega) (by omega) hI
    rw [es, eL] at go
    have eD : f_Link_definedAt F c 147 (nI i) (cH sk L τ) = some (some (pN τ 149 dd), cH sk L τ) := by
      unfold f_Link_definedAt f_Link_definedAt_31 f_Link_definedAt_47
      rw [if_neg (nI_n0 (by omega)), C3g15 o47, bs, e15, if_neg (nI_ge (by omega) (by omega)), C3r9 o47 (GR_r (v := 1693) hR (by decide)), bs, c_l (G1693 hC.1) (by decide), bs, if_neg (nI_ge (by omega) (by decide)), bs, c_aN (G1693 hC.1) (Or.inr (Or.inl rfl)) (by decide) (by omega), bs, d2]
    generalize sumT (fun i => 18 + mpL Y i) i = S at *
    unfold f_Scribe_writeMap_130
    rw [C11r0 o13 (GR_r (v := 147) hR (by decide)), bs, C3g15 o47, bs, e15, if_neg (nI_ge (by omega) (by omega)), bs, c_o o47, bs, eD, xb_mk, bs, C5g14 op, bs, c_o orr, bs]
    refine sz_x (sz_hex hF hr hI) (fun _ τ1 _ i1 => ?_)
    rw [c_o orr, bs]
    refine sz_x (sz_put hF hr (by decide) i1) (fun _ τ2 _ i2 => ?_)
    have e3 : fI τ2 (pN τ 149 dd) 3 = nI Y.2.2.2.1[dd].1.length := by
      have w1' := i2.1.1.1 (pN τ 149 dd) 3 (Zc_no (by omega)) (by omega) (by omega) (by omega) (by omega)
      have w2' := hI.1.1.1 (pN τ 149 dd) 3 (Zc_no (by omega)) (by omega) (by omega) (by omega) (by omega)
      rw [w1', ← w2']
      exact nm.2.2.2
    rw [c_o op, bs]
    refine sz_x (sz_wto hF hr op (by omega) (by omega) e3 i2) (fun _ τ3 _ i3 => ?_)
    rw [c_o orr, bs]
    refine sz_x (sz_put hF hr (by decide) i3) (fun _ τ4 _ i4 => ?_)
    rw [nI_add]
    refine go τ4 ?_
    rw [show mpS Y + (S + (18 + Y.2.2.2.1[dd].1.length)) = mpS Y + S + 16 + 1 + Y.2.2.2.1[dd].1.length + 1 by omega]
    exact i4
theorem z_map (hF : 65540 < F) (hC : CV sk L own τ0 fs gs ws n b a Y) (ha : a = 0) (hr : TRw r A 65536) (hod : Y.2.2.2.2.length ≤ 4096) (hI : SI none sk L τ0 τ) (hN : ∀ k, fN τ 0 k = fN τ0 0 k) : Sf sk L (SZ none sk L τ0 r 65536 (mpT Y)) (fun v => v = bI (decide (mpT Y ≤ 65536))) (f_Scribe_writeMap F c 1713 r (cH sk L τ)) := by
  have hlen := ((CV_X hC).2 ha).1.2.1
  unfold f_Scribe_writeMap
  rw [c_o (SI_row hI hr).1, bs]
  refine sz_x (sz_clear hI hN hr) (fun _ τ1 _ i1 => ?_)
  refine z_mp6 hF hC ha hr (fun τ2 i2 => ?_) Y.2.2.1.length 0 F τ1 (Nat.zero_add _) (by omega) i1
  unfold f_Scribe_writeMap_128
  exact z_mp130 hF hC ha hr hod Y.2.2.2.2.length 0 F τ2 (Nat.zero_add _) (by omega) i2
end CMPZ
section BMPZ
variable {F : Nat} {c : px_CT} {sk : Nat → Nat × Nat × Nat} {L : Nat} {own : Nat → Nat × Nat} {τ : px_TT} {σ : px_S} {fs : List (Nat × (Nat → Nat))} {gs : List (List Nat × Int64)} {ws : List (List Nat)} {n : Nat} {b : Nat → Nat} {a : Int32} {Y : px_Y} {k N : Nat}
/-- what the reference's map reads -/
theorem MPs_X (hC : CV sk L own τ fs gs ws n b a Y) (hX : RXo σ fs a Y) (ha : a = 0) : MPs σ Y.2.2.1.length Y.2.2.2.2.length (mpZ Y) (mpU Y) (fun p => (Y.2.2.1.getD p (0, 0, 0, 0, 0, 0)).2.2.2.1) (fun p => (Y.2.2.1.getD p (0, 0, 0, 0, 0, 0)).1) (fun p => (Y.2.2.1.getD p (0, 0, 0, 0, 0, 0)).2.1) (mpL Y) (fun i => Y.2.2.2.2.getD i 0) := by
  obtain ⟨⟨_, hlen, hps⟩, ⟨_, hnt⟩, _, _, hod2⟩ := (CV_X hC).2 ha
  obtain ⟨⟨k1, k2⟩, k3, _, k5, k6, k7⟩ := hX.2 ha
  refine ⟨⟨hlen, k1, fun p hp => ?_⟩, k6, k5, fun i hi => ?_⟩
  · have hx : Y.2.2.1[p]? = some Y.2.2.1[p] := List.getElem?_eq_getElem hp
    obtain ⟨b1, b2, b3, b4, b5⟩ := (hps p _ hx).1
    obtain ⟨g1, g2, g3, g4, g5, _⟩ := k2 p _ hx
    obtain ⟨em1, em2⟩ := mpZ_at hx
    rw [em1, em2]
    dsimp only
    rw [List.getD_eq_getElem?_getD, hx]
    exact ⟨g5, by omega, g3, by omega, g4, b4, g1, b1, g2, b2⟩
  · obtain ⟨dd, hd⟩ : ∃ dd, Y.2.2.2.2[i]? = some dd := ⟨_, List.getElem?_eq_getElem hi⟩
    obtain ⟨d1, _⟩ := hod2 i dd hd
    have hx : Y.2.2.2.1[dd]? = some Y.2.2.2.1[dd] := List.getElem?_eq_getElem d1
    have hxw : (Y.2.2.2.1.map Prod.fst)[dd]? = some Y.2.2.2.1[dd].1 := by rw [List.getElem?_map, hx]; rfl
    have e0 : Y.2.2.2.2.getD i 0 = dd := by rw [List.getD_eq_getElem?_getD, hd]; rfl
    have eL : mpL Y i = Y.2.2.2.1[dd].1.length := by
      unfold mpL
      rw [e0, List.getD_eq_getElem?_getD, hx]
      rfl
    obtain ⟨z1, z2, _⟩ := k3.2.2 dd _ hxw
    have hl := k3.2.1
    rw [List.length_map] at hl
    dsimp only
    rw [e0, eL]
    exact ⟨k7 i dd hd, by omega, z2, z1.1⟩
theorem Bx_map (hF : 65540 < F) (hC : CV sk L own τ fs gs ws n b a Y) (hR : RV σ fs gs ws n b a Y) (hm : RMk sk L (k + 210)) (hN : n + (fs.map Prod.fst).sum ≤ N) : BT RnI (fun ci σ => ci = 14 ∧ gI σ 0 = nI 1) sk L τ k N (f_H_map F c 0 (cH sk L τ)) (g_H_map F c 0 (cH sk L τ)) (fun h => f_M_map F 1726 (mh 1726 h σ)) := by
  have o0 := G0 hC.1
  have ea : fI τ 147 18 = a := hC.2.2.2.2.2.2.2.2.2.2
  have h13 : gI σ 13 = a := hR.2.2.2.2.2.2.2.2.1
  by_cases c0 : a = 0
  · have hM := MPs_X hC (RV_X hR) c0
    have hod : Y.2.2.2.2.length ≤ 4096 := hM.2.1
    obtain ⟨rd, A, hT, e2⟩ := CV_rd hC
    have orr := (SI_row (SI_self hC) hT).1
    obtain ⟨v, τ1, e1, hv, i1, z1, n1⟩ := z_map (F := F) (c := c) hF hC c0 hT hod (SI_self hC) (fun _ => rfl)
    have key : ∃ τ2, f_H_map F c 0 (cH sk L τ) = some (mpA (mpT Y), cH sk L τ2) ∧ SI none sk L τ τ2 := by
      unfold f_H_map
      rw [C0r11 o0 (GR_r (v := 147) hC.2.1 (by decide)), bs, C3g18 (G147 hC.1), bs, ea, if_pos c0, C0r15 o0 (GR_r (v := 1713) hC.2.1 (by decide)), bs, C0r2 o0 e2, bs, c_o (G1713 hC.1), bs, e1, xb_mk, hv]
      unfold mpA
      by_cases cT : mpT Y ≤ 65536
      · obtain ⟨τ2, e3, i2⟩ := z_publish (F := F) (c := c) hC i1 ((n1 2).trans e2) orr
        refine ⟨τ2, ?_, i2⟩
        rw [decide_eq_true cT, if_neg (show ¬ bI true = 0 by decide), if_pos cT, c_o o0, bs, e3, xb_mk, (z1.1 cT).1]
      · refine ⟨τ1, ?_, i1⟩
        rw [decide_eq_false cT, if_pos (show bI false = 0 from rfl), if_neg cT]
    obtain ⟨τ2, eC, i2⟩ := key
    refine ⟨fs, gs, ws, n, b, a, Y, hN, Or.inl ⟨_, sk, L, τ2, own, eC, EX_refl, K26_Z i2.1, RMk_le hm (by omega), CV_SI hC i2, fun h hl => ?_⟩⟩
    obtain ⟨w, σ', e3, hw, cc, hcc, hW, h00⟩ := (q_map (F := F) (h := h) hl hF hR.2.2.2.2.1).2 (h13.trans c0) hM
    exact ⟨w, σ', e3, RV_W hR ⟨cc, hcc, hW⟩, hw.symm, h00⟩
  · refine ⟨fs, gs, ws, n, b, a, Y, hN, Or.inr ⟨14, τ, own, ?_, K26_refl τ, RMk_le hm (by omega), hC, fun h hl => ⟨_, _, (q_map (F := F) (nS := 0) (nD := 0) (zf := id) (uf := id) (gf := id) (ff := id) (mf := id) (lf := id) (df := id) hl hF hR.2.2.2.2.1).1 (by rw [h13]; exact c0), RV_0 hR (FR_I _ _ _), rfl, rfl⟩⟩⟩
    unfold g_H_map
    rw [C0r11 o0 (GR_r (v := 147) hC.2.1 (by decide)), bs, C3g18 (G147 hC.1), bs, if_neg (by rw [ea]; exact c0)]
end BMPZ
end
