section
/-! address: class and reference answer alike (steps spelled out by sf/pp.py) -/
section BAD
variable {F : Nat} {c : px_CT} {sk : Nat → Nat × Nat × Nat} {L : Nat} {own : Nat → Nat × Nat} {τ : px_TT} {σ : px_S} {fs : List (Nat × (Nat → Nat))} {gs : List (List Nat × Int64)} {ws : List (List Nat)} {n : Nat} {b : Nat → Nat} {a : Int32} {Y : px_Y} {k N : Nat}
/-- the address of a name -/
def adY (ns : List (List Nat × Int64)) (w : List Nat) : Int64 := match idx w 0 (ns.map Prod.fst) with
  | none => -1
  | some i => (ns.getD i ([], 0)).2
theorem adY_q (h : ∀ (i : Nat) (x : List Nat × Int64), Y.2.2.2.1[i]? = some x → gB σ 29 i = x.2) (w : List Nat) : adQ σ (idx w 0 (Y.2.2.2.1.map Prod.fst)) = adY Y.2.2.2.1 w := by
  unfold adY
  cases e : idx w 0 (Y.2.2.2.1.map Prod.fst) with
  | none => rfl
  | some i =>
    have hi := (idx_lt e).2
    rw [List.length_map] at hi
    have hx : Y.2.2.2.1[i]? = some Y.2.2.2.1[i] := List.getElem?_eq_getElem (by omega)
    show gB σ 29 i = (Y.2.2.2.1.getD i ([], 0)).2
    rw [h i _ hx, List.getD_eq_getElem?_getD, hx]
    rfl
theorem adY_n {ns : List (List Nat × Int64)} (hn : ∀ w, w ∈ ns.map Prod.fst → nT w) (ht : tnm b n = false) : adY ns (tk b 0 n) = -1 := by
  unfold adY
  cases e : idx (tk b 0 n) 0 (ns.map Prod.fst) with
  | none => rfl
  | some i =>
    have hm : tk b 0 n ∈ ns.map Prod.fst := idx_iff.mp (by rw [e]; rfl)
    rw [nT_tnm.mpr (hn _ hm)] at ht
    cases ht
theorem Bx_address (hF : 65540 < F) (hC : CV sk L own τ fs gs ws n b a Y) (hR : RV σ fs gs ws n b a Y) (hm : RMk sk L (k + 210)) (hN : n + (fs.map Prod.fst).sum ≤ N) : BT RnJ (fun ci σ => ci = 14 ∧ gI σ 0 = nI 1) sk L τ k N (f_H_address F c 0 (cH sk L τ)) (g_H_address F c 0 (cH sk L τ)) (fun h => f_M_address F 1726 (mh 1726 h σ)) := by
  have o0 := G0 hC.1
  have ea : fI τ 147 18 = a := hC.2.2.2.2.2.2.2.2.2.2
  have h13 : gI σ 13 = a := hR.2.2.2.2.2.2.2.2.1
  have u : ∀ (h : px_H) (nms : List (List Nat)), 1726 ≤ h.length → RNm σ nms → ∃ v σ', f_M_address F 1726 (mh 1726 h σ) = some (v, mh 1726 h σ') ∧ gI σ' 0 = nI (if a = 0 then 0 else 1) ∧ RV σ' fs gs ws (if a = 0 then 0 else n) (if a = 0 then fun _ => 0 else b) a Y ∧ (a = 0 → v = adQ σ (idx (tk b 0 n) 0 nms)) := fun h nms hl hn => by
    obtain ⟨v1, v2, v3, v4, v5, v6, v7, v8⟩ := id hR
    obtain ⟨v, σ', e, g0, g1, f, g2⟩ := q_address (F := F) hl (by omega) v1 hn
    rw [h13] at g0 g1 g2
    exact ⟨v, σ', e, g0, ⟨g1, RF_FR v2 f (by decide) (by decide), RG_FR v3 f (by decide) (by decide) (by decide), RW_FR v4 f (by decide) (by decide), OUo_FR v5 f (by decide) (by decide), MV_FR v6 f (by decide) (by decide), MNa_FR v7 f (by decide) (by decide), RVc_FR v8 f (by decide) (by decide) (by decide)⟩, g2⟩
  by_cases c0 : a = 0
  · obtain ⟨_, r1, r2, _⟩ := (RV_X hR).2 c0
    obtain ⟨_, ⟨hns, hnt⟩, hna, _⟩ := (CV_X hC).2 c0
    obtain ⟨τ1, e1, h1, h2, h3⟩ := v_readTapeName (F := F) (c := c) hF hC
    obtain ⟨_, ⟨hns1, _⟩, hna1, _⟩ := (CV_X h1).2 c0
    have hlen : (Y.2.2.2.1.map Prod.fst).length ≤ 4128 := hns1.2.2.2.1
    have eC : f_H_address F c 0 (cH sk L τ) = some (adY Y.2.2.2.1 (tk b 0 n), cH sk L τ1) := by
      unfold f_H_address f_H_address_45 f_H_address_60
      rw [C0r11 o0 (GR_r (v := 147) hC.2.1 (by decide)), bs, C3g18 (G147 hC.1), bs, ea, if_pos c0, c_o o0, bs, e1, xb_mk]
      cases ht : tnm b n with
      | false =>
        rw [if_pos (show bI false = 0 from rfl), adY_n hnt ht]
      | true =>
        have hw := h2 ht
        have hok := tk_ok hC.2.2.2.2.2.2.1 ht
        rw [if_neg (show ¬ bI true = 0 by decide), C0r11 o0 (GR_r (v := 147) h1.2.1 (by decide)), bs, C3r3 (G147 hC.1) (GR_r (v := 148) h1.2.1 (by decide)), bs, C0r10 o0 (R0_10 h1.2.1), bs, c_o hns1.1, bs, k_find hns1 (G146 hC.1) hw hok (by omega), xb_mk]
        unfold adY
        cases e : idx (tk b 0 n) 0 (Y.2.2.2.1.map Prod.fst) with
        | none => rfl
        | some i =>
          have hi := (idx_lt e).2
          rw [List.length_map] at hi
          have hx : Y.2.2.2.1[i]? = some Y.2.2.2.1[i] := List.getElem?_eq_getElem (by omega)
          have hxw : (Y.2.2.2.1.map Prod.fst)[i]? = some Y.2.2.2.1[i].1 := by rw [List.getElem?_map, hx]; rfl
          obtain ⟨_, _, op, _⟩ := hns1.2.2.2.2.2.2 i _ hxw
          show ((xgJ (cH sk L τ1) 5 14 (pN τ1 149 i)).bind _) = _
          have eg : Y.2.2.2.1.getD i ([], 0) = Y.2.2.2.1[i] := by rw [List.getD_eq_getElem?_getD, hx]; rfl
          rw [C5g14 op, bs, hna1 i _ hx]
          show some (Y.2.2.2.1[i].2, cH sk L τ1) = some ((Y.2.2.2.1.getD i ([], 0)).2, cH sk L τ1)
          rw [eg]
    refine ⟨fs, gs, ws, 0, fun _ => 0, a, Y, by omega, Or.inl ⟨_, sk, L, τ1, own, eC, EX_refl, h3, RMk_le hm (by omega), h1, fun h hl => ?_⟩⟩
    obtain ⟨v, σ', e, g0, g1, g2⟩ := u h _ hl r1
    rw [if_pos c0] at g0
    rw [if_pos c0, if_pos c0] at g1
    exact ⟨v, σ', e, g1, by rw [g2 c0, adY_q r2], g0⟩
  · obtain ⟨nms, hn, _⟩ := (RV_X hR).1.2
    refine ⟨fs, gs, ws, n, b, a, Y, hN, Or.inr ⟨14, τ, own, ?_, K26_refl τ, RMk_le hm (by omega), hC, fun h hl => ?_⟩⟩
    · unfold g_H_address
      rw [C0r11 o0 (GR_r (v := 147) hC.2.1 (by decide)), bs, C3g18 (G147 hC.1), bs, if_neg (by rw [ea]; exact c0)]
    · obtain ⟨v, σ', e, g0, g1, g2⟩ := u h _ hl hn
      rw [if_neg c0] at g0
      rw [if_neg c0, if_neg c0] at g1
      exact ⟨v, σ', e, g1, rfl, g0⟩
end BAD
end
section
/-! the reference's map: what it answers (steps spelled out by sf/pp.py) -/
/-- OUT was written, no exception -/
def OWxe (σ0 σ : px_S) : Prop := ∃ c, c ≤ 65536 ∧ OWx σ0 σ c
/-- what a text of t bytes answers -/
def mpA (t : Nat) : Int32 := if t ≤ 65536 then nI t else Int32.ofInt (-1)
section MDX
variable {F m : Nat} {h : px_H} {σ0 σ : px_S} {c : Nat}
theorem qx_dg_21 {v : Int32} (hm : m ≤ h.length) : ∀ (k f p : Nat) (σ : px_S), k ≤ 5 → k < f → p + k ≤ 65536 → OWx σ0 σ c → Sm m h (fun σ' => OWx σ0 σ' c) Any (f_M_digits_21 F f m v (nI (10 ^ k / 10)) (nI p) (mh m h σ)) := by
  intro k
  induction k with
  | zero =>
    intro f p σ hk hf hp hI
    obtain ⟨f, rfl⟩ : ∃ y, f = y + 1 := ⟨f - 1, by omega⟩
    unfold f_M_digits_21 f_M_digits_53
    rw [if_pos (by decide)]
    exact sm_r any hI
  | succ k ih =>
    intro f p σ hk hf hp hI
    obtain ⟨f, rfl⟩ : ∃ y, f = y + 1 := ⟨f - 1, by omega⟩
    have e10 : 10 ^ (k + 1) / 10 = 10 ^ k := by rw [Nat.pow_succ, Nat.mul_div_cancel _ (by decide)]
    have hb : 10 ^ k ≤ 10 ^ 4 := Nat.pow_le_pow_right (by decide) (by omega)
    have h1 : 1 ≤ 10 ^ k := Nat.pos_of_ne_zero (by simp)
    rw [e10]
    have hn : ¬ nI (10 ^ k) ≤ 0 := fun w => absurd w (nI_ge (a := 0) (b := 10 ^ k) (by omega) (by omega))
    have hx : xnzI (nI (10 ^ k)) = some () := by
      unfold xnzI
      rw [if_neg (fun w => hn (by rw [w]; decide))]
    unfold f_M_digits_21
    rw [if_neg hn, Mr3 hm, bs, hx, bs, nI_divG (by omega) (by decide), nI_add]
    exact qx_w3 hm hI (by omega) (fun σ hi => ih f (p + 1) σ (by omega) (by omega) (by omega) hi)
theorem qx_dg_2 {v p : Nat} (hm : m ≤ h.length) (hF : 65540 < F) (hv : v ≤ 99999) (hp : p + wdN v ≤ 65536) (hI : OWx σ0 σ c) : ∀ (d k f : Nat), k + d = 4 → d < f → 10 ^ k ≤ v ∨ k = 0 → Sm m h (fun σ' => OWx σ0 σ' c) Any (f_M_digits_2 F f m (nI p) (nI v) (nI (10 ^ k)) (mh m h σ)) := by
  have stop : ∀ k, k ≤ 4 → (10 ^ k ≤ v ∨ k = 0) → v < 10 ^ (k + 1) → Sm m h (fun σ' => OWx σ0 σ' c) Any (f_M_digits_18 F m (nI p) (nI v) (nI (10 ^ k)) (mh m h σ)) := fun k hk h1 h2 => by
    have e10 : 10 ^ k = 10 ^ (k + 1) / 10 := by rw [Nat.pow_succ, Nat.mul_div_cancel _ (by decide)]
    have hw : wdN v = k + 1 := by
      have : k = 0 ∨ k = 1 ∨ k = 2 ∨ k = 3 ∨ k = 4 := by omega
      unfold wdN
      rcases this with rfl | rfl | rfl | rfl | rfl
      · rw [if_pos (by omega)]
      · rw [if_neg (by omega), if_pos (by omega)]
      · rw [if_neg (by omega), if_neg (by omega), if_pos (by omega)]
      · rw [if_neg (by omega), if_neg (by omega), if_neg (by omega), if_pos (by omega)]
      · rw [if_neg (by omega), if_neg (by omega), if_neg (by omega), if_neg (by omega)]
    unfold f_M_digits_18
    rw [e10]
    exact qx_dg_21 hm (k + 1) F p σ (by omega) (by omega) (by omega) hI
  have nz : ∀ k, k ≤ 4 → xnzI (nI (10 ^ k)) = some () := fun k hk => by
    have : k = 0 ∨ k = 1 ∨ k = 2 ∨ k = 3 ∨ k = 4 := by omega
    rcases this with rfl | rfl | rfl | rfl | rfl <;> decide
  have bd : ∀ k, k ≤ 4 → 1 ≤ 10 ^ k ∧ 10 ^ k ≤ 10000 := fun k hk => ⟨Nat.pos_of_ne_zero (by simp), (Nat.pow_le_pow_right (by decide) hk : 10 ^ k ≤ 10 ^ 4)⟩
  have dv : ∀ k, k ≤ 4 → (v / 10 ^ k ≤ 9 ↔ v < 10 ^ (k + 1)) := fun k hk => by
    rw [Nat.pow_succ, Nat.mul_comm, ← Nat.div_lt_iff_lt_mul (bd k hk).1]; omega
  intro d
  induction d with
  | zero =>
    intro k f hk hf h1
    obtain ⟨f, rfl⟩ : ∃ y, f = y + 1 := ⟨f - 1, by omega⟩
    obtain rfl : k = 4 := by omega
    unfold f_M_digits_2
    rw [nz 4 (by decide), bs, nI_divG (by omega) (by decide), if_pos (nI_le ((dv 4 (by decide)).mpr (by omega)) (by decide))]
    exact stop 4 (by decide) h1 (by omega)
  | succ d ih =>
    intro k f hk hf h1
    obtain ⟨f, rfl⟩ : ∃ y, f = y + 1 := ⟨f - 1, by omega⟩
    have hb := bd k (by omega)
    unfold f_M_digits_2
    rw [nz k (by omega), bs, nI_divG (by omega) (by omega)]
    by_cases c9 : v / 10 ^ k ≤ 9
    · rw [if_pos (nI_le c9 (by decide))]
      exact stop k (by omega) h1 ((dv k (by omega)).mp c9)
    · have hd : v / 10 ^ k ≤ v := Nat.div_le_self _ _
      rw [if_neg (nI_ge (by omega) (by omega)), show nI 10 * nI (10 ^ k) = nI (10 * 10 ^ k) from (Int32.ofNat_mul 10 (10 ^ k)).symm, Nat.mul_comm 10 (10 ^ k), ← Nat.pow_succ]
      exact ih (k + 1) f (by omega) (by omega) (Or.inl (Nat.le_of_not_lt (fun w => c9 ((dv k (by omega)).mpr w))))
theorem qx_sayN {v : Nat} {w : Int32} (hm : m ≤ h.length) (hF : 65540 < F) (hv : v ≤ 99999) (hc : c + wdN v + 1 ≤ 65536) (hI : OWx σ0 σ c) : Sm m h (fun σ' => OWx σ0 σ' (c + wdN v + 1)) Any (f_M_sayNumber F m (nI v) w (mh m h σ)) := by
  unfold f_M_sayNumber f_M_digits
  rw [Mg4 hm, bs, hI.1.2.1]
  refine sm_o hm (fun _ => sm_x (qx_dg_2 hm hF hv (by omega) hI 4 0 F rfl (by omega) (Or.inr rfl)) (fun _ σ _ hi => ?_))
  rw [Mg4 hm, bs, hi.1.2.1, q_wide (by omega), xb_mk, nI_add]
  refine qx_p4 hm hi (fun σ hi => ?_)
  rw [Mr3 hm, bs, Mg4 hm, bs, hi.1.2.1]
  refine qx_w3 hm hi (by omega) (fun σ hi => ?_)
  rw [Mg4 hm, bs, hi.1.2.1, nI_add]
  exact qx_p4 hm hi (fun σ hi => sm_r any hi)
end MDX
section MMX
variable {F m : Nat} {h : px_H} {σ0 σ : px_S} {c nS nD : Nat} {zf uf gf ff mf lf df : Nat → Nat}
theorem qx_mp_291 {V : Int32 → Prop} {k234 : Nat → Int32 → px_H → Option (Int32 × px_H)} {i d l c0 : Nat} (hm : m ≤ h.length) (hd : d < 4096) (hl : l ≤ 20) (e22 : gA σ0 22 d = nI l) (hc : c0 + l + 1 ≤ 65536) (hK : ∀ σ, OWx σ0 σ (c0 + l + 1) → Sm m h (OWxe σ0) V (k234 m (nI (i + 1)) (mh m h σ))) : ∀ (e j f : Nat) (σ : px_S), j + e = l → e < f → OWx σ0 σ (c0 + j) → Sm m h (OWxe σ0) V (f_M_map_291 F k234 f m (nI i) (nI d) (nI j) (mh m h σ)) := by
  intro e
  induction e with
  | zero =>
    intro j f σ hj hf hI
    obtain ⟨f, rfl⟩ : ∃ y, f = y + 1 := ⟨f - 1, by omega⟩
    obtain rfl : j = l := by omega
    have g22 : gA σ 22 = gA σ0 22 := hI.1.1.2.2.1 22 (by decide)
    unfold f_M_map_291 f_M_map_339
    rw [Mr22 hm, bs, Ma22 hm hd, bs, g22, e22, if_pos (nI_le (by omega) (by omega)), Mr3 hm, bs, Mg4 hm, bs, hI.1.2.1, nI_add]
    refine qx_w3 hm hI (by omega) (fun σ hi => ?_)
    rw [Mg4 hm, bs, hi.1.2.1, nI_add]
    exact qx_p4 hm hi (fun σ hi => hK σ hi)
  | succ e ih =>
    intro j f σ hj hf hI
    obtain ⟨f, rfl⟩ : ∃ y, f = y + 1 := ⟨f - 1, by omega⟩
    have g22 : gA σ 22 = gA σ0 22 := hI.1.1.2.2.1 22 (by decide)
    unfold f_M_map_291
    rw [Mr22 hm, bs, Ma22 hm hd, bs, g22, e22, if_neg (nI_ge (by omega) (by omega)), Mr3 hm, bs, Mg4 hm, bs, hI.1.2.1, Mr21 hm, bs, show nI 20 * nI d = nI (20 * d) from (Int32.ofNat_mul 20 d).symm, nI_add, Ma21 hm (by omega), bs, nI_add]
    refine qx_w3 hm hI (by omega) (fun σ hi => ?_)
    rw [Mg4 hm, bs, hi.1.2.1, nI_add, Nat.add_assoc]
    exact qx_p4 hm hi (fun σ hi => ih (j + 1) f σ (by omega) (by omega) hi)
theorem qx_mp_234 {T : Nat} (hm : m ≤ h.length) (hF : 65540 < F) (hM : MPs σ0 nS nD zf uf gf ff mf lf df) (hT : T + sumT (fun i => 18 + lf i) nD ≤ 65536) : ∀ (d j f : Nat) (σ : px_S), j + d = nD → d < f → OWx σ0 σ (T + sumT (fun i => 18 + lf i) j) → Sm m h (OWxe σ0) (fun v => v = nI (T + sumT (fun i => 18 + lf i) nD)) (f_M_map_234 F f m (nI j) (mh m h σ)) := by
  have hN := hM.2.1
  intro d
  induction d with
  | zero =>
    intro j f σ hj hf hI
    obtain ⟨f, rfl⟩ : ∃ y, f = y + 1 := ⟨f - 1, by omega⟩
    obtain rfl : j = nD := by omega
    unfold f_M_map_234 f_M_map_366
    rw [Mg48 hm, bs, (MPs_O hM hI.1).2.2.1, if_pos (nI_le (by omega) (by omega)), Mg4 hm, bs, hI.1.2.1]
    exact sm_r rfl ⟨_, hT, hI⟩
  | succ d ih =>
    intro j f σ hj hf hI
    obtain ⟨f, rfl⟩ : ∃ y, f = y + 1 := ⟨f - 1, by omega⟩
    obtain ⟨e49, hd, e22, hl⟩ := hM.2.2.2 j (by omega)
    have g49 : gA σ 49 = gA σ0 49 := hI.1.1.2.2.1 49 (by decide)
    have hle := sumT_le (f := fun i => 18 + lf i) (show j + 1 ≤ nD by omega)
    have es : sumT (fun i => 18 + lf i) (j + 1) = sumT (fun i => 18 + lf i) j + (18 + lf j) := rfl
    unfold f_M_map_234
    rw [Mg48 hm, bs, (MPs_O hM hI.1).2.2.1, if_neg (nI_ge (by omega) (by omega)), Mr49 hm, bs, Ma49 hm (by omega), bs, g49, e49, Mg4 hm, bs, hI.1.2.1, Mr29 hm, bs, Ma29 hm hd, bs]
    generalize sumT (fun i => 18 + lf i) j = S at *
    refine sm_o hm (fun _ => sm_x (qx_16_3 (F := F) (p := T + S) hm (by omega) 16 0 F σ rfl (by omega) hI) (fun _ σ _ hi => ?_))
    rw [Mr3 hm, bs, Mg4 hm, bs, hi.1.2.1, nI_add]
    refine qx_w3 hm hi (by omega) (fun σ hi => ?_)
    rw [Mg4 hm, bs, hi.1.2.1, nI_add]
    refine qx_p4 hm hi (fun σ hi => ?_)
    exact qx_mp_291 (c0 := T + S + 17) (l := lf j) hm hd hl e22 (by omega) (fun σ hi => ih (j + 1) f σ (by omega) (by omega) (by rw [es]; rw [show T + (S + (18 + lf j)) = T + S + 17 + lf j + 1 by omega]; exact hi)) (lf j) 0 F σ (Nat.zero_add _) (by omega) hi
theorem qx_mp_119 (hm : m ≤ h.length) (hF : 65540 < F) (hM : MPs σ0 nS nD zf uf gf ff mf lf df) (hT : sumT (fun p => 25 + wdN (zf p) + wdN (uf p)) nS + sumT (fun i => 18 + lf i) nD ≤ 65536) : ∀ (d j f : Nat) (σ : px_S), j + d = nS → d < f → OWx σ0 σ (sumT (fun p => 25 + wdN (zf p) + wdN (uf p)) j) → Sm m h (OWxe σ0) (fun v => v = nI (sumT (fun p => 25 + wdN (zf p) + wdN (uf p)) nS + sumT (fun i => 18 + lf i) nD)) (f_M_map_119 F f m (nI j) (mh m h σ)) := by
  have hN := hM.1.1
  have hN2 := hM.2.1
  intro d
  induction d with
  | zero =>
    intro j f σ hj hf hI
    obtain ⟨f, rfl⟩ : ∃ y, f = y + 1 := ⟨f - 1, by omega⟩
    obtain rfl : j = nS := by omega
    unfold f_M_map_119 f_M_map_232
    rw [Mg50 hm, bs, (MPs_O hM hI.1).1.2.1, if_pos (nI_le (by omega) (by omega))]
    exact qx_mp_234 hm hF hM hT nD 0 F σ (Nat.zero_add _) (by omega) hI
  | succ d ih =>
    intro j f σ hj hf hI
    obtain ⟨f, rfl⟩ : ∃ y, f = y + 1 := ⟨f - 1, by omega⟩
    have hj1 : j < 1536 := by omega
    have hle := sumT_le (f := fun p => 25 + wdN (zf p) + wdN (uf p)) (show j + 1 ≤ nS by omega)
    have es : sumT (fun p => 25 + wdN (zf p) + wdN (uf p)) (j + 1) = sumT (fun p => 25 + wdN (zf p) + wdN (uf p)) j + (25 + wdN (zf j) + wdN (uf j)) := rfl
    unfold f_M_map_119
    rw [Mg50 hm, bs, (MPs_O hM hI.1).1.2.1, if_neg (nI_ge (by omega) (by omega)), Mg4 hm, bs, hI.1.2.1, Mr57 hm, bs, Ma57 hm hj1, bs, nI_add]
    generalize sumT (fun p => 25 + wdN (zf p) + wdN (uf p)) j = S at *
    generalize sumT (fun p => 25 + wdN (zf p) + wdN (uf p)) nS = SS at *
    have wz := wdN_b (zf j)
    have wu := wdN_b (uf j)
    refine sm_o hm (fun _ => sm_x (qx_16_3 (F := F) (p := S) hm (by omega) 16 0 F σ rfl (by omega) hI) (fun _ σ _ hi => ?_))
    rw [Mr3 hm, bs, Mg4 hm, bs, hi.1.2.1, nI_add]
    refine qx_w3 hm hi (by omega) (fun σ hi => ?_)
    rw [Mg4 hm, bs, hi.1.2.1, nI_add]
    refine qx_p4 hm hi (fun σ hi => ?_)
    obtain ⟨z1, z2, _⟩ := (MPs_O hM hi.1).1.2.2 j (by omega)
    rw [Mr56 hm, bs, Ma56 hm hj1, bs, z1]
    refine sm_o hm (fun _ => sm_x (qx_sayN hm hF z2 (by omega) hi) (fun _ σ _ hi => ?_))
    obtain ⟨_, _, _, _, g1, g2, _⟩ := (MPs_O hM hi.1).1.2.2 j (by omega)
    rw [Mr55 hm, bs, Ma55 hm hj1, bs, g1]
    refine sm_o hm (fun _ => sm_x (qx_sayN hm hF (by omega) (by rw [wdN_1 g2]; omega) hi) (fun _ σ _ hi => ?_))
    obtain ⟨_, _, _, _, _, _, f1, f2, _⟩ := (MPs_O hM hi.1).1.2.2 j (by omega)
    rw [wdN_1 g2] at hi
    rw [Mr52 hm, bs, Ma52 hm hj1, bs, f1]
    refine sm_o hm (fun _ => sm_x (qx_sayN hm hF (by omega) (by rw [wdN_1 f2]; omega) hi) (fun _ σ _ hi => ?_))
    obtain ⟨_, _, _, _, _, _, _, _, m1, m2⟩ := (MPs_O hM hi.1).1.2.2 j (by omega)
    rw [wdN_1 f2] at hi
    rw [Mr53 hm, bs, Ma53 hm hj1, bs, m1]
    refine sm_o hm (fun _ => sm_x (qx_sayN hm hF (by omega) (by rw [wdN_1 m2]; omega) hi) (fun _ σ _ hi => ?_))
    obtain ⟨_, _, u1, u2, _⟩ := (MPs_O hM hi.1).1.2.2 j (by omega)
    rw [wdN_1 m2] at hi
    rw [Mr54 hm, bs, Ma54 hm hj1, bs, u1]
    refine sm_o hm (fun _ => sm_x (qx_sayN hm hF u2 (by omega) hi) (fun _ σ _ hi => ?_))
    refine ih (j + 1) f σ (by omega) (by omega) ?_
    rw [es, show S + (25 + wdN (zf j) + wdN (uf j)) = S + 17 + wdN (zf j) + 1 + 1 + 1 + 1 + 1 + 1 + 1 + wdN (uf j) + 1 by omega]
    exact hi
theorem qx_mp_73 {T : Nat} (hm : m ≤ h.length) (hF : 65540 < F) (ho : OUo σ0) (hM : MPs σ0 nS nD zf uf gf ff mf lf df) (eT : T = sumT (fun p => 25 + wdN (zf p) + wdN (uf p)) nS) (hTb : T ≤ 53760) (hf0 : FR [0] [] [] [] σ0 σ) (h00 : gI σ 0 = nI 0) : ∀ (d j f : Nat), j + d = nD → d < f → Sm m h (OWxe σ0) (fun v => v = mpA (T + sumT (fun i => 18 + lf i) nD)) (f_M_map_73 F f m (nI (T + sumT (fun i => 18 + lf i) j)) (nI j) (mh m h σ)) := by
  have hN := hM.1.1
  have hN2 := hM.2.1
  obtain ⟨co, hco, hO⟩ := OWe_0 ho hf0
  have hMs := MPs_O hM hO
  intro d
  induction d with
  | zero =>
    intro j f hj hf
    obtain ⟨f, rfl⟩ : ∃ y, f = y + 1 := ⟨f - 1, by omega⟩
    obtain rfl : j = nD := by omega
    unfold f_M_map_73 f_M_map_104
    rw [Mg48 hm, bs, hMs.2.2.1, if_pos (nI_le (by omega) (by omega))]
    have hB := sumT_b' (f := fun i => 18 + lf i) (k := 38) (n := j) (fun i hi => by have := (hM.2.2.2 i hi).2.2.2; show 18 + lf i ≤ 38; omega)
    by_cases hle : T + sumT (fun i => 18 + lf i) j ≤ 65536
    · rw [if_pos (show nI (T + sumT (fun i => 18 + lf i) j) ≤ (65536 : Int32) from nI_le hle (by decide)), Mp4 hm, bs]
      have w := qx_mp_119 hm hF hM (by rw [← eT]; exact hle) nS 0 F _ (Nat.zero_add _) (by omega) (OWx_p ⟨hO, h00⟩)
      rw [← eT] at w
      have eA : mpA (T + sumT (fun i => 18 + lf i) j) = nI (T + sumT (fun i => 18 + lf i) j) := if_pos hle
      rw [eA]
      exact w
    · rw [if_neg (show ¬ nI (T + sumT (fun i => 18 + lf i) j) ≤ (65536 : Int32) from nI_ge (a := 65536) (by omega) (by omega))]
      exact sm_r (if_neg hle).symm ⟨co, hco, hO, h00⟩
  | succ d ih =>
    intro j f hj hf
    obtain ⟨f, rfl⟩ : ∃ y, f = y + 1 := ⟨f - 1, by omega⟩
    obtain ⟨e49, hd, e22, hl⟩ := hMs.2.2.2 j (by omega)
    have es : sumT (fun i => 18 + lf i) (j + 1) = sumT (fun i => 18 + lf i) j + (18 + lf j) := rfl
    have go := ih (j + 1) f (by omega) (by omega)
    unfold f_M_map_73
    rw [Mg48 hm, bs, hMs.2.2.1, if_neg (nI_ge (by omega) (by omega)), Mr22 hm, bs, Mr49 hm, bs, Ma49 hm (by omega), bs, e49, Ma22 hm hd, bs, e22, nI_add, nI_add, nI_add, Nat.add_assoc, ← es]
    exact go
theorem qx_mp_26 (hm : m ≤ h.length) (hF : 65540 < F) (ho : OUo σ0) (hM : MPs σ0 nS nD zf uf gf ff mf lf df) (hf0 : FR [0] [] [] [] σ0 σ) (h00 : gI σ 0 = nI 0) : ∀ (d j f : Nat), j + d = nS → d < f → Sm m h (OWxe σ0) (fun v => v = mpA (sumT (fun p => 25 + wdN (zf p) + wdN (uf p)) nS + sumT (fun i => 18 + lf i) nD)) (f_M_map_26 F f m (nI (sumT (fun p => 25 + wdN (zf p) + wdN (uf p)) j)) (nI j) (mh m h σ)) := by
  have hN := hM.1.1
  have hN2 := hM.2.1
  obtain ⟨co, hco, hO⟩ := OWe_0 ho hf0
  have hMs := MPs_O hM hO
  intro d
  induction d with
  | zero =>
    intro j f hj hf
    obtain ⟨f, rfl⟩ : ∃ y, f = y + 1 := ⟨f - 1, by omega⟩
    obtain rfl : j = nS := by omega
    have hB := sumT_b' (f := fun p => 25 + wdN (zf p) + wdN (uf p)) (k := 35) (n := j) (fun i hi => by have w1 := (wdN_b (zf i)).2; have w2 := (wdN_b (uf i)).2; show 25 + wdN (zf i) + wdN (uf i) ≤ 35; omega)
    unfold f_M_map_26 f_M_map_71
    rw [Mg50 hm, bs, hMs.1.2.1, if_pos (nI_le (by omega) (by omega))]
    exact qx_mp_73 hm hF ho hM rfl (by omega) hf0 h00 nD 0 F (Nat.zero_add _) (by omega)
  | succ d ih =>
    intro j f hj hf
    obtain ⟨f, rfl⟩ : ∃ y, f = y + 1 := ⟨f - 1, by omega⟩
    obtain ⟨z1, z2, u1, u2, _⟩ := hMs.1.2.2 j (by omega)
    have es : sumT (fun p => 25 + wdN (zf p) + wdN (uf p)) (j + 1) = sumT (fun p => 25 + wdN (zf p) + wdN (uf p)) j + (25 + wdN (zf j) + wdN (uf j)) := rfl
    have go := ih (j + 1) f (by omega) (by omega)
    rw [es, show 25 + wdN (zf j) + wdN (uf j) = 22 + wdN (zf j) + wdN (uf j) + 1 + 1 + 1 by omega] at go
    unfold f_M_map_26
    rw [Mg50 hm, bs, hMs.1.2.1, if_neg (nI_ge (by omega) (by omega)), Mr56 hm, bs, Ma56 hm (by omega), bs, z1, q_wide (by omega), xb_mk, Mr54 hm, bs, Ma54 hm (by omega), bs, u1, q_wide (by omega), xb_mk, nI_add, nI_add, nI_add, nI_add, nI_add, nI_add, nI_add]
    exact go
theorem q_map (hm : m ≤ h.length) (hF : 65540 < F) (ho : OUo σ) : (¬ gI σ 13 = 0 → f_M_map F m (mh m h σ) = some (nI 0, mh m h (sI σ 0 (nI 1)))) ∧ (gI σ 13 = 0 → MPs σ nS nD zf uf gf ff mf lf df → Sm m h (OWxe σ) (fun v => v = mpA (sumT (fun p => 25 + wdN (zf p) + wdN (uf p)) nS + sumT (fun i => 18 + lf i) nD)) (f_M_map F m (mh m h σ))) := by
  have th1 : f_M_throwing F m (nI 1) (nI 0) (mh m h σ) = some (nI 1, mh m h (sI σ 0 (nI 1))) := q_throwing hm true false
  have th0 : f_M_throwing F m (nI 0) (nI 0) (mh m h σ) = some (nI 0, mh m h (sI σ 0 (nI 0))) := q_throwing hm false false
  refine ⟨fun h13 => ?_, fun h13 hM => ?_⟩
  · unfold f_M_map f_M_map_13
    rw [Mg13 hm, bs, if_neg h13, e_o hm, bs, th1, xb_mk, if_neg (by decide)]
  · unfold f_M_map f_M_map_13
    rw [Mg13 hm, bs, if_pos h13, e_o hm, bs, th0, xb_mk, if_pos (show (nI 0 : Int32) = 0 from rfl)]
    have hN := hM.1.1
    exact qx_mp_26 hm hF ho hM (FR_I _ _ _) (by rw [gI_sI, if_pos rfl]) nS 0 F (Nat.zero_add _) (by omega)
end MMX
end
section
/-! map: class and reference answer alike (steps spelled out by sf/pp.py) -/
/-- of section p: its size, its number -/
def mpZ (Y : px_Y) (p : Nat) : Nat := (Y.2.2.1.getD p (0, 0, 0, 0, 0, 0)).2.2.2.2.1
def mpU (Y : px_Y) (p : Nat) : Nat := (Y.2.2.1.getD p (0, 0, 0, 0, 0, 0)).2.2.1
/-- of definition i: how long its name is -/
def mpL (Y : px_Y) (i : Nat) : Nat := (Y.2.2.2.1.getD (Y.2.2.2.2.getD i 0) ([], 0)).1.length
def mpS (Y : px_Y) : Nat := sumT (fun p => 25 + wdN (mpZ Y p) + wdN (mpU Y p)) Y.2.2.1.length
def mpT (Y : px_Y) : Nat := mpS Y + sumT (fun i => 18 + mpL Y i) Y.2.2.2.2.length
section CMPZ
variable {F : Nat} {c : px_CT} {sk : Nat → Nat × Nat × Nat} {L : Nat} {own : Nat → Nat × Nat} {τ0 τ : px_TT} {fs : List (Nat × (Nat → Nat))} {gs : List (List Nat × Int64)} {ws : List (List Nat)} {n : Nat} {b : Nat → Nat} {a : Int32} {Y : px_Y} {r A : Nat}
theorem mpZ_at {i : Nat} {p : Nat × Nat × Nat × Nat × Nat × Nat} (hp : Y.2.2.1[i]? = some p) : mpZ Y i = p.2.2.2.2.1 ∧ mpU Y i = p.2.2.1 := by
  unfold mpZ mpU
  rw [List.getD_eq_getElem?_getD, hp]
  exact ⟨rfl, rfl⟩
/-- the part at place i, while rows are written -/
theorem z_parts {i : Nat} {p : Nat × Nat × Nat × Nat × Nat × Nat} (hC : CV sk L own τ0 fs gs ws n b a Y) (ha : a = 0) (hp : Y.2.2.1[i]? = some p) : ∃ x, x < 1536 ∧ ∀ τ, SI none sk L τ0 τ → f_Layout_partAt F c 1700 (nI i) (cH sk L τ) = some (some (152 + x), cH sk L τ) ∧ fI τ (152 + x) 1 = nI p.1 ∧ fI τ (152 + x) 2 = nI p.2.1 ∧ fI τ (152 + x) 3 = nI p.2.2.1 ∧ fI τ (152 + x) 4 = nI p.2.2.2.1 ∧ fI τ (152 + x) 5 = nI p.2.2.2.2.1 := by
  obtain ⟨x, x1, x2, _⟩ := z_part (F := F) (c := c) hC ha hp
  refine ⟨x, x1, fun τ hI => ?_⟩
  obtain ⟨y, y1, y2, y3, y4, y5, y6, y7, y8, _⟩ := z_part (F := F) (c := c) (CV_SI hC hI) ha hp
  rw [hI.1.2.2.2.2.2 1701 (by decide)] at y2
  have e : 152 + x = 152 + y := Option.some.inj (x2.symm.trans y2)
  rw [e]
  exact ⟨y3, y4, y5, y6, y7, y8⟩
theorem z_mp6 {J : px_TT → Prop} {V : Int32 → Prop} (hF : 65540 < F) (hC : CV sk L own τ0 fs gs ws n b a Y) (ha : a = 0) (hr : TRw r A 65536) (hT : ∀ τ, SZ none sk L τ0 r 65536 (mpS Y) τ → Sf sk L J V (f_Scribe_writeMap_128 F c 1713 r (cH sk L τ))) : ∀ (d i f : Nat) (τ : px_TT), i + d = Y.2.2.1.length → d < f → SZ none sk L τ0 r 65536 (sumT (fun p => 25 + wdN (mpZ Y p) + wdN (mpU Y p)) i) τ → Sf sk L J V (f_Scribe_writeMap_6 F c f 1713 r (nI i) (cH sk L τ)) := by
  have h0 := (CV_S4 hC).1.1.1
  have o13 := G1713 hC.1
  have o17 : ob sk L 2 1700 := GS_o hC.1 (by decide) (by decide)
  obtain ⟨⟨_, hlen, hps⟩, _⟩ := (CV_X hC).2 ha
  intro d
  induction d with
  | zero =>
    intro i f τ hi hf hI
    obtain ⟨f, rfl⟩ : ∃ y, f = y + 1 := ⟨f - 1, by omega⟩
    have ei : i = Y.2.2.1.length := by omega
    have hR := GR_Z h0.2.1 hI.1.1
    have e11 := ((CV_X (CV_SI hC hI.1)).2 ha).1.1
    unfold f_Scribe_writeMap_6
    rw [C11r1 o13 (GR_r (v := 1700) hR (by decide)), bs, C2g11 o17, bs, e11, if_pos (nI_le (by omega) (by omega))]
    refine hT τ ?_
    rw [ei] at hI
    exact hI
  | succ d ih =>
    intro i f τ hi hf hI
    obtain ⟨f, rfl⟩ : ∃ y, f = y + 1 := ⟨f - 1, by omega⟩
    have hp : Y.2.2.1[i]? = some Y.2.2.1[i] := List.getElem?_eq_getElem (by omega)
    have hbd := (hps i _ hp).1
    obtain ⟨em1, em2⟩ := mpZ_at hp
    obtain ⟨x, x1, hx⟩ := z_parts (F := F) (c := c) hC ha hp
    have oP := G_part hC.1 x1
    have hR := GR_Z h0.2.1 hI.1.1
    have e11 := ((CV_X (CV_SI hC hI.1)).2 ha).1.1
    have orr := (SI_row hI.1 hr).1
    have es : sumT (fun p => 25 + wdN (mpZ Y p) + wdN (mpU Y p)) (i + 1) = sumT (fun p => 25 + wdN (mpZ Y p) + wdN (mpU Y p)) i + (25 + wdN (mpZ Y i) + wdN (mpU Y i)) := rfl
    have go := fun τ hI => ih (i + 1) f τ (by omega) (by omega) hI
    rw [es, em1, em2] at go
    generalize sumT (fun p => 25 + wdN (mpZ Y p) + wdN (mpU Y p)) i = S at *
    generalize Y.2.2.1[i] = p at *
    unfold f_Scribe_writeMap_6
    rw [C11r1 o13 (GR_r (v := 1700) hR (by decide)), bs, C2g11 o17, bs, e11, if_neg (nI_ge (by omega) (by omega)), bs, c_o o17, bs, (hx τ hI.1).1, xb_mk, bs, C8g11 oP, bs, c_o orr, bs]
    refine sz_x (sz_hex hF hr hI) (fun _ τ1 _ i1 => ?_)
    rw [c_o orr, bs]
    refine sz_x (sz_put hF hr (by decide) i1) (fun _ τ2 _ i2 => ?_)
    rw [C8g5 oP, bs, (hx τ2 i2.1).2.2.2.2.2, c_o orr, bs]
    refine sz_x (sz_dec hF hr (by omega) i2) (fun _ τ3 _ i3 => ?_)
    rw [c_o orr, bs]
    refine sz_x (sz_put hF hr (by decide) i3) (fun _ τ4 _ i4 => ?_)
    rw [C8g4 oP, bs, (hx τ4 i4.1).2.2.2.2.1, c_o orr, bs]
    refine sz_x (sz_dec hF hr (by omega) i4) (fun _ τ5 _ i5 => ?_)
    rw [c_o orr, bs]
    refine sz_x (sz_put hF hr (by decide) i5) (fun _ τ6 _ i6 => ?_)
    rw [C8g1 oP, bs, (hx τ6 i6.1).2.1, c_o orr, bs]
    refine sz_x (sz_dec hF hr (by omega) i6) (fun _ τ7 _ i7 => ?_)
    rw [c_o orr, bs]
    refine sz_x (sz_put hF hr (by decide) i7) (fun _ τ8 _ i8 => ?_)
    rw [C8g2 oP, bs, (hx τ8 i8.1).2.2.1, c_o orr, bs]
    refine sz_x (sz_dec hF hr (by omega) i8) (fun _ τ9 _ i9 => ?_)
    rw [c_o orr, bs]
    refine sz_x (sz_put hF hr (by decide) i9) (fun _ τa _ ia => ?_)
    rw [C8g3 oP, bs, (hx τa ia.1).2.2.2.1, c_o orr, bs]
    refine sz_x (sz_dec hF hr (by omega) ia) (fun _ τb _ ib => ?_)
    rw [c_o orr, bs]
    refine sz_x (sz_put hF hr (by decide) ib) (fun _ τc _ ic => ?_)
    rw [wdN_1 hbd.1, wdN_1 hbd.2.1, wdN_1 hbd.2.2.2.1] at ic
    rw [nI_add]
    refine go τc ?_
    rw [show S + (25 + wdN p.2.2.2.2.1 + wdN p.2.2.1) = S + 16 + 1 + wdN p.2.2.2.2.1 + 1 + 1 + 1 + 1 + 1 + 1 + 1 + wdN p.2.2.1 + 1 by omega]
    exact ic
theorem z_mp130 (hF : 65540 < F) (hC : CV sk L own τ0 fs gs ws n b a Y) (ha : a = 0) (hr : TRw r A 65536) (hod : Y.2.2.2.2.length ≤ 4096) : ∀ (d i f : Nat) (τ : px_TT), i + d = Y.2.2.2.2.length → d < f → SZ none sk L τ0 r 65536 (mpS Y + sumT (fun i => 18 + mpL Y i) i) τ → Sf sk L (SZ none sk L τ0 r 65536 (mpT Y)) (fun v => v = bI (decide (mpT Y ≤ 65536))) (f_Scribe_writeMap_130 F c f 1713 r (nI i) (cH sk L τ)) := by
  have h0 := (CV_S4 hC).1.1.1
  have o13 := G1713 hC.1
  have o47 := G147 hC.1
  intro d
  induction d with
  | zero =>
    intro i f τ hi hf hI
    obtain ⟨f, rfl⟩ : ∃ y, f = y + 1 := ⟨f - 1, by omega⟩
    have ei : i = Y.2.2.2.2.length := by omega
    have hR := GR_Z h0.2.1 hI.1.1
    obtain ⟨_, _, e15, _⟩ := ((CV_X (CV_SI hC hI.1)).2 ha).2
    have orr := (SI_row hI.1 hr).1
    rw [ei] at hI
    have hI : SZ none sk L τ0 r 65536 (mpT Y) τ := hI
    unfold f_Scribe_writeMap_130 f_Scribe_writeMap_185 f_Scribe_writeMap_197
    rw [C11r0 o13 (GR_r (v := 147) hR (by decide)), bs, C3g15 o47, bs, e15, if_pos (nI_le (by omega) (by omega)), C10g2 orr, bs]
    by_cases cT : mpT Y ≤ 65536
    · rw [(hI.2.1.1 cT).2, if_pos (show bI false = 0 from rfl), decide_eq_true cT]
      exact ⟨_, τ, xz_b true _, rfl, hI⟩
    · rw [hI.2.1.2 (by omega), if_neg (show ¬ bI true = 0 by decide), decide_eq_false cT]
      exact ⟨_, τ, xz_b false _, rfl, hI⟩
  | succ d ih =>
    intro i f τ hi hf hI
    obtain ⟨f, rfl⟩ : ∃ y, f = y + 1 := ⟨f - 1, by omega⟩
    have hR := GR_Z h0.2.1 hI.1.1
    have hCt := CV_SI hC hI.1
    obtain ⟨⟨hns, hnt⟩, hna, e15, hod2⟩ := ((CV_X hCt).2 ha).2
    obtain ⟨dd, hd⟩ : ∃ dd, Y.2.2.2.2[i]? = some dd := ⟨_, List.getElem?_eq_getElem (by omega)⟩
    obtain ⟨d1, d2⟩ := hod2 i dd hd
    have hx : Y.2.2.2.1[dd]? = some Y.2.2.2.1[dd] := List.getElem?_eq_getElem d1
    have hxw : (Y.2.2.2.1.map Prod.fst)[dd]? = some Y.2.2.2.1[dd].1 := by rw [List.getElem?_map, hx]; rfl
    obtain ⟨_, n2, op, nm⟩ := hns.2.2.2.2.2.2 dd _ hxw
    have hge := (hCt.2.2.1 149 dd _ (Or.inr (Or.inr rfl)) n2).1
    have hw20 := (hnt _ (List.mem_of_getElem? hxw)).2.1
    have eL : mpL Y i = Y.2.2.2.1[dd].1.length := by
      unfold mpL
      rw [List.getD_eq_getElem?_getD, List.getD_eq_getElem?_getD, hd]
      show (Y.2.2.2.1[dd]?.getD ([], 0)).1.length = _
      rw [hx]
      rfl
    have orr := (SI_row hI.1 hr).1
    have hrp : r < 1815 := by unfold TRw at hr; omega
    have es : sumT (fun i => 18 + mpL Y i) (i + 1) = sumT (fun i => 18 + mpL Y i) i + (18 + mpL Y i) := rfl
    have go := fun τ hI => ih (i + 1) f τ (by omega) (by omega) hI
    rw [es, eL] at go
    have eD : f_Link_definedAt F c 147 (nI i) (cH sk L τ) = some (some (pN τ 149 dd), cH sk L τ) := by
      unfold f_Link_definedAt f_Link_definedAt_31 f_Link_definedAt_47
      rw [if_neg (nI_n0 (by omega)), C3g15 o47, bs, e15, if_neg (nI_ge (by omega) (by omega)), C3r9 o47 (GR_r (v := 1693) hR (by decide)), bs, c_l (G1693 hC.1) (by decide), bs, if_neg (nI_ge (by omega) (by decide)), bs, c_aN (G1693 hC.1) (Or.inr (Or.inl rfl)) (by decide) (by omega), bs, d2]
    generalize sumT (fun i => 18 + mpL Y i) i = S at *
    unfold f_Scribe_writeMap_130
    rw [C11r0 o13 (GR_r (v := 147) hR (by decide)), bs, C3g15 o47, bs, e15, if_neg (nI_ge (by omega) (by omega)), bs, c_o o47, bs, eD, xb_mk, bs, C5g14 op, bs, c_o orr, bs]
    refine sz_x (sz_hex hF hr hI) (fun _ τ1 _ i1 => ?_)
    rw [c_o orr, bs]
    refine sz_x (sz_put hF hr (by decide) i1) (fun _ τ2 _ i2 => ?_)
    have e3 : fI τ2 (pN τ 149 dd) 3 = nI Y.2.2.2.1[dd].1.length := by
      have w1' := i2.1.1.1 (pN τ 149 dd) 3 (Zc_no (by omega)) (by omega) (by omega) (by omega) (by omega)
      have w2' := hI.1.1.1 (pN τ 149 dd) 3 (Zc_no (by omega)) (by omega) (by omega) (by omega) (by omega)
      rw [w1', ← w2']
      exact nm.2.2.2
    rw [c_o op, bs]
    refine sz_x (sz_wto hF hr op (by omega) (by omega) e3 i2) (fun _ τ3 _ i3 => ?_)
    rw [c_o orr, bs]
    refine sz_x (sz_put hF hr (by decide) i3) (fun _ τ4 _ i4 => ?_)
    rw [nI_add]
    refine go τ4 ?_
    rw [show mpS Y + (S + (18 + Y.2.2.2.1[dd].1.length)) = mpS Y + S + 16 + 1 + Y.2.2.2.1[dd].1.length + 1 by omega]
    exact i4
theorem z_map (hF : 65540 < F) (hC : CV sk L own τ0 fs gs ws n b a Y) (ha : a = 0) (hr : TRw r A 65536) (hod : Y.2.2.2.2.length ≤ 4096) (hI : SI none sk L τ0 τ) (hN : ∀ k, fN τ 0 k = fN τ0 0 k) : Sf sk L (SZ none sk L τ0 r 65536 (mpT Y)) (fun v => v = bI (decide (mpT Y ≤ 65536))) (f_Scribe_writeMap F c 1713 r (cH sk L τ)) := by
  have hlen := ((CV_X hC).2 ha).1.2.1
  unfold f_Scribe_writeMap
  rw [c_o (SI_row hI hr).1, bs]
  refine sz_x (sz_clear hI hN hr) (fun _ τ1 _ i1 => ?_)
  refine z_mp6 hF hC ha hr (fun τ2 i2 => ?_) Y.2.2.1.length 0 F τ1 (Nat.zero_add _) (by omega) i1
  unfold f_Scribe_writeMap_128
  exact z_mp130 hF hC ha hr hod Y.2.2.2.2.length 0 F τ2 (Nat.zero_add _) (by omega) i2
end CMPZ
section BMPZ
variable {F : Nat} {c : px_CT} {sk : Nat → Nat × Nat × Nat} {L : Nat} {own : Nat → Nat × Nat} {τ : px_TT} {σ : px_S} {fs : List (Nat × (Nat → Nat))} {gs : List (List Nat × Int64)} {ws : List (List Nat)} {n : Nat} {b : Nat → Nat} {a : Int32} {Y : px_Y} {k N : Nat}
/-- what the reference's map reads -/
theorem MPs_X (hC : CV sk L own τ fs gs ws n b a Y) (hX : RXo σ fs a Y) (ha : a = 0) : MPs σ Y.2.2.1.length Y.2.2.2.2.length (mpZ Y) (mpU Y) (fun p => (Y.2.2.1.getD p (0, 0, 0, 0, 0, 0)).2.2.2.1) (fun p => (Y.2.2.1.getD p (0, 0, 0, 0, 0, 0)).1) (fun p => (Y.2.2.1.getD p (0, 0, 0, 0, 0, 0)).2.1) (mpL Y) (fun i => Y.2.2.2.2.getD i 0) := by
  obtain ⟨⟨_, hlen, hps⟩, ⟨_, hnt⟩, _, _, hod2⟩ := (CV_X hC).2 ha
  obtain ⟨⟨k1, k2⟩, k3, _, k5, k6, k7⟩ := hX.2 ha
  refine ⟨⟨hlen, k1, fun p hp => ?_⟩, k6, k5, fun i hi => ?_⟩
  · have hx : Y.2.2.1[p]? = some Y.2.2.1[p] := List.getElem?_eq_getElem hp
    obtain ⟨b1, b2, b3, b4, b5⟩ := (hps p _ hx).1
    obtain ⟨g1, g2, g3, g4, g5, _⟩ := k2 p _ hx
    obtain ⟨em1, em2⟩ := mpZ_at hx
    rw [em1, em2]
    dsimp only
    rw [List.getD_eq_getElem?_getD, hx]
    exact ⟨g5, by omega, g3, by omega, g4, b4, g1, b1, g2, b2⟩
  · obtain ⟨dd, hd⟩ : ∃ dd, Y.2.2.2.2[i]? = some dd := ⟨_, List.getElem?_eq_getElem hi⟩
    obtain ⟨d1, _⟩ := hod2 i dd hd
    have hx : Y.2.2.2.1[dd]? = some Y.2.2.2.1[dd] := List.getElem?_eq_getElem d1
    have hxw : (Y.2.2.2.1.map Prod.fst)[dd]? = some Y.2.2.2.1[dd].1 := by rw [List.getElem?_map, hx]; rfl
    have e0 : Y.2.2.2.2.getD i 0 = dd := by rw [List.getD_eq_getElem?_getD, hd]; rfl
    have eL : mpL Y i = Y.2.2.2.1[dd].1.length := by
      unfold mpL
      rw [e0, List.getD_eq_getElem?_getD, hx]
      rfl
    obtain ⟨z1, z2, _⟩ := k3.2.2 dd _ hxw
    have hl := k3.2.1
    rw [List.length_map] at hl
    dsimp only
    rw [e0, eL]
    exact ⟨k7 i dd hd, by omega, z2, z1.1⟩
theorem Bx_map (hF : 65540 < F) (hC : CV sk L own τ fs gs ws n b a Y) (hR : RV σ fs gs ws n b a Y) (hm : RMk sk L (k + 210)) (hN : n + (fs.map Prod.fst).sum ≤ N) : BT RnI (fun ci σ => ci = 14 ∧ gI σ 0 = nI 1) sk L τ k N (f_H_map F c 0 (cH sk L τ)) (g_H_map F c 0 (cH sk L τ)) (fun h => f_M_map F 1726 (mh 1726 h σ)) := by
  have o0 := G0 hC.1
  have ea : fI τ 147 18 = a := hC.2.2.2.2.2.2.2.2.2.2
  have h13 : gI σ 13 = a := hR.2.2.2.2.2.2.2.2.1
  by_cases c0 : a = 0
  · have hM := MPs_X hC (RV_X hR) c0
    have hod : Y.2.2.2.2.length ≤ 4096 := hM.2.1
    obtain ⟨rd, A, hT, e2⟩ := CV_rd hC
    have orr := (SI_row (SI_self hC) hT).1
    obtain ⟨v, τ1, e1, hv, i1, z1, n1⟩ := z_map (F := F) (c := c) hF hC c0 hT hod (SI_self hC) (fun _ => rfl)
    have key : ∃ τ2, f_H_map F c 0 (cH sk L τ) = some (mpA (mpT Y), cH sk L τ2) ∧ SI none sk L τ τ2 := by
      unfold f_H_map
      rw [C0r11 o0 (GR_r (v := 147) hC.2.1 (by decide)), bs, C3g18 (G147 hC.1), bs, ea, if_pos c0, C0r15 o0 (GR_r (v := 1713) hC.2.1 (by decide)), bs, C0r2 o0 e2, bs, c_o (G1713 hC.1), bs, e1, xb_mk, hv]
      unfold mpA
      by_cases cT : mpT Y ≤ 65536
      · obtain ⟨τ2, e3, i2⟩ := z_publish (F := F) (c := c) hC i1 ((n1 2).trans e2) orr
        refine ⟨τ2, ?_, i2⟩
        rw [decide_eq_true cT, if_neg (show ¬ bI true = 0 by decide), if_pos cT, c_o o0, bs, e3, xb_mk, (z1.1 cT).1]
      · refine ⟨τ1, ?_, i1⟩
        rw [decide_eq_false cT, if_pos (show bI false = 0 from rfl), if_neg cT]
    obtain ⟨τ2, eC, i2⟩ := key
    refine ⟨fs, gs, ws, n, b, a, Y, hN, Or.inl ⟨_, sk, L, τ2, own, eC, EX_refl, K26_Z i2.1, RMk_le hm (by omega), CV_SI hC i2, fun h hl => ?_⟩⟩
    obtain ⟨w, σ', e3, hw, cc, hcc, hW, h00⟩ := (q_map (F := F) (h := h) hl hF hR.2.2.2.2.1).2 (h13.trans c0) hM
    exact ⟨w, σ', e3, RV_W hR ⟨cc, hcc, hW⟩, hw.symm, h00⟩
  · refine ⟨fs, gs, ws, n, b, a, Y, hN, Or.inr ⟨14, τ, own, ?_, K26_refl τ, RMk_le hm (by omega), hC, fun h hl => ⟨_, _, (q_map (F := F) (nS := 0) (nD := 0) (zf := id) (uf := id) (gf := id) (ff := id) (mf := id) (lf := id) (df := id) hl hF hR.2.2.2.2.1).1 (by rw [h13]; exact c0), RV_0 hR (FR_I _ _ _), rfl, rfl⟩⟩⟩
    unfold g_H_map
    rw [C0r11 o0 (GR_r (v := 147) hC.2.1 (by decide)), bs, C3g18 (G147 hC.1), bs, if_neg (by rw [ea]; exact c0)]
end BMPZ
end
section
/-! the reference's named: what it answers (steps spelled out by sf/pp.py) -/
section MNX
variable {F m : Nat} {h : px_H} {σ0 σ : px_S} {c e nD : Nat} {th : Nat → Bool} {lf df : Nat → Nat} {I : px_S → Prop}
theorem qx_put {α : Type} {V : α → Prop} {f : Unit → px_H → Option (α × px_H)} {q n : Nat} {v : Int64} (hm : m ≤ h.length) (hF : 65540 < F) (hI : OWx σ0 σ c) (hq : q + n ≤ 65536) (g : ∀ σ, OWx σ0 σ c → Sm m h I V (f () (mh m h σ))) : Sm m h I V ((xo (mh m h σ) 12 m).bind fun _ => xb (f_M_put F m (nI q) v (nI n) (mh m h σ)) f) := by
  obtain ⟨σ', e, w1, w2⟩ := q_put (F := F) (σ := σ) (at0 := q) (n := n) (v := v) hm (by omega) hq hI.1.2.2
  rw [e_o hm, bs, e, xb_mk]
  exact g σ' ⟨⟨FR_trans hI.1.1 (FR_mono w1 (by decide) (by decide) (by decide) (by decide)), (w1.1 4 List.not_mem_nil).trans hI.1.2.1, w2⟩, (w1.1 0 List.not_mem_nil).trans hI.2⟩
theorem qx_nseg {q i : Nat} (hm : m ≤ h.length) (hF : 65540 < F) (hq : q + 64 ≤ 65536) (hi3 : i < 3) (hI : OWx σ0 σ c) : Sm m h (fun σ' => OWx σ0 σ' c) Any (f_M_namedSegment F m (nI q) (nI i) (mh m h σ)) := by
  have f38 : ∀ {v : Int64} (σ : px_S), OWx σ0 σ c → Sm m h (fun σ' => OWx σ0 σ' c) Any (f_M_namedSegment_38 F m (nI q) (nI i) m (nI (q + 8)) v (mh m h σ)) := fun {v} σ hi => by
    unfold f_M_namedSegment_38
    refine qx_put hm hF hi (by omega) (fun σ hi => ?_)
    rw [Mr61 hm, bs, Ma61 hm hi3, bs, nI_add]
    refine qx_put hm hF hi (by omega) (fun σ hi => ?_)
    rw [Mr60 hm, bs, Ma60 hm hi3, bs, nI_add]
    refine qx_put hm hF hi (by omega) (fun σ hi => ?_)
    rw [Mr62 hm, bs, Ma62 hm hi3, bs, nI_add]
    refine qx_put hm hF hi (by omega) (fun σ hi => ?_)
    rw [nI_add]
    exact qx_put hm hF hi (by omega) (fun σ hi => sm_r any hi)
  unfold f_M_namedSegment
  rw [nI_add]
  refine qx_put hm hF hI (by omega) (fun σ hi => ?_)
  rw [nI_add]
  exact sm_i (fun _ => f38 σ hi) (fun _ => sm_i (fun _ => f38 σ hi) (fun _ => f38 σ hi))
theorem qx_nm443 {x1 x2 x3 x5 : Int32} {q4 : Nat} (hm : m ≤ h.length) (hF : 65540 < F) (hM : NMs σ0 e nD th lf df) (hq : q4 + 64 * (sgN th 3 + 3) ≤ 65536) (hc : c ≤ 65536) (hI : OWx σ0 σ c) : Sm m h (OWxe σ0) (fun v => v = x5) (f_M_named_443 F m x1 x2 x3 (nI q4) x5 (mh m h σ)) := by
  have h15 := (NMs_O hM hI.1).2.1.1
  generalize sgN th 3 = ns at *
  unfold f_M_named_443
  rw [Mg15 hm, bs, h15, nI_add, show nI 64 * nI (ns + 1) = nI (64 * (ns + 1)) from (Int32.ofNat_mul _ _).symm, nI_add]
  rw [nI_add]
  refine qx_put hm hF hI (by omega) (fun σ hi => ?_)
  rw [nI_add]
  refine qx_put hm hF hi (by omega) (fun σ hi => ?_)
  rw [Mg48 hm, bs, nI_add]
  refine qx_put hm hF hi (by omega) (fun σ hi => ?_)
  rw [Mg15 hm, bs, nI_add]
  refine qx_put hm hF hi (by omega) (fun σ hi => ?_)
  rw [nI_add]
  refine qx_put hm hF hi (by omega) (fun σ hi => ?_)
  rw [nI_add]
  refine qx_put hm hF hi (by omega) (fun σ hi => ?_)
  rw [nI_add]
  refine qx_put hm hF hi (by omega) (fun σ hi => ?_)
  rw [nI_add]
  refine qx_put hm hF hi (by omega) (fun σ hi => ?_)
  rw [nI_add]
  refine qx_put hm hF hi (by omega) (fun σ hi => ?_)
  rw [nI_add]
  refine qx_put hm hF hi (by omega) (fun σ hi => ?_)
  rw [nI_add]
  refine qx_put hm hF hi (by omega) (fun σ hi => ?_)
  refine qx_put (q := 40) (n := 8) hm hF hi (by decide) (fun σ hi => ?_)
  refine qx_put (q := 58) (n := 2) hm hF hi (by decide) (fun σ hi => ?_)
  rw [Mg15 hm, bs]
  refine qx_put (q := 60) (n := 2) hm hF hi (by decide) (fun σ hi => ?_)
  rw [Mg15 hm, bs]
  exact qx_put (q := 62) (n := 2) hm hF hi (by decide) (fun σ hi => sm_r rfl ⟨c, hc, hi⟩)
theorem qx_nm403 {x1 x2 x3 x5 : Int32} {q4 : Nat} (hm : m ≤ h.length) (hF : 65540 < F) (hM : NMs σ0 e nD th lf df) (hq : q4 + 64 * (sgN th 3 + 3) ≤ 65536) (hc : c ≤ 65536) : ∀ (d i f : Nat) (σ : px_S), i + d = 3 → d < f → OWx σ0 σ c → Sm m h (OWxe σ0) (fun v => v = x5) (f_M_named_403 F f m x1 x2 x3 (nI q4) x5 (nI i) (mh m h σ)) := by
  intro d
  induction d with
  | zero =>
    intro i f σ hi hf hI
    obtain ⟨f, rfl⟩ : ∃ y, f = y + 1 := ⟨f - 1, by omega⟩
    unfold f_M_named_403
    rw [if_pos (nI_le (by omega) (by omega))]
    exact qx_nm443 hm hF hM hq hc hI
  | succ d ih =>
    intro i f σ hi hf hI
    obtain ⟨f, rfl⟩ : ∃ y, f = y + 1 := ⟨f - 1, by omega⟩
    have hm59 := (NMs_O hM hI.1).2.1.2
    have hle := sgN_m (th := th) (show i + 1 ≤ 3 by omega)
    unfold f_M_named_403 f_M_named_437
    rw [if_neg (nI_ge (by omega) (by omega)), Mr59 hm, bs, Ma59 hm (by omega), bs, nI_add]
    refine sm_i (fun _ => ih _ _ _ (by omega) (by omega) hI) (fun _ => ?_)
    rw [e_o hm, bs, q_no hm (by omega) hm59 (by omega), xb_mk, show nI 64 * nI (sgN th (i + 1)) = nI (64 * sgN th (i + 1)) from (Int32.ofNat_mul _ _).symm, nI_add]
    exact sm_o hm (fun _ => sm_x (qx_nseg hm hF (by omega) (by omega) hI) (fun _ σ _ hi => ih _ _ _ (by omega) (by omega) hi))
theorem qx_nm340 {V : Int32 → Prop} {k167 : Nat → Int32 → Int32 → Int32 → Int32 → Int32 → Int32 → px_H → Option (Int32 × px_H)} {x2 x4 x5 : Int32} {x q3 i d' l : Nat} (hm : m ≤ h.length) (hd : d' < 4096) (e22 : gA σ0 22 d' = nI l) (hl : l ≤ 20) (hq : q3 + x + l ≤ 65536) (hx : x < 2 ^ 20) (hK : ∀ σ, OWx σ0 σ c → Sm m h I V (k167 m (nI (x + (l + 1))) x2 (nI q3) x4 x5 (nI (i + 1)) (mh m h σ))) : ∀ (d j f : Nat) (σ : px_S), j + d = l → d < f → OWx σ0 σ c → Sm m h I V (f_M_named_340 F k167 f m (nI x) x2 (nI q3) x4 x5 (nI i) (nI d') (nI j) (mh m h σ)) := by
  intro d
  induction d with
  | zero =>
    intro j f σ hj hf hI
    obtain ⟨f, rfl⟩ : ∃ y, f = y + 1 := ⟨f - 1, by omega⟩
    have g22 : gA σ 22 d' = nI l := by rw [hI.1.1.2.2.1 22 (by decide)]; exact e22
    unfold f_M_named_340 f_M_named_382
    rw [Mr22 hm, bs, Ma22 hm hd, bs, g22, if_pos (nI_le (by omega) (by omega)), bs, Ma22 hm hd, bs, g22, nI_add, nI_add, nI_add]
    exact hK σ hI
  | succ d ih =>
    intro j f σ hj hf hI
    obtain ⟨f, rfl⟩ : ∃ y, f = y + 1 := ⟨f - 1, by omega⟩
    have g22 : gA σ 22 d' = nI l := by rw [hI.1.1.2.2.1 22 (by decide)]; exact e22
    unfold f_M_named_340
    rw [Mr22 hm, bs, Ma22 hm hd, bs, g22, if_neg (nI_ge (by omega) (by omega)), Mr3 hm, bs, Mr21 hm, bs, show nI 20 * nI d' = nI (20 * d') from (Int32.ofNat_mul _ _).symm, nI_add, Ma21 hm (by omega), bs, nI_add, nI_add, nI_add]
    exact qx_w3 hm hI (by omega) (fun σ hi => ih _ _ _ (by omega) (by omega) hi)
theorem qx_nm297 {V : Int32 → Prop} {k167 : Nat → Int32 → Int32 → Int32 → Int32 → Int32 → Int32 → px_H → Option (Int32 × px_H)} {x2 x4 x5 : Int32} {v : Int64} {x q3 q8 i d' l : Nat} (hm : m ≤ h.length) (hF : 65540 < F) (hd : d' < 4096) (e22 : gA σ0 22 d' = nI l) (hl : l ≤ 20) (hq : q3 + x + l ≤ 65536) (hx : x < 2 ^ 20) (hq8 : q8 + 24 ≤ 65536) (hK : ∀ σ, OWx σ0 σ c → Sm m h I V (k167 m (nI (x + (l + 1))) x2 (nI q3) x4 x5 (nI (i + 1)) (mh m h σ))) (hI : OWx σ0 σ c) : Sm m h I V (f_M_named_297 F k167 m (nI x) x2 (nI q3) x4 x5 (nI i) (nI d') (nI q8) m (nI (q8 + 6)) v (mh m h σ)) := by
  unfold f_M_named_297
  refine qx_put hm hF hI (by omega) (fun σ hi => ?_)
  rw [Mr29 hm, bs, Ma29 hm hd, bs, nI_add]
  refine qx_put hm hF hi (by omega) (fun σ hi => ?_)
  rw [Mr41 hm, bs, Ma41 hm hd, bs, nI_add]
  refine qx_put hm hF hi (by omega) (fun σ hi => ?_)
  exact qx_nm340 hm hd e22 hl hq hx hK l 0 F σ (Nat.zero_add _) (by omega) hi
theorem qx_nm167 {x5 : Int32} {q2 q3 q4 TX : Nat} (hm : m ≤ h.length) (hF : 65540 < F) (hM : NMs σ0 e nD th lf df) (eTX : TX = 1 + sumT (fun i => lf i + 1) nD) (h2 : q2 + 24 * (nD + 1) ≤ 65536) (h3 : q3 + TX ≤ 65536) (hq : q4 + 64 * (sgN th 3 + 3) ≤ 65536) (hc : c ≤ 65536) : ∀ (d i f : Nat) (σ : px_S), i + d = nD → d < f → OWx σ0 σ c → Sm m h (OWxe σ0) (fun v => v = x5) (f_M_named_167 F f m (nI (1 + sumT (fun i => lf i + 1) i)) (nI q2) (nI q3) (nI q4) x5 (nI i) (mh m h σ)) := by
  have hN := hM.2.2.1
  intro d
  induction d with
  | zero =>
    intro i f σ hi hf hI
    obtain ⟨f, rfl⟩ : ∃ y, f = y + 1 := ⟨f - 1, by omega⟩
    unfold f_M_named_167 f_M_named_400
    rw [Mg48 hm, bs, (NMs_O hM hI.1).2.2.2.1, if_pos (nI_le (by omega) (by omega))]
    exact qx_nm403 hm hF hM hq hc 3 0 F σ rfl (by omega) hI
  | succ d ih =>
    intro i f σ hi hf hI
    obtain ⟨f, rfl⟩ : ∃ y, f = y + 1 := ⟨f - 1, by omega⟩
    have hMs := NMs_O hM hI.1
    obtain ⟨e49, hd, e22, hl, hok⟩ := hMs.2.2.2.2 i (by omega)
    have e22' := (hM.2.2.2.2 i (by omega)).2.2.1
    have hle := sumT_le (f := fun i => lf i + 1) (show i + 1 ≤ nD by omega)
    have es : sumT (fun i => lf i + 1) (i + 1) = sumT (fun i => lf i + 1) i + (lf i + 1) := rfl
    have go := fun σ hi => ih (i + 1) f σ (by omega) (by omega) hi
    rw [es, ← Nat.add_assoc] at go
    rw [es] at hle
    have h59 := hMs.2.1.2
    unfold f_M_named_167
    rw [Mg48 hm, bs, hMs.2.2.2.1, if_neg (nI_ge (by omega) (by omega)), Mr49 hm, bs, Ma49 hm (by omega), bs, e49, Mr39 hm, bs, Ma39 hm hd, bs, nI_add, show nI 24 * nI (i + 1) = nI (24 * (i + 1)) from (Int32.ofNat_mul _ _).symm, nI_add]
    generalize sumT (fun i => lf i + 1) i = S at *
    generalize sumT (fun i => lf i + 1) nD = SS at *
    have f240 : ∀ {s0 : Int32}, (s0 = 0 ∨ ∃ s, s < 3 ∧ gA σ 39 (df i) = nI s) → Sm m h (OWxe σ0) (fun v => v = x5) (f_M_named_240 F (f_M_named_167 F f) m (nI (1 + S)) (nI q2) (nI q3) (nI q4) x5 (nI i) (nI (df i)) (nI (q2 + 24 * (i + 1))) s0 (mh m h σ)) := fun {s0} hs => by
      unfold f_M_named_240
      refine qx_put hm hF hI (by omega) (fun σ1 hi1 => ?_)
      rw [Mr38 hm, bs, Ma38 hm hd, bs, nI_add]
      refine qx_put hm hF hi1 (by omega) (fun σ2 hi2 => ?_)
      rw [nI_add]
      have fin : ∀ {v : Int64}, Sm m h (OWxe σ0) (fun v => v = x5) (f_M_named_297 F (f_M_named_167 F f) m (nI (1 + S)) (nI q2) (nI q3) (nI q4) x5 (nI i) (nI (df i)) (nI (q2 + 24 * (i + 1))) m (nI (q2 + 24 * (i + 1) + 6)) v (mh m h σ2)) := fun {v} => qx_nm297 hm hF hd e22' hl (by omega) (by omega) (by omega) go hi2
      rcases hs with w | ⟨s, w1, w2⟩
      · rw [if_pos w]; exact fin
      · refine sm_i (fun _ => fin) (fun _ => ?_)
        have g39 : gA σ2 39 (df i) = nI s := by rw [hi2.1.1.2.2.1 39 (by decide), ← hI.1.1.2.2.1 39 (by decide)]; exact w2
        rw [Mr39 hm, bs, Ma39 hm hd, bs, g39, e_o hm, bs, q_no hm (by omega) (NMs_O hM hi2.1).2.1.2 w1, xb_mk]
        exact fin
    obtain ⟨o, eo, ho⟩ := hok
    cases o with
    | none =>
      rw [eo, if_pos (show tdA none < 0 by decide)]
      unfold f_M_named_239
      exact f240 (Or.inl rfl)
    | some s =>
      have hs3 := ho s rfl
      have eo' : gA σ 39 (df i) = nI s := eo
      rw [eo', if_neg (show ¬ nI s < 0 from fun w => absurd w (Int32.not_lt.mpr (nI_0le (by omega)))), Mr59 hm, bs, bs, Ma39 hm hd, bs, eo', if_pos (nI_0le (by omega)), bs, Ma39 hm hd, bs, eo']
      unfold f_M_named_231 f_M_named_239
      rw [Ma59 hm hs3, bs]
      exact sm_i (fun _ => f240 (Or.inl rfl)) (fun _ => f240 (Or.inr ⟨s, hs3, eo'⟩))
theorem qx_nm116 {q2 q3 q4 q5 TX : Nat} (hm : m ≤ h.length) (hF : 65540 < F) (hM : NMs σ0 e nD th lf df) (eTX : TX = 1 + sumT (fun i => lf i + 1) nD) (h2 : q2 + 24 * (nD + 1) ≤ 65536) (h3 : q3 + TX ≤ 65536) (hq : q4 + 64 * (sgN th 3 + 3) ≤ 65536) (h5 : q5 ≤ 65536) : ∀ (d j f : Nat) (σ : px_S), j + d = q5 → d < f → OWx σ0 σ c → Sm m h (OWxe σ0) (fun v => v = nI q5) (f_M_named_116 F f m (nI q2) (nI q3) (nI q4) (nI q5) (nI j) (mh m h σ)) := by
  have hN := hM.2.2.1
  intro d
  induction d with
  | zero =>
    intro j f σ hj hf hI
    obtain ⟨f, rfl⟩ : ∃ y, f = y + 1 := ⟨f - 1, by omega⟩
    unfold f_M_named_116 f_M_named_156
    rw [if_pos (nI_le (by omega) (by omega))]
    refine qx_p4 hm hI (fun σ hi => ?_)
    exact qx_nm167 hm hF hM eTX h2 h3 hq h5 nD 0 F σ (Nat.zero_add _) (by omega) hi
  | succ d ih =>
    intro j f σ hj hf hI
    obtain ⟨f, rfl⟩ : ∃ y, f = y + 1 := ⟨f - 1, by omega⟩
    unfold f_M_named_116 f_M_named_149
    rw [if_neg (nI_ge (by omega) (by omega)), Mr3 hm, bs, Mg43 hm, bs, nI_add]
    refine sm_i (fun _ => ?_) (fun _ => ?_)
    · exact qx_w3 hm hI (by omega) (fun σ hi => ih _ _ _ (by omega) (by omega) hi)
    · rw [Mr42 hm, bs, Ma42 hm (by omega), bs]
      exact qx_w3 hm hI (by omega) (fun σ hi => ih _ _ _ (by omega) (by omega) hi)
theorem qx_nm26 (hm : m ≤ h.length) (hF : 65540 < F) (hM : NMs σ0 e nD th lf df) (hc : c ≤ 65536) (hI : OWx σ0 σ c) : ∀ (d i f : Nat), i + d = nD → d < f → Sm m h (OWxe σ0) (fun v => v = mpA (wiN (wiN (wiN e + 24 * (nD + 1)) + (1 + sumT (fun i => lf i + 1) nD)) + 64 * (sgN th 3 + 3))) (f_M_named_26 F f m (nI (1 + sumT (fun i => lf i + 1) i)) (nI i) (mh m h σ)) := by
  have hMs := NMs_O hM hI.1
  have hN := hM.2.2.1
  have he := hM.1.1
  have hsg := sgN_le (th := th) 3
  intro d
  induction d with
  | zero =>
    intro i f hi hf
    obtain ⟨f, rfl⟩ : ∃ y, f = y + 1 := ⟨f - 1, by omega⟩
    obtain rfl : i = nD := by omega
    have hB := sumT_b' (f := fun i => lf i + 1) (k := 21) (n := i) (fun j hj => by have := (hM.2.2.2.2 j hj).2.2.2.1; show lf j + 1 ≤ 21; omega)
    obtain ⟨TX, eTX⟩ : ∃ TX, TX = 1 + sumT (fun i => lf i + 1) i := ⟨_, rfl⟩
    unfold f_M_named_26 f_M_named_56
    rw [Mg48 hm, bs, hMs.2.2.2.1, if_pos (nI_le (by omega) (by omega)), Mg43 hm, bs, hMs.1.2, e_o hm, bs, q_wider8 (by omega), xb_mk, Mg48 hm, bs, hMs.2.2.2.1, nI_add, show nI 24 * nI (i + 1) = nI (24 * (i + 1)) from (Int32.ofNat_mul _ _).symm, nI_add]
    have w1 := wiN_b e
    generalize wiN e = W1 at *
    rw [e_o hm, bs, q_wider8 (by omega), xb_mk]
    have w2 := wiN_b (W1 + 24 * (i + 1))
    generalize wiN (W1 + 24 * (i + 1)) = W2 at *
    rw [← eTX, nI_add, e_o hm, bs, q_wider8 (by omega), xb_mk]
    have w3 := wiN_b (W2 + TX)
    generalize wiN (W2 + TX) = W3 at *
    rw [Mg15 hm, bs, hMs.2.1.1, nI_add, show nI 64 * nI (sgN th 3 + 3) = nI (64 * (sgN th 3 + 3)) from (Int32.ofNat_mul _ _).symm, nI_add]
    by_cases hT : W3 + 64 * (sgN th 3 + 3) ≤ 65536
    · rw [if_pos (show nI (W3 + 64 * (sgN th 3 + 3)) ≤ (65536 : Int32) from nI_le hT (by decide))]
      have eA : mpA (W3 + 64 * (sgN th 3 + 3)) = nI (W3 + 64 * (sgN th 3 + 3)) := if_pos hT
      rw [eA]
      exact qx_nm116 hm hF hM eTX (by omega) (by omega) hT hT _ 0 F σ (Nat.zero_add _) (by omega) hI
    · rw [if_neg (show ¬ nI (W3 + 64 * (sgN th 3 + 3)) ≤ (65536 : Int32) from nI_ge (a := 65536) (by omega) (by omega))]
      exact sm_r (if_neg hT).symm ⟨c, hc, hI⟩
  | succ d ih =>
    intro i f hi hf
    obtain ⟨f, rfl⟩ : ∃ y, f = y + 1 := ⟨f - 1, by omega⟩
    obtain ⟨e49, hd, e22, hl, _⟩ := hMs.2.2.2.2 i (by omega)
    have es : sumT (fun i => lf i + 1) (i + 1) = sumT (fun i => lf i + 1) i + (lf i + 1) := rfl
    have go := ih (i + 1) f (by omega) (by omega)
    rw [es, ← Nat.add_assoc 1 (sumT (fun i => lf i + 1) i) (lf i + 1)] at go
    unfold f_M_named_26
    rw [Mg48 hm, bs, hMs.2.2.2.1, if_neg (nI_ge (by omega) (by omega)), Mr22 hm, bs, Mr49 hm, bs, Ma49 hm (by omega), bs, e49, Ma22 hm hd, bs, e22, nI_add, nI_add, nI_add]
    exact go
theorem q_named (hm : m ≤ h.length) (hF : 65540 < F) (ho : OUo σ) : (¬ gI σ 13 = 0 → f_M_named F m (mh m h σ) = some (nI 0, mh m h (sI σ 0 (nI 1)))) ∧ (gI σ 13 = 0 → NMs σ e nD th lf df → Sm m h (OWxe σ) (fun v => v = mpA (wiN (wiN (wiN e + 24 * (nD + 1)) + (1 + sumT (fun i => lf i + 1) nD)) + 64 * (sgN th 3 + 3))) (f_M_named F m (mh m h σ))) := by
  have th1 : f_M_throwing F m (nI 1) (nI 0) (mh m h σ) = some (nI 1, mh m h (sI σ 0 (nI 1))) := q_throwing hm true false
  have th0 : f_M_throwing F m (nI 0) (nI 0) (mh m h σ) = some (nI 0, mh m h (sI σ 0 (nI 0))) := q_throwing hm false false
  refine ⟨fun h13 => ?_, fun h13 hM => ?_⟩
  · unfold f_M_named f_M_named_13
    rw [Mg13 hm, bs, if_neg h13, e_o hm, bs, th1, xb_mk, if_neg (by decide)]
  · unfold f_M_named f_M_named_13
    rw [Mg13 hm, bs, if_pos h13, e_o hm, bs, th0, xb_mk, if_pos (show (nI 0 : Int32) = 0 from rfl)]
    have hN := hM.2.2.1
    obtain ⟨co, hco, hO⟩ := OWe_0 ho (FR_I σ 0 (nI 0))
    exact qx_nm26 hm hF hM hco ⟨hO, by rw [gI_sI, if_pos rfl]⟩ nD 0 F (Nat.zero_add _) (by omega)
end MNX
end
section
/-! named: class and reference answer alike (steps spelled out by sf/pp.py) -/
section CNZ
variable {F : Nat} {c : px_CT} {sk : Nat → Nat × Nat × Nat} {L : Nat} {r A n : Nat}
theorem k_set_3Z {v : Int64} {k : Nat} {p : Int32} (hk : k < 2 ^ 31) : ∀ (d j f : Nat) (τ : px_TT), j + d = k → d < f → rowOK sk L τ r A n → ∃ τ', f_Row_set_3 F c f r p (nI k) v (nI j) (cH sk L τ) = some ((), cH sk L τ') ∧ rowOK sk L τ' r A n ∧ frRw r A τ τ' ∧ ∀ a k, fI τ' a k = fI τ a k := by
  intro d
  induction d with
  | zero =>
    intro j f τ hj hf h
    obtain ⟨f, rfl⟩ : ∃ x, f = x + 1 := ⟨f - 1, by omega⟩
    refine ⟨τ, ?_, h, frRw_refl, fun _ _ => rfl⟩
    unfold f_Row_set_3 f_Row_set_51
    rw [if_pos (nI_le (by omega) (by omega))]
  | succ d ih =>
    intro j f τ hj hf h
    obtain ⟨f, rfl⟩ : ∃ x, f = x + 1 := ⟨f - 1, by omega⟩
    obtain ⟨z, hz, ez⟩ := h.2.2.2.2.1
    have hn := h.2.2.1
    unfold f_Row_set_3 f_Row_set_45
    rw [if_neg (nI_ge (by omega) (by omega)), nI_add]
    by_cases c0 : p + nI j < 0
    · obtain ⟨τ', g1, g2, g3, g4⟩ := ih (j + 1) f τ (by omega) (by omega) h
      refine ⟨τ', ?_, g2, g3, g4⟩
      rw [if_pos c0]; exact g1
    · rw [if_neg c0, C10g1 h.1, bs, ez]
      obtain ⟨i, hi, ei⟩ := nI_of c0
      by_cases c1 : z ≤ i
      · obtain ⟨τ', g1, g2, g3, g4⟩ := ih (j + 1) f τ (by omega) (by omega) h
        refine ⟨τ', ?_, g2, g3, g4⟩
        rw [ei, if_pos (nI_le c1 hi)]; exact g1
      · have h1 := rowOK_v (g := upd (eI τ A) i (bV v j)) h (upd_B h.2.2.2.2.2.2 (isB_8 _))
        obtain ⟨τ', g1, g2, g3, g4⟩ := ih (j + 1) f _ (by omega) (by omega) h1
        refine ⟨τ', ?_, g2, frRw_trans frRw_v g3, fun a k => g4 a k⟩
        rw [ei, if_neg (nI_ge (by omega) (by omega)), C10r0 h.1 h.2.2.2.1, bs, c_sI h.2.1 (Or.inl rfl) (by omega) (by omega), bs]
        exact g1
theorem k_setZ {τ : px_TT} {v : Int64} {k : Nat} {p : Int32} (hF : k < F) (hk : k < 2 ^ 31) (h : rowOK sk L τ r A n) : ∃ τ', f_Row_set F c r p (nI k) v (cH sk L τ) = some ((), cH sk L τ') ∧ rowOK sk L τ' r A n ∧ frRw r A τ τ' ∧ ∀ a k, fI τ' a k = fI τ a k := k_set_3Z hk k 0 F τ (Nat.zero_add _) hF h
theorem k_fill0Z {τ : px_TT} {e cc : Nat} {w : Int32} (hF : 65536 < F) (he : e < 2 ^ 62) (h : rowOK sk L τ r A n) (hz : rz τ r n cc) (hx : cc ≤ n → e = cc) : ∃ τ', f_Row_fillTo F c r (lN e) w (cH sk L τ) = some ((), cH sk L τ') ∧ rowOK sk L τ' r A n ∧ frRw r A τ τ' ∧ rz τ' r n cc := by
  have hn := h.2.2.1
  unfold f_Row_fillTo
  rw [C10r0 h.1 h.2.2.2.1, bs, c_l h.2.1 (by decide), bs]
  by_cases c1 : lN e ≤ (nI n).toInt64
  · rw [if_pos c1]
    rw [nI_l (by omega)] at c1
    have c1' : e ≤ n := (pk_lLE (by omega) (by omega)).mp c1
    obtain ⟨τ', g1, g2, g3, g4, g5⟩ := k_fillTo_16Z (F := F) (c := c) (e := e) (w := w) hF he h
    refine ⟨τ', g1, g2, g3, fun q => ?_, fun q => g4.trans (hz.2 q)⟩
    have ee := hx q
    exact ⟨by rw [g5 cc (by omega) c1' (hz.1 q).1, ee], g4.trans (hz.1 q).2⟩
  · obtain ⟨τ', g1, g2, g3, g4, g5⟩ := k_fillTo_16Z (F := F) (c := c) (e := e) (w := w) hF he (rowOK_2 (b := true) h)
    refine ⟨τ', ?_, g2, frRw_trans frRw_2 g3, fun q => ?_, fun _ => g4.trans tI_at⟩
    · rw [if_neg c1, show (nI 1 : Int32) = bI true from rfl, C10z2 h.1, bs]
      exact g1
    · exfalso
      have ee := hx q
      refine c1 ?_
      rw [nI_l (by omega)]
      exact (pk_lLE (by omega) (by omega)).mpr (by omega)
end CNZ
theorem up8 (z : Nat) : upN z (2 ^ 3) = wiN z := by
  show (z + 8 - 1) / 8 * 8 = (z + 7) / 8 * 8
  omega
section CNY
variable {F : Nat} {c : px_CT} {sk : Nat → Nat × Nat × Nat} {L : Nat} {zb : Option Nat} {τ0 τ : px_TT} {r A n cc U : Nat}
theorem sz_set {v : Int64} {k : Nat} {p : Int32} (hF : 65540 < F) (hr : TRw r A n) (hk : k ≤ 8) (hI : SZ zb sk L τ0 r n cc τ) : Sf sk L (SZ zb sk L τ0 r n cc) Any (f_Row_set F c r p (nI k) v (cH sk L τ)) := by
  obtain ⟨τ', e, h1, h2, h3⟩ := k_setZ (F := F) (c := c) (v := v) (k := k) (p := p) (by omega) (by omega) (SI_row hI.1 hr)
  exact sz_Rw hI.1 hI.2.2 hr ⟨τ', e, h1, h2, rz_fr hI.2.1 (fun k => h3 r k)⟩
theorem sz_next (hF : 65540 < F) (hr : TRw r A n) (hI : SZ zb sk L τ0 r n cc τ) : Sf sk L (SZ zb sk L τ0 r n (wiN cc)) Any (f_Scribe_nextPlace F c r (cH sk L τ)) := by
  have hro := SI_row hI.1 hr
  obtain ⟨z, hz, ez⟩ := hro.2.2.2.2.1
  have hn := hro.2.2.1
  have hu := wiN_b z
  have hw := wiN_b cc
  have ex : cc ≤ n → wiN z = wiN cc := fun q => by rw [rz_z hI.2.1 hn hz ez q]
  have key : Sf sk L (SZ zb sk L τ0 r n (wiN cc)) Any (f_Row_fillTo F c r (lN (wiN z)) (nI 0) (cH sk L τ)) := by
    by_cases ce : wiN cc = cc
    · have h := sz_Rw hI.1 hI.2.2 hr (k_fill0Z (F := F) (c := c) (e := wiN z) (cc := cc) (w := nI 0) (by omega) (by omega) hro hI.2.1 (fun q => (ex q).trans ce))
      rw [ce]
      exact h
    · have h := sz_Rw hI.1 hI.2.2 hr (k_fillToZ (F := F) (c := c) (e := wiN z) (cc := cc) (k := wiN cc - cc) (w := nI 0) (by omega) (by omega) hro hI.2.1 (by omega) (fun q => by rw [ex q]; omega))
      rw [show cc + (wiN cc - cc) = wiN cc by omega] at h
      exact h
  unfold f_Scribe_nextPlace
  rw [C10g1 hro.1, bs, ez, nI_l (by omega), show (8 : Int64) = lN (2 ^ 3) from rfl, k_up (by decide) (by omega), xb_mk, c_o hro.1, bs, up8]
  refine sz_x key (fun _ τ1 _ i1 => ?_)
  rw [C10g1 hro.1, bs]
  exact sf_r any i1
theorem sz_putSym {a1 a2 a3 : Int32} {a4 a6 : Int64} (hF : 65540 < F) (hr : TRw r A n) (hI : SZ zb sk L τ0 r n cc τ) : Sf sk L (SZ zb sk L τ0 r n (cc + 24)) Any (f_Scribe_putSymbol F c r a1 a2 a3 a4 a6 (cH sk L τ)) := by
  have orr := (SI_row hI.1 hr).1
  unfold f_Scribe_putSymbol
  rw [c_o orr, bs]
  refine sz_x (sz_put hF hr (by decide) hI) (fun _ τ1 _ i1 => ?_)
  rw [c_o orr, bs]
  refine sz_x (sz_put hF hr (by decide) i1) (fun _ τ2 _ i2 => ?_)
  rw [c_o orr, bs]
  refine sz_x (sz_put hF hr (by decide) i2) (fun _ τ3 _ i3 => ?_)
  rw [c_o orr, bs]
  refine sz_x (sz_put hF hr (by decide) i3) (fun _ τ4 _ i4 => ?_)
  rw [c_o orr, bs]
  refine sz_x (sz_put hF hr (by decide) i4) (fun _ τ5 _ i5 => ?_)
  rw [c_o orr, bs]
  refine sz_x (sz_put hF hr (by decide) i5) (fun _ τ6 _ i6 => ?_)
  exact sf_r any i6
/-- .. and U bytes into the rows of sections -/
def SW (zb : Option Nat) (sk : Nat → Nat × Nat × Nat) (L : Nat) (τ0 : px_TT) (r n cc U : Nat) (τ : px_TT) : Prop := SZ zb sk L τ0 r n cc τ ∧ rz τ 1714 1536 U
theorem T14 : TRw 1714 1715 1536 := Or.inr (Or.inr (Or.inl ⟨rfl, rfl, rfl⟩))
theorem sw_Rw {β : Type} {m : Option (β × px_H)} {v : β} (hI : SZ zb sk L τ0 r n cc τ) (hr : r ≠ 1714) (h : ∃ τ', m = some (v, cH sk L τ') ∧ rowOK sk L τ' 1714 1715 1536 ∧ frRw 1714 1715 τ τ' ∧ rz τ' 1714 1536 U) : Sf sk L (SW zb sk L τ0 r n cc U) Any m := by
  obtain ⟨τ', e, h1, h2, h3⟩ := h
  exact ⟨v, τ', e, any, ⟨SI_Rw hI.1 T14 h2 h1, rz_fr hI.2.1 (fun k => h2.1 r k (Or.inl hr)), fun k => (h2.2.2.1 0 k).trans (hI.2.2 k)⟩, h3⟩
theorem sw_put {v : Int64} {k : Nat} (hF : 65540 < F) (hr : r ≠ 1714) (hk : k ≤ 8) (hI : SW zb sk L τ0 r n cc U τ) : Sf sk L (SW zb sk L τ0 r n cc (U + k)) Any (f_Row_put F c 1714 (nI k) v (cH sk L τ)) := sw_Rw hI.1 hr (k_putZ (by omega) (by omega) (SI_row hI.1.1 T14) hI.2)
theorem sw_putRow {a1 a3 a5 a7 : Int64} {a9 a10 : Int32} (h0 : S0 sk L τ0) (hF : 65540 < F) (hr : r ≠ 1714) (hI : SW zb sk L τ0 r n cc U τ) : Sf sk L (SW zb sk L τ0 r n cc (U + 48)) Any (f_Scribe_putRow F c 1713 a1 a3 a5 a7 a9 a10 (cH sk L τ)) := by
  have o13 := G1713 h0.1
  have orr := (SI_row hI.1.1 T14).1
  have rd : ∀ τ, SI zb sk L τ0 τ → fN τ 1713 3 = some 1714 := fun τ i => GR_r (GR_Z h0.2.1 i.1) (by decide)
  unfold f_Scribe_putRow
  rw [C11r3 o13 (rd _ hI.1.1), bs, c_o orr, bs]
  refine sz_x (sw_put hF hr (by decide) hI) (fun _ τ1 _ i1 => ?_)
  rw [C11r3 o13 (rd _ i1.1.1), bs, c_o orr, bs]
  refine sz_x (sw_put hF hr (by decide) i1) (fun _ τ2 _ i2 => ?_)
  rw [C11r3 o13 (rd _ i2.1.1), bs, c_o orr, bs]
  refine sz_x (sw_put hF hr (by decide) i2) (fun _ τ3 _ i3 => ?_)
  rw [C11r3 o13 (rd _ i3.1.1), bs, c_o orr, bs]
  refine sz_x (sw_put hF hr (by decide) i3) (fun _ τ4 _ i4 => ?_)
  rw [C11r3 o13 (rd _ i4.1.1), bs, c_o orr, bs]
  refine sz_x (sw_put hF hr (by decide) i4) (fun _ τ5 _ i5 => ?_)
  rw [C11r3 o13 (rd _ i5.1.1), bs, c_o orr, bs]
  refine sz_x (sw_put hF hr (by decide) i5) (fun _ τ6 _ i6 => ?_)
  rw [C11r3 o13 (rd _ i6.1.1), bs, c_o orr, bs]
  refine sz_x (sw_put hF hr (by decide) i6) (fun _ τ7 _ i7 => ?_)
  rw [C11r3 o13 (rd _ i7.1.1), bs, c_o orr, bs]
  refine sz_x (sw_put hF hr (by decide) i7) (fun _ τ8 _ i8 => ?_)
  exact sf_r any i8
theorem sw_endRow {a1 : Int64} {a3 : Int32} (h0 : S0 sk L τ0) (hF : 65540 < F) (hr : r ≠ 1714) (hI : SW zb sk L τ0 r n cc U τ) : Sf sk L (SW zb sk L τ0 r n cc (U + 16)) Any (f_Scribe_endRow F c 1713 a1 a3 (cH sk L τ)) := by
  have o13 := G1713 h0.1
  have orr := (SI_row hI.1.1 T14).1
  have rd : ∀ τ, SI zb sk L τ0 τ → fN τ 1713 3 = some 1714 := fun τ i => GR_r (GR_Z h0.2.1 i.1) (by decide)
  unfold f_Scribe_endRow
  rw [C11r3 o13 (rd _ hI.1.1), bs, c_o orr, bs]
  refine sz_x (sw_put hF hr (by decide) hI) (fun _ τ1 _ i1 => ?_)
  rw [C11r3 o13 (rd _ i1.1.1), bs, c_o orr, bs]
  refine sz_x (sw_put hF hr (by decide) i1) (fun _ τ2 _ i2 => ?_)
  exact sf_r any i2
/-- rowOf only reads -/
theorem so_ro_108 {s : Nat} (h0 : S0 sk L τ0) (hF : 65540 < F) (hs : s < 3) (hI : SI zb sk L τ0 τ) : ∀ (d j f : Nat) (a5 : Int32), j + d = s → d < f → Sf sk L (fun τ' => τ' = τ) Any (f_Scribe_rowOf_108 F c f 1713 (nI s) a5 (nI j) (cH sk L τ)) := by
  intro d
  induction d with
  | zero =>
    intro j f a5 hj hf
    obtain ⟨f, rfl⟩ : ∃ y, f = y + 1 := ⟨f - 1, by omega⟩
    unfold f_Scribe_rowOf_108 f_Scribe_rowOf_144
    rw [if_pos (nI_le (by omega) (by omega))]
    exact sf_r any rfl
  | succ d ih =>
    intro j f a5 hj hf
    obtain ⟨f, rfl⟩ : ∃ y, f = y + 1 := ⟨f - 1, by omega⟩
    unfold f_Scribe_rowOf_108 f_Scribe_rowOf_144 f_Scribe_rowOf_135
    rw [nI_add]
    repeat' (first | (exact sf_r any rfl) | ((with_reducible refine sf_aIF h0 ?_ (by with_unfolding_all exact rfl) ?_ ?_ ?_ (fun m hm em => ?_)); decide; decide; decide; exact ⟨j, by omega, rfl⟩) | (exact ih _ _ _ (by omega) (by omega)) | exact absurd (show nI 0 = 0 from rfl) (by assumption) | exact absurd (show nI 1 = 0 by assumption) (by decide) | ((with_reducible refine sf_i (fun hc => ?_) (fun hc => ?_))) | ((with_reducible refine sf_gF h0 ?_ ?_ ?_ ?_ ?_); decide; decide; decide; decide) | ((with_reducible refine sf_gI ?_ ?_ ?_ ?_); (first | assumption | exact GS_o h0.1 (by decide) (by decide) | exact RRd_o h0 (by assumption) | exact RRd_o h0 (Or.inr (by assumption)) | exact OBq_o h0 (by assumption) | exact OBq_o h0 (Obt_q (by assumption)) | exact G_part h0.1 (by assumption) | exact Nmo_o (by assumption)); decide; decide) | ((with_reducible refine sf_gJ ?_ ?_ ?_ ?_); (first | assumption | exact GS_o h0.1 (by decide) (by decide) | exact RRd_o h0 (by assumption) | exact RRd_o h0 (Or.inr (by assumption)) | exact OBq_o h0 (by assumption) | exact OBq_o h0 (Obt_q (by assumption)) | exact G_part h0.1 (by assumption) | exact Nmo_o (by assumption)); decide; decide) | ((with_reducible refine sf_gN ?_ ?_ ?_ ?_); (first | assumption | exact GS_o h0.1 (by decide) (by decide) | exact RRd_o h0 (by assumption) | exact RRd_o h0 (Or.inr (by assumption)) | exact OBq_o h0 (by assumption) | exact OBq_o h0 (Obt_q (by assumption)) | exact G_part h0.1 (by assumption) | exact Nmo_o (by assumption)); decide; decide) | ((with_reducible refine sf_gG h0 (by assumption) ?_ ?_ ?_ ?_ (by with_unfolding_all exact rfl) ?_); decide; decide; decide; decide) | ((with_reducible refine sf_o ?_ (fun l => ?_)); (first | assumption | exact GS_o h0.1 (by decide) (by decide) | exact RRd_o h0 (by assumption) | exact RRd_o h0 (Or.inr (by assumption)) | exact OBq_o h0 (by assumption) | exact OBq_o h0 (Obt_q (by assumption)) | exact G_part h0.1 (by assumption) | exact Nmo_o (by assumption))) | ((with_reducible refine sf_s ?_)) | ((with_reducible refine sf_sb (by assumption) ?_)) | ((with_reducible refine sf_r ?_ ?_); (first | exact any | assumption | exact ⟨false, rfl⟩ | exact ⟨true, rfl⟩); assumption) | ((with_reducible refine sf_z ?_ ?_ ?_); (first | exact ⟨false, rfl⟩ | exact ⟨true, rfl⟩ | assumption); (first | exact any | exact ⟨false, rfl⟩ | exact ⟨true, rfl⟩ | assumption); assumption))
theorem so_ro_83 {s : Nat} (h0 : S0 sk L τ0) (hF : 65540 < F) (hs : s < 3) (hI : SI zb sk L τ0 τ) : Sf sk L (fun τ' => τ' = τ) Any (f_Scribe_rowOf_83 F c 1713 (nI s) (cH sk L τ)) := by
  unfold f_Scribe_rowOf_83
  repeat' (first | (exact sf_r any rfl) | ((with_reducible refine sf_aIF h0 ?_ (by with_unfolding_all exact rfl) ?_ ?_ ?_ (fun m hm em => ?_)); decide; decide; decide; exact ⟨s, by omega, rfl⟩) | (exact so_ro_108 h0 hF hs hI _ 0 F _ (Nat.zero_add _) (by omega)) | exact absurd (show nI 0 = 0 from rfl) (by assumption) | exact absurd (show nI 1 = 0 by assumption) (by decide) | ((with_reducible refine sf_i (fun hc => ?_) (fun hc => ?_))) | ((with_reducible refine sf_gF h0 ?_ ?_ ?_ ?_ ?_); decide; decide; decide; decide) | ((with_reducible refine sf_gI ?_ ?_ ?_ ?_); (first | assumption | exact GS_o h0.1 (by decide) (by decide) | exact RRd_o h0 (by assumption) | exact RRd_o h0 (Or.inr (by assumption)) | exact OBq_o h0 (by assumption) | exact OBq_o h0 (Obt_q (by assumption)) | exact G_part h0.1 (by assumption) | exact Nmo_o (by assumption)); decide; decide) | ((with_reducible refine sf_gJ ?_ ?_ ?_ ?_); (first | assumption | exact GS_o h0.1 (by decide) (by decide) | exact RRd_o h0 (by assumption) | exact RRd_o h0 (Or.inr (by assumption)) | exact OBq_o h0 (by assumption) | exact OBq_o h0 (Obt_q (by assumption)) | exact G_part h0.1 (by assumption) | exact Nmo_o (by assumption)); decide; decide) | ((with_reducible refine sf_gN ?_ ?_ ?_ ?_); (first | assumption | exact GS_o h0.1 (by decide) (by decide) | exact RRd_o h0 (by assumption) | exact RRd_o h0 (Or.inr (by assumption)) | exact OBq_o h0 (by assumption) | exact OBq_o h0 (Obt_q (by assumption)) | exact G_part h0.1 (by assumption) | exact Nmo_o (by assumption)); decide; decide) | ((with_reducible refine sf_gG h0 (by assumption) ?_ ?_ ?_ ?_ (by with_unfolding_all exact rfl) ?_); decide; decide; decide; decide) | ((with_reducible refine sf_o ?_ (fun l => ?_)); (first | assumption | exact GS_o h0.1 (by decide) (by decide) | exact RRd_o h0 (by assumption) | exact RRd_o h0 (Or.inr (by assumption)) | exact OBq_o h0 (by assumption) | exact OBq_o h0 (Obt_q (by assumption)) | exact G_part h0.1 (by assumption) | exact Nmo_o (by assumption))) | ((with_reducible refine sf_s ?_)) | ((with_reducible refine sf_sb (by assumption) ?_)) | ((with_reducible refine sf_r ?_ ?_); (first | exact any | assumption | exact ⟨false, rfl⟩ | exact ⟨true, rfl⟩); assumption) | ((with_reducible refine sf_z ?_ ?_ ?_); (first | exact ⟨false, rfl⟩ | exact ⟨true, rfl⟩ | assumption); (first | exact any | exact ⟨false, rfl⟩ | exact ⟨true, rfl⟩ | assumption); assumption))
theorem so_rowOf {p : Nat} (h0 : S0 sk L τ0) (hK : KT c) (hF : 65540 < F) (hn : Nmo sk L τ0 p) (hI : SI zb sk L τ0 τ) : Sf sk L (fun τ' => τ' = τ) Any (f_Scribe_rowOf F c 1713 (some p) (cH sk L τ)) := by
  have ho := hn.2.1
  unfold f_Scribe_rowOf f_Scribe_rowOf_29 f_Scribe_rowOf_30 f_Scribe_rowOf_50 f_Scribe_rowOf_51 f_Scribe_rowOf_64
  by_cases h5 : fI τ p 5 = nI 1
  · obtain ⟨x, hx, e6⟩ := Nmo_6 hI hn h5
    have key : ∀ {α : Type} {V : α → Prop} {f : Option Nat → Option (α × px_H)}, Sf sk L (fun τ' => τ' = τ) V (f (some (152 + x))) → Sf sk L (fun τ' => τ' = τ) V ((xgN (cH sk L τ) 5 6 p).bind f) := fun g => by
      rw [C5n6 ho, bs, e6]; exact g
    repeat' (first | (exact sf_r any rfl) | ((with_reducible refine key ?_)) | ((with_reducible refine sx_segOf hK ?_ (fun s hs => ?_)); exact G_part h0.1 hx) | (exact so_ro_83 h0 hF (by assumption) hI) | (exact so_ro_83 (s := 2) h0 hF (by decide) hI) | exact absurd (show nI 0 = 0 from rfl) (by assumption) | exact absurd (show nI 1 = 0 by assumption) (by decide) | ((with_reducible refine sf_i (fun hc => ?_) (fun hc => ?_))) | ((with_reducible refine sf_gF h0 ?_ ?_ ?_ ?_ ?_); decide; decide; decide; decide) | ((with_reducible refine sf_gI ?_ ?_ ?_ ?_); (first | assumption | exact GS_o h0.1 (by decide) (by decide) | exact RRd_o h0 (by assumption) | exact RRd_o h0 (Or.inr (by assumption)) | exact OBq_o h0 (by assumption) | exact OBq_o h0 (Obt_q (by assumption)) | exact G_part h0.1 (by assumption) | exact Nmo_o (by assumption)); decide; decide) | ((with_reducible refine sf_gJ ?_ ?_ ?_ ?_); (first | assumption | exact GS_o h0.1 (by decide) (by decide) | exact RRd_o h0 (by assumption) | exact RRd_o h0 (Or.inr (by assumption)) | exact OBq_o h0 (by assumption) | exact OBq_o h0 (Obt_q (by assumption)) | exact G_part h0.1 (by assumption) | exact Nmo_o (by assumption)); decide; decide) | ((with_reducible refine sf_gN ?_ ?_ ?_ ?_); (first | assumption | exact GS_o h0.1 (by decide) (by decide) | exact RRd_o h0 (by assumption) | exact RRd_o h0 (Or.inr (by assumption)) | exact OBq_o h0 (by assumption) | exact OBq_o h0 (Obt_q (by assumption)) | exact G_part h0.1 (by assumption) | exact Nmo_o (by assumption)); decide; decide) | ((with_reducible refine sf_gG h0 (by assumption) ?_ ?_ ?_ ?_ (by with_unfolding_all exact rfl) ?_); decide; decide; decide; decide) | ((with_reducible refine sf_o ?_ (fun l => ?_)); (first | assumption | exact GS_o h0.1 (by decide) (by decide) | exact RRd_o h0 (by assumption) | exact RRd_o h0 (Or.inr (by assumption)) | exact OBq_o h0 (by assumption) | exact OBq_o h0 (Obt_q (by assumption)) | exact G_part h0.1 (by assumption) | exact Nmo_o (by assumption))) | ((with_reducible refine sf_s ?_)) | ((with_reducible refine sf_sb (by assumption) ?_)) | ((with_reducible refine sf_r ?_ ?_); (first | exact any | assumption | exact ⟨false, rfl⟩ | exact ⟨true, rfl⟩); assumption) | ((with_reducible refine sf_z ?_ ?_ ?_); (first | exact ⟨false, rfl⟩ | exact ⟨true, rfl⟩ | assumption); (first | exact any | exact ⟨false, rfl⟩ | exact ⟨true, rfl⟩ | assumption); assumption) | (dsimp only))
  · repeat' (first | (exact sf_r any rfl) | (exact absurd (by assumption) h5) | (exact so_ro_83 (s := 2) h0 hF (by decide) hI) | exact absurd (show nI 0 = 0 from rfl) (by assumption) | exact absurd (show nI 1 = 0 by assumption) (by decide) | ((with_reducible refine sf_i (fun hc => ?_) (fun hc => ?_))) | ((with_reducible refine sf_gF h0 ?_ ?_ ?_ ?_ ?_); decide; decide; decide; decide) | ((with_reducible refine sf_gI ?_ ?_ ?_ ?_); (first | assumption | exact GS_o h0.1 (by decide) (by decide) | exact RRd_o h0 (by assumption) | exact RRd_o h0 (Or.inr (by assumption)) | exact OBq_o h0 (by assumption) | exact OBq_o h0 (Obt_q (by assumption)) | exact G_part h0.1 (by assumption) | exact Nmo_o (by assumption)); decide; decide) | ((with_reducible refine sf_gJ ?_ ?_ ?_ ?_); (first | assumption | exact GS_o h0.1 (by decide) (by decide) | exact RRd_o h0 (by assumption) | exact RRd_o h0 (Or.inr (by assumption)) | exact OBq_o h0 (by assumption) | exact OBq_o h0 (Obt_q (by assumption)) | exact G_part h0.1 (by assumption) | exact Nmo_o (by assumption)); decide; decide) | ((with_reducible refine sf_gN ?_ ?_ ?_ ?_); (first | assumption | exact GS_o h0.1 (by decide) (by decide) | exact RRd_o h0 (by assumption) | exact RRd_o h0 (Or.inr (by assumption)) | exact OBq_o h0 (by assumption) | exact OBq_o h0 (Obt_q (by assumption)) | exact G_part h0.1 (by assumption) | exact Nmo_o (by assumption)); decide; decide) | ((with_reducible refine sf_gG h0 (by assumption) ?_ ?_ ?_ ?_ (by with_unfolding_all exact rfl) ?_); decide; decide; decide; decide) | ((with_reducible refine sf_o ?_ (fun l => ?_)); (first | assumption | exact GS_o h0.1 (by decide) (by decide) | exact RRd_o h0 (by assumption) | exact RRd_o h0 (Or.inr (by assumption)) | exact OBq_o h0 (by assumption) | exact OBq_o h0 (Obt_q (by assumption)) | exact G_part h0.1 (by assumption) | exact Nmo_o (by assumption))) | ((with_reducible refine sf_s ?_)) | ((with_reducible refine sf_sb (by assumption) ?_)) | ((with_reducible refine sf_r ?_ ?_); (first | exact any | assumption | exact ⟨false, rfl⟩ | exact ⟨true, rfl⟩); assumption) | ((with_reducible refine sf_z ?_ ?_ ?_); (first | exact ⟨false, rfl⟩ | exact ⟨true, rfl⟩ | assumption); (first | exact any | exact ⟨false, rfl⟩ | exact ⟨true, rfl⟩ | assumption); assumption))
end CNY
/-- how many bytes the executable with names has -/
def nmS (Y : px_Y) : Nat := sumT (fun i => mpL Y i + 1) Y.2.2.2.2.length
def nmT (Y : px_Y) : Nat := wiN (wiN (wiN Y.1.2.1 + 24 * (Y.2.2.2.2.length + 1)) + (1 + nmS Y)) + 64 * (sgN Y.1.2.2 3 + 3)
section CNX
variable {F : Nat} {c : px_CT} {sk : Nat → Nat × Nat × Nat} {L : Nat} {own : Nat → Nat × Nat} {τ0 τ : px_TT} {fs : List (Nat × (Nat → Nat))} {gs : List (List Nat × Int64)} {ws : List (List Nat)} {n : Nat} {b : Nat → Nat} {a : Int32} {Y : px_Y} {r A cc : Nat}
theorem CV_K (hC : CV sk L own τ0 fs gs ws n b a Y) (ha : a = 0) : CKZ τ0 Y.1.2.1 Y.1.2.2 := hC.2.2.2.2.2.2.2.2.1.2 ha
theorem z_seg13 (hF : 65540 < F) (hK : KT c) (hC : CV sk L own τ0 fs gs ws n b a Y) (ha : a = 0) (hr : r ≠ 1714) : ∀ (d j f : Nat) (τ : px_TT), j + d = 3 → d < f → SW none sk L τ0 r 65536 cc (64 + 64 * sgN Y.1.2.2 j) τ → Sf sk L (SW none sk L τ0 r 65536 cc (64 + 64 * sgN Y.1.2.2 3)) Any (f_Scribe_writeSegmentRows_13 F c f 1713 (nI j) (cH sk L τ)) := by
  have h0 := (CV_S4 hC).1.1.1
  have hS := h0.1
  have o13 := G1713 hS
  have o17 := G1700 hS
  intro d
  induction d with
  | zero =>
    intro j f τ hj hf hI
    obtain ⟨f, rfl⟩ : ∃ y, f = y + 1 := ⟨f - 1, by omega⟩
    obtain rfl : j = 3 := by omega
    unfold f_Scribe_writeSegmentRows_13 f_Scribe_writeSegmentRows_141
    rw [if_pos (nI_le (by omega) (by omega))]
    exact sf_r any hI
  | succ d ih =>
    intro j f τ hj hf hI
    obtain ⟨f, rfl⟩ : ∃ y, f = y + 1 := ⟨f - 1, by omega⟩
    have hR := GR_Z h0.2.1 hI.1.1.1
    have et := (CV_K (CV_SI hC hI.1.1) ha).2.2 j (by omega)
    have orr := (SI_row hI.1.1 T14).1
    have rd : ∀ τ, SI none sk L τ0 τ → GR τ := fun τ i => GR_Z h0.2.1 i.1
    have go := fun τ hI => ih (j + 1) f τ (by omega) (by omega) hI
    have es : sgN Y.1.2.2 (j + 1) = sgN Y.1.2.2 j + (if Y.1.2.2 j = true then 1 else 0) := rfl
    rw [es] at go
    generalize sgN Y.1.2.2 j = S at *
    unfold f_Scribe_writeSegmentRows_13 f_Scribe_writeSegmentRows_135
    rw [if_neg (nI_ge (by omega) (by omega)), C11r1 o13 (GR_r (v := 1700) hR (by decide)), bs, C2r4 o17 (GR_r (v := 1703) hR (by decide)), bs, c_aI (G1703 hS) (Or.inr (Or.inr rfl)) (by decide) (by omega), bs, et, nI_add]
    cases ej : Y.1.2.2 j with
    | false =>
      rw [ej, if_neg (by decide)] at go
      rw [if_pos (show bI false = 0 from rfl)]
      exact go τ hI
    | true =>
      rw [ej, if_pos rfl] at go
      rw [if_neg (show ¬ bI true = 0 by decide), C11r3 o13 (GR_r (v := 1714) hR (by decide)), bs, c_o orr, bs]
      refine sz_x (sw_put hF hr (by decide) hI) (fun _ τ1 _ i1 => ?_)
      rw [C11r3 o13 (GR_r (v := 1714) (rd _ i1.1.1) (by decide)), bs, c_o orr, bs]
      refine sz_x (sw_put hF hr (by decide) i1) (fun _ τ2 _ i2 => ?_)
      rw [C11r3 o13 (GR_r (v := 1714) (rd _ i2.1.1) (by decide)), bs, xkI_at hK.2.2.2.2.2.2 (by decide) hK.2.2.2.2.2.1 (by decide) (show j < [6, 2, 3].length from by show j < 3; omega), bs, c_o orr, bs]
      refine sz_x (sw_put hF hr (by decide) i2) (fun _ τ3 _ i3 => ?_)
      rw [C11r3 o13 (GR_r (v := 1714) (rd _ i3.1.1) (by decide)), bs, C11r1 o13 (GR_r (v := 1700) (rd _ i3.1.1) (by decide)), bs, C2r6 o17 (GR_r (v := 1705) (rd _ i3.1.1) (by decide)), bs, c_aJ (G1705 hS) (by decide) (by omega), bs, c_o orr, bs]
      refine sz_x (sw_put hF hr (by decide) i3) (fun _ τ4 _ i4 => ?_)
      rw [C11r3 o13 (GR_r (v := 1714) (rd _ i4.1.1) (by decide)), bs, C11r1 o13 (GR_r (v := 1700) (rd _ i4.1.1) (by decide)), bs, C2r5 o17 (GR_r (v := 1704) (rd _ i4.1.1) (by decide)), bs, c_aJ (G1704 hS) (by decide) (by omega), bs, c_o orr, bs]
      refine sz_x (sw_put hF hr (by decide) i4) (fun _ τ5 _ i5 => ?_)
      rw [C11r3 o13 (GR_r (v := 1714) (rd _ i5.1.1) (by decide)), bs, C11r1 o13 (GR_r (v := 1700) (rd _ i5.1.1) (by decide)), bs, C2r7 o17 (GR_r (v := 1706) (rd _ i5.1.1) (by decide)), bs, c_aJ (G1706 hS) (by decide) (by omega), bs, c_o orr, bs]
      refine sz_x (sw_put hF hr (by decide) i5) (fun _ τ6 _ i6 => ?_)
      rw [C11r3 o13 (GR_r (v := 1714) (rd _ i6.1.1) (by decide)), bs, c_o orr, bs]
      refine sz_x (sw_put hF hr (by decide) i6) (fun _ τ7 _ i7 => ?_)
      rw [c_o o13, bs]
      refine sz_x (sw_endRow h0 hF hr i7) (fun _ τ8 _ i8 => ?_)
      refine go τ8 ?_
      rw [show 64 + 64 * (S + 1) = 64 + 64 * S + 4 + 4 + 8 + 8 + 8 + 8 + 8 + 16 by omega]
      exact i8
theorem z_nam170 {a3 a4 a5 a6 : Int32} (hF : 65540 < F) (hK : KT c) (hC : CV sk L own τ0 fs gs ws n b a Y) (ha : a = 0) (hr : TRw r A 65536) (hI : SZ none sk L τ0 r 65536 (wiN (wiN Y.1.2.1 + 24 * (Y.2.2.2.2.length + 1)) + (1 + nmS Y)) τ) : Sf sk L (SZ none sk L τ0 r 65536 (nmT Y)) (fun v => v = bI (decide (nmT Y ≤ 65536))) (f_Scribe_writeNamed_170 F c 1713 r a3 a4 a5 a6 (cH sk L τ)) := by
  have h0 := (CV_S4 hC).1.1.1
  have hS := h0.1
  have o13 := G1713 hS
  have o47 := G147 hS
  have rd : ∀ τ, SI none sk L τ0 τ → GR τ := fun τ i => GR_Z h0.2.1 i.1
  have hr14 : r ≠ 1714 := by unfold TRw at hr; omega
  have orr := (SI_row hI.1 hr).1
  have o14 := (SI_row hI.1 T14).1
  have eT : nmT Y = wiN (wiN (wiN Y.1.2.1 + 24 * (Y.2.2.2.2.length + 1)) + (1 + nmS Y)) + 64 * (sgN Y.1.2.2 3 + 3) := rfl
  have hsg := sgN_le (th := Y.1.2.2) 3
  rw [eT]
  generalize wiN (wiN Y.1.2.1 + 24 * (Y.2.2.2.2.length + 1)) + (1 + nmS Y) = W at *
  unfold f_Scribe_writeNamed_170
  refine sz_x (sz_next hF hr hI) (fun v1 τ1 _ i1 => ?_)
  generalize wiN W = W1 at *
  rw [C11r3 o13 (GR_r (v := 1714) (rd _ i1.1) (by decide)), bs, c_o o14, bs]
  refine sz_x (sw_Rw i1 hr14 (k_clearZ (SI_row i1.1 T14))) (fun _ τ2 _ i2 => ?_)
  rw [c_o o13, bs]
  unfold f_Scribe_writeSegmentRows
  have key : Sf sk L (SW none sk L τ0 r 65536 W1 (64 + 64 * sgN Y.1.2.2 3)) Any ((xgR (cH sk L τ2) 11 3 1713).bind fun t1 => (xo (cH sk L τ2) 10 t1).bind fun _ => xb (f_Row_fillTo F c t1 ((64 : Int64)) (nI 0) (cH sk L τ2)) fun _ ph2 => f_Scribe_writeSegmentRows_13 F c F 1713 (nI 0) ph2) := by
    rw [C11r3 o13 (GR_r (v := 1714) (rd _ i2.1.1) (by decide)), bs, c_o o14, bs, show (64 : Int64) = lN 64 from rfl]
    refine sz_x (sw_Rw (U := 0 + 64) i2.1 hr14 (k_fillToZ (e := 64) (by omega) (by decide) (SI_row i2.1.1 T14) i2.2 (by decide) (fun _ => rfl))) (fun _ τ3 _ i3 => ?_)
    exact z_seg13 hF hK hC ha hr14 3 0 F τ3 rfl (by omega) i3
  refine sz_x key (fun _ τ3 _ i3 => ?_)
  generalize sgN Y.1.2.2 3 = S at *
  rw [C11r0 o13 (GR_r (v := 147) (rd _ i3.1.1) (by decide)), bs, C3g15 o47, bs, c_o o13, bs]
  refine sz_x (sw_putRow h0 hF hr14 i3) (fun _ τ4 _ i4 => ?_)
  rw [c_o o13, bs]
  refine sz_x (sw_endRow h0 hF hr14 i4) (fun _ τ5 _ i5 => ?_)
  rw [c_o o13, bs]
  refine sz_x (sw_putRow h0 hF hr14 i5) (fun _ τ6 _ i6 => ?_)
  rw [c_o o13, bs]
  refine sz_x (sw_endRow h0 hF hr14 i6) (fun _ τ7 _ i7 => ?_)
  have hro := SI_row i7.1.1 T14
  have e1 := (i7.2.1 (by omega)).1
  rw [C11r3 o13 (GR_r (v := 1714) (rd _ i7.1.1) (by decide)), bs, C10r0 o14 hro.2.2.2.1, bs, bs, C10g1 o14, bs, e1, c_o orr, bs]
  refine sz_x (sz_Rw (cc := W1 + 64 * (S + 3)) i7.1.1 i7.1.2.2 hr (by
    have h := k_copyZ (F := F) (c := c) (q := 0) (m := 64 + 64 * S + 48 + 16 + 48 + 16) hro.2.1 (by decide) hro.2.2.2.2.2.2 (by omega) (SI_row i7.1.1 hr) i7.1.2.1
    rw [show W1 + (64 + 64 * S + 48 + 16 + 48 + 16) = W1 + 64 * (S + 3) by omega] at h
    exact h)) (fun _ τ8 _ i8 => ?_)
  generalize W1 + 64 * (S + 3) = T at *
  rw [c_o orr, bs]
  refine sz_x (sz_set hF hr (by decide) i8) (fun _ τ9 _ i9 => ?_)
  rw [c_o orr, bs]
  refine sz_x (sz_set hF hr (by decide) i9) (fun _ τa _ ia => ?_)
  rw [c_o orr, bs]
  refine sz_x (sz_set hF hr (by decide) ia) (fun _ τb _ ib => ?_)
  rw [c_o orr, bs]
  refine sz_x (sz_set hF hr (by decide) ib) (fun _ τc _ ic => ?_)
  unfold f_Scribe_writeNamed_321
  rw [C10g2 orr, bs]
  by_cases cT : T ≤ 65536
  · rw [(ic.2.1.1 cT).2, if_pos (show bI false = 0 from rfl), decide_eq_true cT]
    exact ⟨_, τc, xz_b true _, rfl, ic⟩
  · rw [ic.2.1.2 (by omega), if_neg (show ¬ bI true = 0 by decide), decide_eq_false cT]
    exact ⟨_, τc, xz_b false _, rfl, ic⟩
/-- a definition of the link, while rows are written -/
theorem z_defined {i : Nat} (hC : CV sk L own τ0 fs gs ws n b a Y) (ha : a = 0) (hod : Y.2.2.2.2.length ≤ 4096) (hi : i < Y.2.2.2.2.length) : ∃ p, Nmo sk L τ0 p ∧ mpL Y i ≤ 20 ∧ ∀ τ, SI none sk L τ0 τ → f_Link_definedAt F c 147 (nI i) (cH sk L τ) = some (some p, cH sk L τ) ∧ fI τ p 3 = nI (mpL Y i) := by
  have o47 := G147 hC.1
  obtain ⟨⟨hns, hnt⟩, hna, e15, hod2⟩ := ((CV_X hC).2 ha).2
  obtain ⟨dd, hd⟩ : ∃ dd, Y.2.2.2.2[i]? = some dd := ⟨_, List.getElem?_eq_getElem hi⟩
  obtain ⟨d1, d2⟩ := hod2 i dd hd
  have hx : Y.2.2.2.1[dd]? = some Y.2.2.2.1[dd] := List.getElem?_eq_getElem d1
  have hxw : (Y.2.2.2.1.map Prod.fst)[dd]? = some Y.2.2.2.1[dd].1 := by rw [List.getElem?_map, hx]; rfl
  obtain ⟨_, n2, op, nm⟩ := hns.2.2.2.2.2.2 dd _ hxw
  have hge := (hC.2.2.1 149 dd _ (Or.inr (Or.inr rfl)) n2).1
  have hw20 := (hnt _ (List.mem_of_getElem? hxw)).2.1
  have eL : mpL Y i = Y.2.2.2.1[dd].1.length := by
    unfold mpL
    rw [List.getD_eq_getElem?_getD, List.getD_eq_getElem?_getD, hd]
    show (Y.2.2.2.1[dd]?.getD ([], 0)).1.length = _
    rw [hx]
    rfl
  have hN : Nmo sk L τ0 (pN τ0 149 dd) := by
    obtain ⟨⟨o, ho, eo, hw⟩, _⟩ := hC.2.2.2.2.2.2.2.1.2.2.2.1
    have hoe : o = Y.2.2.2.2.length := (nI_eq (by omega) (by omega)).mp (eo.symm.trans e15)
    obtain ⟨p, p1, p2, _⟩ := hw i (by omega)
    rw [d2] at p1
    rw [Option.some.inj p1]
    exact p2
  refine ⟨pN τ0 149 dd, hN, by rw [eL]; exact hw20, fun τ hI => ⟨?_, ?_⟩⟩
  · have hR := GR_Z hC.2.1 hI.1
    have e15' : fI τ 147 15 = nI Y.2.2.2.2.length := (hI.1.1 147 15 (Zc_no (by omega)) (by omega) (by omega) (by omega) (by omega)).trans e15
    have d2' : eN τ 1693 i = some (pN τ0 149 dd) := by rw [hI.1.2.2.2.2.2 1693 (by decide)]; exact d2
    unfold f_Link_definedAt f_Link_definedAt_31 f_Link_definedAt_47
    rw [if_neg (nI_n0 (by omega)), C3g15 o47, bs, e15', if_neg (nI_ge (by omega) (by omega)), C3r9 o47 (GR_r (v := 1693) hR (by decide)), bs, c_l (G1693 hC.1) (by decide), bs, if_neg (nI_ge (by omega) (by decide)), bs, c_aN (G1693 hC.1) (Or.inr (Or.inl rfl)) (by decide) (by omega), bs, d2']
  · rw [hI.1.1 (pN τ0 149 dd) 3 (Zc_no (by omega)) (by omega) (by omega) (by omega) (by omega), eL]
    exact nm.2.2.2
theorem z_nam133 {a3 a4 a5 a6 : Int32} (hF : 65540 < F) (hK : KT c) (hC : CV sk L own τ0 fs gs ws n b a Y) (ha : a = 0) (hr : TRw r A 65536) (hod : Y.2.2.2.2.length ≤ 4096) : ∀ (d i f : Nat) (τ : px_TT), i + d = Y.2.2.2.2.length → d < f → SZ none sk L τ0 r 65536 (wiN (wiN Y.1.2.1 + 24 * (Y.2.2.2.2.length + 1)) + (1 + sumT (fun i => mpL Y i + 1) i)) τ → Sf sk L (SZ none sk L τ0 r 65536 (nmT Y)) (fun v => v = bI (decide (nmT Y ≤ 65536))) (f_Scribe_writeNamed_133 F c f 1713 r a3 a4 a5 a6 (nI i) (cH sk L τ)) := by
  have h0 := (CV_S4 hC).1.1.1
  have o13 := G1713 hC.1
  have o47 := G147 hC.1
  intro d
  induction d with
  | zero =>
    intro i f τ hi hf hI
    obtain ⟨f, rfl⟩ : ∃ y, f = y + 1 := ⟨f - 1, by omega⟩
    have ei : i = Y.2.2.2.2.length := by omega
    have hR := GR_Z h0.2.1 hI.1.1
    obtain ⟨_, _, e15, _⟩ := ((CV_X (CV_SI hC hI.1)).2 ha).2
    rw [ei] at hI
    unfold f_Scribe_writeNamed_133
    rw [C11r0 o13 (GR_r (v := 147) hR (by decide)), bs, C3g15 o47, bs, e15, if_pos (nI_le (by omega) (by omega))]
    exact z_nam170 hF hK hC ha hr hI
  | succ d ih =>
    intro i f τ hi hf hI
    obtain ⟨f, rfl⟩ : ∃ y, f = y + 1 := ⟨f - 1, by omega⟩
    have hR := GR_Z h0.2.1 hI.1.1
    obtain ⟨_, _, e15, _⟩ := ((CV_X (CV_SI hC hI.1)).2 ha).2
    obtain ⟨p, hp, hl, hq⟩ := z_defined (F := F) (c := c) (i := i) hC ha hod (by omega)
    have op := hp.2.1
    have hge := hp.1
    have orr := (SI_row hI.1 hr).1
    have hrp : r < 1815 := by unfold TRw at hr; omega
    have es : sumT (fun i => mpL Y i + 1) (i + 1) = sumT (fun i => mpL Y i + 1) i + (mpL Y i + 1) := rfl
    have go := fun τ hI => ih (i + 1) f τ (by omega) (by omega) hI
    rw [es] at go
    generalize wiN (wiN Y.1.2.1 + 24 * (Y.2.2.2.2.length + 1)) = W at *
    generalize sumT (fun i => mpL Y i + 1) i = S at *
    generalize mpL Y i = l at *
    unfold f_Scribe_writeNamed_133
    rw [C11r0 o13 (GR_r (v := 147) hR (by decide)), bs, C3g15 o47, bs, e15, if_neg (nI_ge (by omega) (by omega)), bs, c_o o47, bs, (hq τ hI.1).1, xb_mk, bs, c_o op, bs]
    refine sz_x (sz_wto hF hr op (by omega) (by omega) (hq τ hI.1).2 hI) (fun _ τ1 _ i1 => ?_)
    rw [c_o orr, bs]
    refine sz_x (sz_put hF hr (by decide) i1) (fun _ τ2 _ i2 => ?_)
    rw [nI_add]
    refine go τ2 ?_
    rw [show W + (1 + (S + (l + 1))) = W + (1 + S) + l + 1 by omega]
    exact i2
theorem z_nam50 {a3 a4 : Int32} (hF : 65540 < F) (hK : KT c) (hC : CV sk L own τ0 fs gs ws n b a Y) (ha : a = 0) (hr : TRw r A 65536) (hod : Y.2.2.2.2.length ≤ 4096) : ∀ (d i f : Nat) (a5 : Int32) (τ : px_TT), i + d = Y.2.2.2.2.length → d < f → SZ none sk L τ0 r 65536 (wiN Y.1.2.1 + 24 * (i + 1)) τ → Sf sk L (SZ none sk L τ0 r 65536 (nmT Y)) (fun v => v = bI (decide (nmT Y ≤ 65536))) (f_Scribe_writeNamed_50 F c f 1713 r a3 a4 a5 (nI i) (cH sk L τ)) := by
  have h0 := (CV_S4 hC).1.1.1
  have o13 := G1713 hC.1
  have o47 := G147 hC.1
  intro d
  induction d with
  | zero =>
    intro i f a5 τ hi hf hI
    obtain ⟨f, rfl⟩ : ∃ y, f = y + 1 := ⟨f - 1, by omega⟩
    have ei : i = Y.2.2.2.2.length := by omega
    have hR := GR_Z h0.2.1 hI.1.1
    obtain ⟨_, _, e15, _⟩ := ((CV_X (CV_SI hC hI.1)).2 ha).2
    have orr := (SI_row hI.1 hr).1
    rw [ei] at hI
    unfold f_Scribe_writeNamed_50 f_Scribe_writeNamed_118
    rw [C11r0 o13 (GR_r (v := 147) hR (by decide)), bs, C3g15 o47, bs, e15, if_pos (nI_le (by omega) (by omega))]
    refine sz_x (sz_next hF hr hI) (fun v1 τ1 _ i1 => ?_)
    rw [c_o orr, bs]
    refine sz_x (sz_put hF hr (by decide) i1) (fun _ τ2 _ i2 => ?_)
    exact z_nam133 hF hK hC ha hr hod Y.2.2.2.2.length 0 F τ2 (Nat.zero_add _) (by omega) i2
  | succ d ih =>
    intro i f a5 τ hi hf hI
    obtain ⟨f, rfl⟩ : ∃ y, f = y + 1 := ⟨f - 1, by omega⟩
    have hR := GR_Z h0.2.1 hI.1.1
    obtain ⟨_, _, e15, _⟩ := ((CV_X (CV_SI hC hI.1)).2 ha).2
    obtain ⟨p, hp, hl, hq⟩ := z_defined (F := F) (c := c) (i := i) hC ha hod (by omega)
    have op := hp.2.1
    unfold f_Scribe_writeNamed_50
    rw [C11r0 o13 (GR_r (v := 147) hR (by decide)), bs, C3g15 o47, bs, e15, if_neg (nI_ge (by omega) (by omega)), bs, c_o o47, bs, (hq τ hI.1).1, xb_mk, bs, C5g9 op, bs, c_o o13, bs]
    obtain ⟨v8, τ8, e8, _, rfl⟩ := so_rowOf (F := F) (c := c) h0 hK hF hp hI.1
    rw [e8, xb_mk, C5g14 op, bs, C5g8 op, bs]
    refine sz_x (sz_putSym hF hr hI) (fun _ τ1 _ i1 => ?_)
    rw [C5g3 op, bs, nI_add]
    refine ih (i + 1) f _ τ1 (by omega) (by omega) ?_
    rw [show wiN Y.1.2.1 + 24 * (i + 1 + 1) = wiN Y.1.2.1 + 24 * (i + 1) + 24 by omega]
    exact i1
theorem z_named (hF : 65540 < F) (hK : KT c) (hC : CV sk L own τ0 fs gs ws n b a Y) (ha : a = 0) (hr : TRw r A 65536) (hod : Y.2.2.2.2.length ≤ 4096) (hI : SI none sk L τ0 τ) (hN : ∀ k, fN τ 0 k = fN τ0 0 k) : Sf sk L (SZ none sk L τ0 r 65536 (nmT Y)) (fun v => v = bI (decide (nmT Y ≤ 65536))) (f_Scribe_writeNamed F c 1713 r 1711 (cH sk L τ)) := by
  have h0 := (CV_S4 hC).1.1.1
  have hS := h0.1
  have o13 := G1713 hC.1
  have o11 := G1711 hC.1
  have orr := (SI_row hI hr).1
  unfold f_Scribe_writeNamed
  rw [C11r1 o13 (GR_r (v := 1700) (GR_Z h0.2.1 hI.1) (by decide)), bs, c_o (G1700 hS), bs]
  obtain ⟨v2, e2⟩ := so_segs (F := F) (c := c) h0 hF hI
  rw [e2, xb_mk, c_o orr, bs]
  refine sz_x (sz_clear hI hN hr) (fun _ τ1 _ i1 => ?_)
  obtain ⟨k1, k2, _⟩ := CV_K (CV_SI hC i1.1) ha
  have hfl := SI_fl i1.1
  rw [C10r0 o11 hfl.2.2.2.1, bs, C10g1 o11, bs, k2, c_o orr, bs]
  refine sz_x (sz_Rw (cc := Y.1.2.1) i1.1 i1.2.2 hr (by
    have h := k_copyZ (F := F) (c := c) (q := 0) (m := Y.1.2.1) hfl.2.1 (by decide) hfl.2.2.2.2.2.2 (by omega) (SI_row i1.1 hr) i1.2.1
    rw [Nat.zero_add] at h
    exact h)) (fun _ τ2 _ i2 => ?_)
  refine sz_x (sz_next hF hr i2) (fun v8 τ3 _ i3 => ?_)
  rw [C10g1 orr, bs, c_o orr, bs]
  refine sz_x (sz_fill hF hr (by decide) (by decide) i3) (fun _ τ4 _ i4 => ?_)
  exact z_nam50 hF hK hC ha hr hod Y.2.2.2.2.length 0 F _ τ4 (Nat.zero_add _) (by omega) i4
end CNX
section BNM
variable {F : Nat} {c : px_CT} {sk : Nat → Nat × Nat × Nat} {L : Nat} {own : Nat → Nat × Nat} {τ : px_TT} {σ : px_S} {fs : List (Nat × (Nat → Nat))} {gs : List (List Nat × Int64)} {ws : List (List Nat)} {n : Nat} {b : Nat → Nat} {a : Int32} {Y : px_Y} {k N : Nat}
/-- what the reference's named reads -/
theorem NMs_X (hC : CV sk L own τ fs gs ws n b a Y) (hR : RV σ fs gs ws n b a Y) (ha : a = 0) : NMs σ Y.1.2.1 Y.2.2.2.2.length Y.1.2.2 (mpL Y) (fun i => Y.2.2.2.2.getD i 0) := by
  obtain ⟨_, m2, m3, m4⟩ := MPs_X hC (RV_X hR) ha
  obtain ⟨z1, z2, z3, z4⟩ := hR.2.2.2.2.2.2.2.1.2.2.2.2 ha
  have h13 : gI σ 13 = a := hR.2.2.2.2.2.2.2.2.1
  obtain ⟨_, e', nD', th', lf', df', _, _, n5, n6, n7⟩ := hR.2.2.2.2.2.2.2.1.2.2.1 (h13.trans ha)
  have eD : nD' = Y.2.2.2.2.length := (nI_eq (by omega) (by omega)).mp (n6.symm.trans m3)
  refine ⟨⟨z1, z2⟩, ⟨z3, z4⟩, m2, m3, fun i hi => ?_⟩
  obtain ⟨q1, q2, q3, q4⟩ := m4 i hi
  have q2 : Y.2.2.2.2.getD i 0 < 4096 := q2
  obtain ⟨w1, w2, _, _, w5⟩ := n7 i (by omega)
  have ed : df' i = Y.2.2.2.2.getD i 0 := (nI_eq (by omega) (by omega)).mp (w1.symm.trans q1)
  rw [ed] at w5
  exact ⟨q1, q2, q3, q4, w5⟩
theorem Bx_named (hK : KT c) (hF : 65540 < F) (hC : CV sk L own τ fs gs ws n b a Y) (hR : RV σ fs gs ws n b a Y) (hm : RMk sk L (k + 210)) (hN : n + (fs.map Prod.fst).sum ≤ N) : BT RnI (fun ci σ => ci = 14 ∧ gI σ 0 = nI 1) sk L τ k N (f_H_named F c 0 (cH sk L τ)) (g_H_named F c 0 (cH sk L τ)) (fun h => f_M_named F 1726 (mh 1726 h σ)) := by
  have o0 := G0 hC.1
  have ea : fI τ 147 18 = a := hC.2.2.2.2.2.2.2.2.2.2
  have h13 : gI σ 13 = a := hR.2.2.2.2.2.2.2.2.1
  by_cases c0 : a = 0
  · have hM := NMs_X hC hR c0
    have hod : Y.2.2.2.2.length ≤ 4096 := hM.2.2.1
    obtain ⟨rd, A, hT, e2⟩ := CV_rd hC
    have orr := (SI_row (SI_self hC) hT).1
    obtain ⟨v, τ1, e1, hv, i1, z1, n1⟩ := z_named (F := F) (c := c) hF hK hC c0 hT hod (SI_self hC) (fun _ => rfl)
    have key : ∃ τ2, f_H_named F c 0 (cH sk L τ) = some (mpA (nmT Y), cH sk L τ2) ∧ SI none sk L τ τ2 := by
      unfold f_H_named
      rw [C0r11 o0 (GR_r (v := 147) hC.2.1 (by decide)), bs, C3g18 (G147 hC.1), bs, ea, if_pos c0, C0r15 o0 (GR_r (v := 1713) hC.2.1 (by decide)), bs, C0r2 o0 e2, bs, C0r14 o0 (GR_r (v := 1710) hC.2.1 (by decide)), bs, C1r4 (G1710 hC.1) (GR_r (v := 1711) hC.2.1 (by decide)), bs, c_o (G1713 hC.1), bs, e1, xb_mk, hv]
      unfold mpA
      by_cases cT : nmT Y ≤ 65536
      · obtain ⟨τ2, e3, i2⟩ := z_publish (F := F) (c := c) hC i1 ((n1 2).trans e2) orr
        refine ⟨τ2, ?_, i2⟩
        rw [decide_eq_true cT, if_neg (show ¬ bI true = 0 by decide), if_pos cT, c_o o0, bs, e3, xb_mk, (z1.1 cT).1]
      · refine ⟨τ1, ?_, i1⟩
        rw [decide_eq_false cT, if_pos (show bI false = 0 from rfl), if_neg cT]
    obtain ⟨τ2, eC, i2⟩ := key
    refine ⟨fs, gs, ws, n, b, a, Y, hN, Or.inl ⟨_, sk, L, τ2, own, eC, EX_refl, K26_Z i2.1, RMk_le hm (by omega), CV_SI hC i2, fun h hl => ?_⟩⟩
    obtain ⟨w, σ', e3, hw, cc, hcc, hW, h00⟩ := (q_named (F := F) (h := h) hl hF hR.2.2.2.2.1).2 (h13.trans c0) hM
    exact ⟨w, σ', e3, RV_W hR ⟨cc, hcc, hW⟩, hw.symm, h00⟩
  · refine ⟨fs, gs, ws, n, b, a, Y, hN, Or.inr ⟨14, τ, own, ?_, K26_refl τ, RMk_le hm (by omega), hC, fun h hl => ⟨_, _, (q_named (F := F) (e := 0) (nD := 0) (th := fun _ => false) (lf := id) (df := id) hl hF hR.2.2.2.2.1).1 (by rw [h13]; exact c0), RV_0 hR (FR_I _ _ _), rfl, rfl⟩⟩⟩
    unfold g_H_named
    rw [C0r11 o0 (GR_r (v := 147) hC.2.1 (by decide)), bs, C3g18 (G147 hC.1), bs, if_neg (by rw [ea]; exact c0)]
end BNM
end
section
/-! a merge: what it counts, pure -/
def odN (s : px_TS) : Prop := odS s ∧ s.2.2.1.Nodup
theorem odN_tk (dr : Nat → Bool) (t : Nat) (b : Nat → Nat) (k : Nat) (s : px_TS) (hy : yOK b k = true) (h : odN s) : odN (tk1 dr t b k s) := by
  refine ⟨odS_tk dr t b k s hy h.1, ?_⟩
  unfold tk1
  by_cases c1 : yB b k = 0
  · rw [if_pos c1]; exact h.2
  · rw [if_neg c1]
    have hc : (comS dr t b k (s.2.1, s.2.2.1)).2.2.Nodup := by
      obtain ⟨r, p1, p2⟩ := plc_at (w := yT b k) (xs := s.2.1)
      have he : ∀ d, d ∈ s.2.2.1 → stN (entL (yT b k) s.2.1) d = 1 ∨ stN (entL (yT b k) s.2.1) d = 2 ∨ stN (entL (yT b k) s.2.1) d = 3 := fun d hd => by rw [stN_ent]; exact h.1 d hd
      unfold comS
      dsimp only
      generalize cmS (sOf dr t b k) t k (yZ b k) (yV b k) = g at *
      generalize sOf dr t b k = s0 at *
      generalize decide (yB b k = 1) = d0 at *
      generalize plc (yT b k) (s.2.1.map Prod.fst) = i at *
      generalize entL (yT b k) s.2.1 = ys at *
      have hst : (ys.getD i ([], nr0)).2.1 = r.1 := by rw [getD_at p1]
      have hsi : stN ys i = r.1 := stN_at p1
      by_cases d1 : s0 = 0
      · rw [if_pos d1]; exact h.2
      · rw [if_neg d1]
        by_cases d2 : s0 = 3 ∧ (ys.getD i ([], nr0)).2.1 = 3
        · rw [if_pos d2]; exact h.2
        · rw [if_neg d2]
          show (if (ys.getD i ([], nr0)).2.1 = 0 then s.2.2.1 ++ [i] else s.2.2.1).Nodup
          rw [hst]
          by_cases z : r.1 = 0
          · rw [if_pos z]
            refine List.nodup_append.mpr ⟨h.2, List.nodup_cons.mpr ⟨List.not_mem_nil, List.nodup_nil⟩, fun x hx y hy e => ?_⟩
            have hw := he x hx
            rw [e, List.mem_singleton.mp hy, hsi] at hw
            omega
          · rw [if_neg z]; exact h.2
    split
    · exact h.2
    · split
      · exact hc
      · exact hc
/-- what stood in the order stays there; names keep their places -/
def odG (o : List Nat) (n : List (List Nat)) (s : px_TS) : Prop := (∀ d, d ∈ o → d ∈ s.2.2.1) ∧ ∀ w, w ∈ n → w ∈ txs s ∧ plc w (txs s) = plc w n
theorem odG_tk {o : List Nat} {n : List (List Nat)} (dr : Nat → Bool) (t : Nat) (b : Nat → Nat) (k : Nat) (s : px_TS) (_ : yOK b k = true) (h : odG o n s) : odG o n (tk1 dr t b k s) := by
  refine ⟨fun d hd => ?_, fun w hw => ?_⟩
  · have h0 := h.1 d hd
    unfold tk1
    by_cases c1 : yB b k = 0
    · rw [if_pos c1]; exact h0
    · rw [if_neg c1]
      have hc : d ∈ (comS dr t b k (s.2.1, s.2.2.1)).2.2 := by
        unfold comS
        dsimp only
        split
        · exact h0
        · split
          · exact h0
          · show d ∈ (if _ then s.2.2.1 ++ [_] else s.2.2.1)
            split
            · exact List.mem_append_left _ h0
            · exact h0
      split
      · exact h0
      · split
        · exact hc
        · exact hc
  · obtain ⟨h1, h2⟩ := h.2 w hw
    rw [tk1_fst]
    by_cases c1 : yB b k = 0
    · rw [if_pos c1]; exact ⟨h1, h2⟩
    · rw [if_neg c1, plc_ent h1]
      exact ⟨ent_mem.mpr (Or.inr h1), h2⟩
/-- where the names come from -/
def orP (fs : px_FS) (n0 : List (List Nat)) (s : px_TK) : Prop := ∀ w, w ∈ txs s.1 → w ∈ n0 ∨ ∃ q, q ∈ s.2.2.1 ∧ ∃ o n b k, obAt fs q = some (o, n, b, false) ∧ 1 ≤ k ∧ k < oM b ∧ yB b k ≠ 0 ∧ yT b k = w
theorem orP_tk {fs : px_FS} {n0 : List (List Nat)} {s : px_TK} {q o n : Nat} {b : Nat → Nat} (hob : obAt fs q = some (o, n, b, false)) (h : orP fs n0 s) : orP fs n0 (tkM b q s) := by
  have key : ∀ w, w ∈ txs (tkM b q s).1 → w ∈ txs s.1 ∨ ∃ k, 1 ≤ k ∧ k < oM b ∧ yB b k ≠ 0 ∧ yT b k = w := by
    by_cases c : oM b = 0
    · intro w hw
      have hw : w ∈ txs (itr (tk1 (itr (dg1 s.2.2.1.length b) 1 (oS b - 1) s.2.1).1 s.2.2.1.length b) 1 (oM b - 1) s.1) := hw
      rw [c] at hw
      exact Or.inl hw
    · exact itr_inv (g := tk1 (itr (dg1 s.2.2.1.length b) 1 (oS b - 1) s.2.1).1 s.2.2.1.length b) (P := fun s' => ∀ w, w ∈ txs s' → w ∈ txs s.1 ∨ ∃ k, 1 ≤ k ∧ k < oM b ∧ yB b k ≠ 0 ∧ yT b k = w) (a := 1) (e := oM b) (fun i s' h1 h2 hs w hw => by
        rw [tk1_fst] at hw
        by_cases c1 : yB b i = 0
        · rw [if_pos c1] at hw; exact hs w hw
        · rw [if_neg c1] at hw
          rcases ent_mem.mp hw with e | e
          · exact Or.inr ⟨i, h1, h2, c1, e.symm⟩
          · exact hs w e) (oM b - 1) 1 s.1 (Nat.le_refl _) (by omega) (fun w hw => Or.inl hw)
  intro w hw
  rcases key w hw with e | ⟨k, k1, k2, k3, k4⟩
  · rcases h w e with e | ⟨q', q1, q2⟩
    · exact Or.inl e
    · exact Or.inr ⟨q', List.mem_append_left _ q1, q2⟩
  · exact Or.inr ⟨q, List.mem_append_right _ (List.mem_singleton.mpr rfl), o, n, b, k, hob, k1, k2, k3, k4⟩
theorem orP_ca {fs : px_FS} {n0 : List (List Nat)} {s : px_TK} {ca : Nat → Option Nat} (h : orP fs n0 s) : orP fs n0 (s.1, s.2.1, s.2.2.1, ca) := h
theorem orP_tf1 {fs : px_FS} {n0 : List (List Nat)} {f k : Nat} {p : px_TK × Bool} (h : orP fs n0 p.1) : orP fs n0 (tf1 fs f k p).1 := by
  rcases tf1_cs2 (fs := fs) (f := f) (k := k) (p := p) with e | ⟨o, n, b, ca, a1, a2, e⟩
  · rw [e]; exact h
  · rw [e]
    exact orP_tk a1 (orP_ca h)
theorem orP_tfL {fs : px_FS} {n0 : List (List Nat)} {f c : Nat} {s : px_TK} (h : orP fs n0 s) : orP fs n0 (tfL fs f c s) := by
  unfold tfL
  refine whl_inv (st := tfS) (g := rdF fs f) (P := orP fs n0) (fun s hs => ?_) c s h
  unfold rdF
  exact itr_inv (g := tf1 fs f) (P := fun p : px_TK × Bool => orP fs n0 p.1) (a := 0) (e := 8) (fun k p _ _ hp => orP_tf1 hp) 8 0 (s, false) (Nat.le_refl _) (Nat.le_refl _) hs
theorem orP_ta1 {fs : px_FS} {n0 : List (List Nat)} {f : Nat} {s : px_TK} (h : orP fs n0 s) : orP fs n0 (ta1 fs f s) := by
  unfold ta1
  split
  · exact h
  · split
    · exact h
    · rename_i x hx
      split
      · exact orP_tfL h
      · rename_i ea
        exact orP_tk (obAt_8 hx (Bool.eq_false_iff.mpr ea)) h
theorem orP_tas {fs : px_FS} {n0 : List (List Nat)} : ∀ (c f : Nat) (s : px_TK), orP fs n0 s → orP fs n0 (itr (ta1 fs) f c s) := by
  intro c
  induction c with
  | zero => intro f s h; exact h
  | succ c ih =>
    intro f s h
    rw [itr_s]
    exact ih (f + 1) _ (orP_ta1 h)
theorem orP_taL {fs : px_FS} {xs : px_NL} {od : List Nat} : orP fs (xs.map Prod.fst) (taL fs xs od) := orP_tas 8 0 _ (fun w h => Or.inl h)
/-- the given names -/
theorem plc_new {w : List Nat} {l : List (List Nat)} (h : w ∉ l) : plc w l = l.length := by
  unfold plc
  cases e : idx w 0 l with
  | none => rfl
  | some i => exact absurd (idx_iff.mp (by rw [e]; rfl)) h
theorem ent_new {w : List Nat} {l : List (List Nat)} (h : w ∉ l) : ent w l = l ++ [w] := by
  unfold ent
  rw [if_neg (fun e => h (idx_iff.mp e))]
theorem tlG_nd : ∀ (l : List (List Nat × Int64)) (p : px_NL × List Nat), (l.map Prod.fst).Nodup → (∀ w, w ∈ l.map Prod.fst → w ∉ p.1.map Prod.fst) → (∀ d, d ∈ p.2 → d < p.1.length) → p.2.Nodup → (tlG l p).2.Nodup
  | [], _, _, _, _, h => h
  | g :: l, p, h1, h2, h3, h4 => by
    unfold tlG
    have hg : g.1 ∉ p.1.map Prod.fst := h2 g.1 (List.mem_cons_self ..)
    rw [List.map_cons, List.nodup_cons] at h1
    have hl : (setR (entL g.1 p.1) (plc g.1 (p.1.map Prod.fst)) (gvR g.2)).length = p.1.length + 1 := by
      have := congrArg List.length (setR_fst (xs := entL g.1 p.1) (i := plc g.1 (p.1.map Prod.fst)) (f := gvR g.2))
      rw [List.length_map, entL_fst, ent_new hg, List.length_append, List.length_map] at this
      exact this
    refine tlG_nd l _ h1.2 (fun w hw hm => ?_) (fun d hd => ?_) ?_
    · have hm : w ∈ (setR (entL g.1 p.1) (plc g.1 (p.1.map Prod.fst)) (gvR g.2)).map Prod.fst := hm
      rw [setR_fst, entL_fst] at hm
      rcases ent_mem.mp hm with e | e
      · exact h1.1 (e ▸ hw)
      · exact h2 w (List.mem_cons_of_mem _ hw) e
    · show d < (setR (entL g.1 p.1) (plc g.1 (p.1.map Prod.fst)) (gvR g.2)).length
      rw [hl]
      rcases List.mem_append.mp hd with e | e
      · have := h3 d e; omega
      · rw [List.mem_singleton.mp e, plc_new hg, List.length_map]; omega
    · refine List.nodup_append.mpr ⟨h4, List.nodup_cons.mpr ⟨List.not_mem_nil, List.nodup_nil⟩, fun x hx y hy e => ?_⟩
      have hx := h3 x hx
      rw [e, List.mem_singleton.mp hy, plc_new hg, List.length_map] at hx
      omega
theorem tlG_in : ∀ (l : List (List Nat × Int64)) (p : px_NL × List Nat) (w : List Nat), (w ∈ l.map Prod.fst ∨ (w ∈ p.1.map Prod.fst ∧ plc w (p.1.map Prod.fst) ∈ p.2)) → w ∈ (tlG l p).1.map Prod.fst ∧ plc w ((tlG l p).1.map Prod.fst) ∈ (tlG l p).2
  | [], p, w, h => by
    rcases h with h | h
    · exact absurd h List.not_mem_nil
    · exact h
  | g :: l, p, w, h => by
    unfold tlG
    refine tlG_in l _ w ?_
    have en : (setR (entL g.1 p.1) (plc g.1 (p.1.map Prod.fst)) (gvR g.2)).map Prod.fst = ent g.1 (p.1.map Prod.fst) := by rw [setR_fst, entL_fst]
    show w ∈ l.map Prod.fst ∨ (w ∈ (setR (entL g.1 p.1) (plc g.1 (p.1.map Prod.fst)) (gvR g.2)).map Prod.fst ∧ plc w ((setR (entL g.1 p.1) (plc g.1 (p.1.map Prod.fst)) (gvR g.2)).map Prod.fst) ∈ p.2 ++ [plc g.1 (p.1.map Prod.fst)])
    rw [en]
    have self : g.1 ∈ ent g.1 (p.1.map Prod.fst) ∧ plc g.1 (ent g.1 (p.1.map Prod.fst)) = plc g.1 (p.1.map Prod.fst) := by
      refine ⟨ent_mem.mpr (Or.inl rfl), ?_⟩
      rw [← entL_fst]
      exact plc_self
    rcases h with h | ⟨h1, h2⟩
    · rw [List.map_cons, List.mem_cons] at h
      rcases h with e | e
      · rw [e]
        exact Or.inr ⟨self.1, by rw [self.2]; exact List.mem_append_right _ (List.mem_singleton.mpr rfl)⟩
      · exact Or.inl e
    · exact Or.inr ⟨ent_mem.mpr (Or.inr h1), by rw [plc_ent h1]; exact List.mem_append_left _ h2⟩
theorem tlW_in : ∀ (l : List (List Nat)) (xs : px_NL) (w : List Nat), (w ∈ xs.map Prod.fst → w ∈ (tlW l xs).map Prod.fst ∧ plc w ((tlW l xs).map Prod.fst) = plc w (xs.map Prod.fst)) ∧ (w ∈ (tlW l xs).map Prod.fst → w ∈ xs.map Prod.fst ∨ w ∈ l)
  | [], xs, w => ⟨fun h => ⟨h, rfl⟩, fun h => Or.inl h⟩
  | v :: l, xs, w => by
    unfold tlW
    obtain ⟨i1, i2⟩ := tlW_in l (setR (entL v xs) (plc v (xs.map Prod.fst)) wsR) w
    rw [setR_fst, entL_fst] at i1 i2
    refine ⟨fun h => ?_, fun h => ?_⟩
    · obtain ⟨a1, a2⟩ := i1 (ent_mem.mpr (Or.inr h))
      exact ⟨a1, by rw [a2, plc_ent h]⟩
    · rcases i2 h with e | e
      · rcases ent_mem.mp e with e | e
        · exact Or.inr (by rw [e]; exact List.mem_cons_self ..)
        · exact Or.inl e
      · exact Or.inr (List.mem_cons_of_mem _ e)
theorem tlG_mem : ∀ (l : List (List Nat × Int64)) (p : px_NL × List Nat) (w : List Nat), w ∈ (tlG l p).1.map Prod.fst → w ∈ l.map Prod.fst ∨ w ∈ p.1.map Prod.fst
  | [], _, _, h => Or.inr h
  | g :: l, p, w, h => by
    unfold tlG at h
    rcases tlG_mem l _ w h with e | e
    · exact Or.inl (List.mem_cons_of_mem _ e)
    · have e : w ∈ (setR (entL g.1 p.1) (plc g.1 (p.1.map Prod.fst)) (gvR g.2)).map Prod.fst := e
      rw [setR_fst, entL_fst] at e
      rcases ent_mem.mp e with e | e
      · exact Or.inl (by rw [e]; exact List.mem_cons_self ..)
      · exact Or.inr e
section MGP
variable {fs : px_FS} {gs : List (List Nat × Int64)} {ws : List (List Nat)} {s : px_TK}
/-- the order has no number twice -/
theorem od_nd (hf : FSo fs) (hgl : gs.length ≤ 16) (hwl : ws.length ≤ 16) (hnd : (gs.map Prod.fst).Nodup) (es : s = taL fs (xs0 gs ws) (od0 gs)) : s.1.2.2.1.Nodup := by
  obtain ⟨hS, _⟩ := ST0_xs (gs := gs) (ws := ws) hgl hwl
  have e1 : (od0 gs).Nodup := tlG_nd gs ([], []) hnd (fun w _ h => List.not_mem_nil h) (fun d h => absurd h List.not_mem_nil) List.nodup_nil
  have h0 : ∀ (X : px_NL) (O : List Nat), (∀ d, d ∈ O → stN X d = 3) → O.Nodup → odN (0, X, O, none) := fun X O a b => ⟨fun d hd => Or.inr (Or.inr (a d hd)), b⟩
  have h1 : odN (taL fs (xs0 gs ws) (od0 gs)).1 := TK_inv (P := odN) odN_tk hf (h0 _ _ hS.2.2.1 e1)
  rw [es]
  generalize taL fs (xs0 gs ws) (od0 gs) = u at *
  exact h1.2
/-- every name is one of the order, wished, or a symbol's of an object taken -/
theorem nm_or (hf : FSo fs) (es : s = taL fs (xs0 gs ws) (od0 gs)) {i : Nat} {w : List Nat} (hnd : (s.1.2.1.map Prod.fst).Nodup) (hi : (s.1.2.1.map Prod.fst)[i]? = some w) : i ∈ s.1.2.2.1 ∨ w ∈ ws ∨ ∃ (t q : Nat), s.2.2.1[t]? = some q ∧ ∃ o n b k, obAt fs q = some (o, n, b, false) ∧ 1 ≤ k ∧ k < oM b ∧ yB b k ≠ 0 ∧ yT b k = w := by
  have hm : w ∈ txs s.1 := List.mem_of_getElem? hi
  have hp : plc w (txs s.1) = i := (List.getElem?_inj (plc_lt hm) hnd).mp ((plc_get hm).trans hi.symm)
  have ho : orP fs ((xs0 gs ws).map Prod.fst) s := by rw [es]; exact orP_taL
  rcases ho w hm with e | ⟨q, q1, q2⟩
  · have hG : odG (od0 gs) ((xs0 gs ws).map Prod.fst) s.1 := by
      rw [es]
      exact TK_inv (P := odG (od0 gs) ((xs0 gs ws).map Prod.fst)) odG_tk hf ⟨fun d hd => hd, fun w hw => ⟨hw, rfl⟩⟩
    have e' : w ∈ (tlW ws (tlG gs ([], [])).1).map Prod.fst := e
    rcases (tlW_in ws _ w).2 e' with e1 | e1
    · rcases tlG_mem gs ([], []) w e1 with e2 | e2
      · obtain ⟨a1, a2⟩ := tlG_in gs ([], []) w (Or.inl e2)
        have a3 := ((tlW_in ws _ w).1 a1).2
        refine Or.inl ?_
        have a4 := (hG.2 w e).2
        have a5 : plc w ((xs0 gs ws).map Prod.fst) = plc w ((tlG gs ([], [])).1.map Prod.fst) := a3
        rw [hp, a5] at a4
        rw [a4]
        exact hG.1 _ a2
      · exact absurd e2 List.not_mem_nil
    · exact Or.inr (Or.inl e1)
  · obtain ⟨t, ht⟩ := List.mem_iff_getElem?.mp q1
    exact Or.inr (Or.inr ⟨t, q, ht, q2⟩)
end MGP
/-- sums over a list that has every number once -/
theorem perm_sum {f : Nat → Nat} {l l' : List Nat} (h : l.Perm l') : (l.map f).sum = (l'.map f).sum := by
  induction h with
  | nil => rfl
  | cons x _ ih => rw [List.map_cons, List.map_cons, List.sum_cons, List.sum_cons, ih]
  | swap x y l => rw [List.map_cons, List.map_cons, List.map_cons, List.map_cons, List.sum_cons, List.sum_cons, List.sum_cons, List.sum_cons]; omega
  | trans _ _ h1 h2 => exact h1.trans h2
theorem all_sum {f : Nat → Nat} : ∀ (N : Nat) (l : List Nat), l.Nodup → (∀ x, x ∈ l → x < N) → (∀ x, x < N → x ∈ l) → (l.map f).sum = sumT f N ∧ l.length = N := by
  intro N
  induction N with
  | zero =>
    intro l _ h2 _
    cases l with
    | nil => exact ⟨rfl, rfl⟩
    | cons x l => exact absurd (h2 x (List.mem_cons_self ..)) (Nat.not_lt_zero x)
  | succ N ih =>
    intro l h1 h2 h3
    have hN := h3 N (by omega)
    have hp := List.perm_cons_erase hN
    have hm : ∀ x, x ∈ l.erase N ↔ x ≠ N ∧ x ∈ l := fun x => List.Nodup.mem_erase_iff h1
    obtain ⟨a1, a2⟩ := ih (l.erase N) (h1.erase N) (fun x hx => by
      have := (hm x).mp hx
      have := h2 x this.2
      omega) (fun x hx => (hm x).mpr ⟨by omega, h3 x (by omega)⟩)
    rw [perm_sum hp, hp.length_eq, List.map_cons, List.sum_cons, List.length_cons, a1, a2]
    exact ⟨Nat.add_comm _ _, rfl⟩
/-- sections and sites of an object, as they are laid one behind the other: how many so far, where their bytes end -/
def mg1 (b : Nat → Nat) (p : Nat → Bool) (i : Nat) (s : Nat × Nat) : Nat × Nat := if p i = true then (s.1 + 1, wiN s.2 + ptZ b i) else s
def mgp (ST : Nat → Bool) (t i : Nat) : Bool := ST (24 * t + i)
def mgq (b : Nat → Nat) (ST : Nat → Bool) (t i : Nat) : Bool := isS b i && ST (24 * t + oI b i)
def mgO (tb : Nat → Nat → Nat) (ST : Nat → Bool) (t : Nat) (s : Nat × Nat) : Nat × Nat := itr (mg1 (tb t) (mgq (tb t) ST t)) 1 (oS (tb t) - 1) (itr (mg1 (tb t) (mgp ST t)) 1 (oS (tb t) - 1) s)
def mgT (T : Nat) (tb : Nat → Nat → Nat) (ST : Nat → Bool) : Nat × Nat := itr (mgO tb ST) 0 T (1, 64)
theorem mg1_f {b : Nat → Nat} {p : Nat → Bool} {i : Nat} {s : Nat × Nat} (h : p i = false) : mg1 b p i s = s := by
  unfold mg1
  rw [h, if_neg (by decide)]
theorem mg1_t {b : Nat → Nat} {p : Nat → Bool} {i : Nat} {s : Nat × Nat} (h : p i = true) : mg1 b p i s = (s.1 + 1, wiN s.2 + ptZ b i) := by
  unfold mg1
  rw [if_pos h]
theorem itr_tail {α : Type} {g : Nat → α → α} : ∀ (d k : Nat) (s : α), (∀ i s, k ≤ i → i < k + d → g i s = s) → itr g k d s = s := by
  intro d
  induction d with
  | zero => intro k s _; rw [itr_0]
  | succ d ih => intro k s h; rw [itr_s, h k s (Nat.le_refl _) (by omega)]; exact ih (k + 1) s (fun i s hi hj => h i s (by omega) (by omega))
theorem itr_app {α : Type} {g : Nat → α → α} : ∀ (c d k : Nat) (s : α), itr g k (c + d) s = itr g (k + c) d (itr g k c s) := by
  intro c
  induction c with
  | zero => intro d k s; rw [itr_0, Nat.zero_add, Nat.add_zero]
  | succ c ih => intro d k s; rw [show c + 1 + d = (c + d) + 1 by omega, itr_s, ih d (k + 1), itr_s, show k + (c + 1) = k + 1 + c by omega]
/-- the first number does nothing, nor those from m on -/
theorem itr_cut {α : Type} {g : Nat → α → α} {m n : Nat} {s : α} (hm : 1 ≤ m) (hn : m ≤ n) (h0 : ∀ s, g 0 s = s) (h1 : ∀ i s, m ≤ i → i < n → g i s = s) : itr g 0 n s = itr g 1 (m - 1) s := by
  obtain ⟨k, rfl⟩ : ∃ k, n = 1 + (m - 1) + k := ⟨n - m, by omega⟩
  have e : itr g 0 1 s = s := h0 s
  rw [itr_app (1 + (m - 1)) k 0 s, itr_app 1 (m - 1) 0 s, e]
  exact itr_tail k (0 + (1 + (m - 1))) (itr g (0 + 1) (m - 1) s) (fun i s hi hj => h1 i s (by omega) (by omega))
theorem mg_le {b : Nat → Nat} {p : Nat → Bool} : ∀ (d i : Nat) (s : Nat × Nat), s.1 ≤ (itr (mg1 b p) i d s).1 := by
  intro d
  induction d with
  | zero => intro i s; rw [itr_0]; exact Nat.le_refl _
  | succ d ih =>
    intro i s
    rw [itr_s]
    refine Nat.le_trans ?_ (ih (i + 1) _)
    unfold mg1
    split
    · exact Nat.le_succ _
    · exact Nat.le_refl _
/-- locals -/
def lc1 (b : Nat → Nat) (j n : Nat) : Nat := if 1 ≤ j ∧ hsN b j = false then n + 1 else n
def lcO (tb : Nat → Nat → Nat) (t n : Nat) : Nat := itr (lc1 (tb t)) 1 (oM (tb t) - 1) n
def lcT (T : Nat) (tb : Nat → Nat → Nat) : Nat := itr (lcO tb) 0 T 1
/-- how many bytes a merge has -/
def mgZ (T : Nat) (tb : Nat → Nat → Nat) (ST : Nat → Bool) (lf : Nat → Nat) (N : Nat) : Nat := wiN (wiN (wiN (mgT T tb ST).2 + 24 * (lcT T tb + N)) + (1 + sumT (fun i => lf i + 1) N)) + 64 * ((mgT T tb ST).1 + 2)
def mgB (T : Nat) (tb : Nat → Nat → Nat) (ST : Nat → Bool) (lf : Nat → Nat) (N : Nat) : Bool := decide ((mgT T tb ST).1 ≤ 22 ∧ lcT T tb + N ≤ 64 ∧ mgZ T tb ST lf N ≤ 8192)
theorem eObj_S1 {b : Nat → Nat} {n : Nat} (h : eObj b n = 0) : 1 ≤ oS b := by
  unfold eObj at h
  split at h
  · cases h
  · split at h
    · cases h
    · rename_i c
      by_cases e : 1 ≤ oS b ∧ oS b ≤ 24 ∧ oR b + 64 * oS b ≤ n ∧ oT b 0 = 0
      · exact e.1
      · exact absurd e c
theorem isS_0 {b : Nat → Nat} {n : Nat} (h : eObj b n = 0) : isS b 0 = false := by
  unfold isS
  refine decide_eq_false (fun w => ?_)
  rw [eObj_T0 h] at w
  exact absurd w.1 (by decide)
theorem oK_0f {b : Nat → Nat} {n : Nat} (h : eObj b n = 0) : oK b 0 = false := by
  unfold oK
  refine decide_eq_false (fun w => ?_)
  rw [eObj_T0 h] at w
  omega
theorem lc_cut {b : Nat → Nat} {n : Nat} : itr (lc1 b) 0 (oM b) n = itr (lc1 b) 1 (oM b - 1) n := by
  cases e : oM b with
  | zero => rfl
  | succ m =>
    have h0 : lc1 b 0 n = n := by unfold lc1; rw [if_neg (by omega)]
    rw [itr_s, h0]
    rfl
end
