/-! the class's addresses of names -/
theorem pc1_y {xs : px_NL} {on : Bool} {rn : Nat → Bool} {th : Bool} {s : px_PG} {n : Nat} (h : cB xs on rn n = true) : ∃ v w o, pc1 xs on rn th s n = (w, (fun y => if y = n then v else s.2.1 y), o) := ⟨pcA xs th s.1 n, _, _, by unfold pc1; rw [if_pos h]⟩
theorem pc1_n {xs : px_NL} {on : Bool} {rn : Nat → Bool} {th : Bool} {s : px_PG} {n : Nat} (h : ¬ cB xs on rn n = true) : pc1 xs on rn th s n = s := by unfold pc1; rw [if_neg h]
theorem pc_no {xs : px_NL} {on : Bool} {rn : Nat → Bool} {th : Bool} {m : Nat} (hm : ¬ cB xs on rn m = true) : ∀ (l : List Nat) (s : px_PG), (l.foldl (pc1 xs on rn th) s).2.1 m = s.2.1 m := by
  intro l
  induction l with
  | nil => intro s; rfl
  | cons n l ih =>
    intro s
    rw [List.foldl_cons, ih]
    by_cases c1 : cB xs on rn n = true
    · obtain ⟨v, w, o, e⟩ := pc1_y (th := th) (s := s) c1
      rw [e]
      show (if m = n then v else s.2.1 m) = _
      rw [if_neg (fun q => hm (by rw [q]; exact c1))]
    · rw [pc1_n c1]
theorem own1_ge {k : Nat} {w : List Nat} {xs : px_NL} (hk : 1 ≤ k ∧ k ≤ 4) (h : AL (fun x => x.2.1 = 4 → 1 ≤ x.2.2.2.1 ∧ x.2.2.2.1 ≤ 4) xs) : AL (fun x => x.2.1 = 4 → 1 ≤ x.2.2.2.1 ∧ x.2.2.2.1 ≤ 4) (own1 k w xs) := AL_own1 (fun _ _ _ _ => hk) h
theorem ownL_ge {xs : px_NL} (h : AL (fun x => x.2.1 ≤ 3) xs) : AL (fun x => x.2.1 = 4 → 1 ≤ x.2.2.2.1 ∧ x.2.2.2.1 ≤ 4) (ownL xs) := by
  unfold ownL
  exact own1_ge ⟨by decide, by decide⟩ (own1_ge ⟨by decide, by decide⟩ (own1_ge ⟨by decide, by decide⟩ (own1_ge ⟨by decide, by decide⟩ (fun i x hx e => by have := h i x hx; omega))))
/-- the numbers of the layout that names are laid by -/
def LYn (τ : px_TT) (te bg2 fb2 bss mb2 : Nat) : Prop := fJ τ 1700 14 = lN te ∧ fJ τ 1700 15 = lN bss ∧ eJ τ 1705 2 = lN bg2 ∧ eJ τ 1706 2 = lN fb2 ∧ eJ τ 1707 2 = lN mb2
section CAM
variable {F : Nat} {c : px_CT} {sk : Nat → Nat × Nat × Nat} {L : Nat} {own : Nat → Nat × Nat} {fs : px_FS} {s : px_TK} {xs : px_NL} {ST rn : Nat → Bool} {ll : List Nat} {C B : Nat → Nat} {cpf : List Nat} {tO : Nat → Nat} {pp : Nat} {ad : Nat → Nat} {on : Bool} {R rn0 : Nat → Bool} {te bg2 fb2 bss mb2 : Nat} {na : Nat → Nat}
theorem STr_i (hr : STr fs s on R ST) {t : Nat} (ht : t < s.2.2.1.length) : ∀ i, i < 24 → ST (24 * t + i) = (kpB (tB fs s.2.2.1 t) i && (!s.2.1.1 (24 * t + i) && (!on || R (24 * t + i)))) := fun i hi => by
  have := hr (24 * t + i) (by omega)
  rw [show (24 * t + i) / 24 = t by omega, show (24 * t + i) % 24 = i by omega] at this
  exact this
theorem k_addressOf {τ : px_TT} {i : Nat} {x : List Nat × px_NR} (hF : 65536 < F) (h : LAc sk L own τ fs s xs ST rn ll C B cpf tO pp ad) (hr : STr fs s on R ST) (hW : WP s.2.2.1.length (tB fs s.2.2.1) s.2.1.1 xs) (hg : AL (fun x => x.2.1 = 4 → 1 ≤ x.2.2.2.1 ∧ x.2.2.2.1 ≤ 4) xs) (hn : LYn τ te bg2 fb2 bss mb2) (hx : xs[i]? = some x) (hcm : x.2.1 = 2 → (rn i = true → fJ τ (pN τ 149 i) 14 = lN (na i)) ∧ (rn i = false → na i = 0)) : f_Layout_addressOf F c 1700 (some (pN τ 149 i)) (cH sk L τ) = some (naV (ownV B (pf0 B tO (tB fs s.2.2.1) ll) tO (tB fs s.2.2.1) s.2.1.1 (sta (tB fs s.2.2.1) s.2.1.1 on R) pp ad) (ownK te bg2 fb2 bss mb2) na i x.2, cH sk L τ) := by
  have hS := h.1.1
  have hR := h.1.2.1
  have o := G1700 hS
  obtain ⟨z1, z2, hp, z4⟩ := CLm_at h.1.2.2.2.1.2.1 hx
  obtain ⟨⟨_, _, cd⟩, c13⟩ := h.1.2.2.2.1.2.1.2.1 i x hx
  obtain ⟨d0, d4, d2, dn, ds⟩ := cd
  have hby := hW.2.2.1 i x hx
  have hle : x.2.1 ≤ 4 := h.1.2.2.2.2.2.1 i x hx
  have hg4 := hg i x hx
  obtain ⟨w, r⟩ := x
  obtain ⟨st, fl, ok, by', gv, cs, cv⟩ := r
  unfold f_Layout_addressOf f_Layout_addressOf_62 f_Layout_addressOf_83
  rw [bs, C5g5 hp, bs]
  by_cases e2 : st = 2
  · subst e2
    have f13 := c13 rfl
    have d2 := d2 rfl
    have hcm := hcm rfl
    show _ = some (lN (na i), _)
    rw [d2.1, if_neg (by decide), if_neg (by decide), if_pos rfl, C5g13 hp, bs, f13]
    cases er : rn i with
    | false => rw [if_pos (show bI false = 0 from rfl), hcm.2 er]
    | true => rw [if_neg (show ¬ bI true = 0 by decide), C5g14 hp, bs, hcm.1 er]
  · by_cases e4 : st = 4
    · subst e4
      have d4 := d4 rfl
      have g4 := hg4 rfl
      have ko := k_ownAddress (F := F) (c := c) (k := ok) hS hR g4.1 g4.2 hn.1 hn.2.1 hn.2.2.1 hn.2.2.2.1 hn.2.2.2.2
      show _ = some (lN (ownK te bg2 fb2 bss mb2 ok), _)
      rw [d4.1, if_neg (by decide), if_neg (by decide), if_neg (by decide), if_pos rfl, C5g7 hp, bs, d4.2, c_o o, bs]
      show xb (f_Layout_ownAddress F c 1700 (lN (ok - 1)).toInt32 (cH sk L τ)) _ = _
      rw [ko, xb_mk]
    · by_cases e0 : st = 0
      · subst e0
        rw [d0 rfl, if_neg (by decide), if_neg (by decide), if_neg (by decide), if_neg (by decide)]
        rfl
      · have e13 : st = 1 ∨ st = 3 := by
          have : st ≤ 4 := hle
          omega
        cases by' with
        | none =>
          have dn := dn e13 rfl
          have en : naV (ownV B (pf0 B tO (tB fs s.2.2.1) ll) tO (tB fs s.2.2.1) s.2.1.1 (sta (tB fs s.2.2.1) s.2.1.1 on R) pp ad) (ownK te bg2 fb2 bss mb2) na i (st, fl, ok, none, gv, cs, cv) = gv := by unfold naV; rw [if_neg e2, if_neg e4, if_neg e0]
          rw [en, dn.1, if_neg (by decide), if_pos rfl, C5g7 hp, bs, dn.2]
        | some q =>
          obtain ⟨t, k⟩ := q
          obtain ⟨hv, hfx, hsc⟩ := ds e13 t k rfl
          have hby : t < s.2.2.1.length ∧ (1 ≤ k ∧ k < oM (tB fs s.2.2.1 t)) ∧ yB (tB fs s.2.2.1 t) k ≠ 0 ∧ sOf s.2.1.1 t (tB fs s.2.2.1 t) k = st ∧ st ≠ 0 ∧ yT (tB fs s.2.2.1 t) k = w := hby
          have en : naV (ownV B (pf0 B tO (tB fs s.2.2.1) ll) tO (tB fs s.2.2.1) s.2.1.1 (sta (tB fs s.2.2.1) s.2.1.1 on R) pp ad) (ownK te bg2 fb2 bss mb2) na i (st, fl, ok, some (t, k), gv, cs, cv) = ownV B (pf0 B tO (tB fs s.2.2.1) ll) tO (tB fs s.2.2.1) s.2.1.1 (sta (tB fs s.2.2.1) s.2.1.1 on R) pp ad t k := by unfold naV; rw [if_neg e2, if_neg e4, if_neg e0]
          obtain ⟨qq, hq, _, _, _, he, _, _, _⟩ := TKe_ob h.1 hby.1
          obtain ⟨w2', hyk, _⟩ := eObj_0 he
          have hyo := hyk k hby.2.1.1 hby.2.1.2
          have hS24 := w2'.1.2.1.2
          have hV : yV (tB fs s.2.2.1 t) k < 2 ^ 64 := by
            obtain ⟨_, _, _, _, e5, _⟩ := TKe_ob h.1 hby.1
            rw [← e5]
            exact le_lt (cb_lt _ _ _) _ 8
          have hso : wNo s.2.1.1 t (tB fs s.2.2.1 t) k ≠ 0 ∧ wNo s.2.1.1 t (tB fs s.2.2.1 t) k ≠ 65522 := by
            have h4 := hby.2.2.2.1
            unfold sOf at h4
            refine ⟨fun q => ?_, fun q => ?_⟩
            · rw [if_pos q] at h4; exact e0 h4.symm
            · rw [q, if_neg (by decide), if_pos rfl] at h4; exact e2 h4.symm
          have hw0 : yW (tB fs s.2.2.1 t) k ≠ 0 ∧ yW (tB fs s.2.2.1 t) k ≠ 65522 := by
            unfold wNo at hso
            refine ⟨fun q => ?_, fun q => ?_⟩
            · rw [if_neg (by omega)] at hso; exact hso.1 q
            · rw [if_neg (by omega)] at hso; exact hso.2 q
          rw [en, ownV_c (ST := ST) hyo hS24 hw0.2 (STr_i hr hby.1), if_neg hw0.1]
          by_cases cw : yW (tB fs s.2.2.1 t) k = 65521
          · rw [hfx cw, if_neg (by decide), if_pos rfl, C5g7 hp, bs, hv, if_neg (fun q => by omega)]
          · have hwS : yW (tB fs s.2.2.1 t) k < oS (tB fs s.2.2.1 t) := by
              have := (of_decide_eq_true hyo).2.1
              omega
            have hkp : kpB (tB fs s.2.2.1 t) (yW (tB fs s.2.2.1 t) k) = true := by
              have := ((of_decide_eq_true hyo).2.2.2 hby.2.2.1).1 (by omega) hwS
              unfold kpB
              rw [this, decide_eq_true hwS]; rfl
            have hsc := hsc cw
            have ka := k_addressIn (F := F) (c := c) (x := 24 * t + yW (tB fs s.2.2.1 t) k) hF h (by have := hby.1; omega) hV
            have eR : (if yW (tB fs s.2.2.1 t) k < 24 ∧ (kpB (tB fs s.2.2.1 t) (yW (tB fs s.2.2.1 t) k) = true ∨ s.2.1.1 (24 * t + yW (tB fs s.2.2.1 t) k) = true) then adV ST B (pf0 B tO (tB fs s.2.2.1) ll) tO (tB fs s.2.2.1) pp ad (24 * t + yW (tB fs s.2.2.1 t) k) (yV (tB fs s.2.2.1 t) k) else lN (yV (tB fs s.2.2.1 t) k)) = adV ST B (pf0 B tO (tB fs s.2.2.1) ll) tO (tB fs s.2.2.1) pp ad (24 * t + yW (tB fs s.2.2.1 t) k) (yV (tB fs s.2.2.1 t) k) := if_pos ⟨by omega, Or.inl hkp⟩
            rw [eR, hsc.1, if_pos rfl, C5n6 hp, bs, hsc.2]
            show ((xgR (cH sk L τ) 2 1 1700).bind fun t5 => _) = _
            rw [C2r1 o (GR_r (v := 1697) hR (by decide)), bs, bs, C5g7 hp, bs, hv, c_o (G1697 hS), bs, ka, xb_mk]
theorem k_ly_60 (hF : 65536 < F) (hr : STr fs s on R ST) (hW : WP s.2.2.1.length (tB fs s.2.2.1) s.2.1.1 xs) (hg : AL (fun x => x.2.1 = 4 → 1 ≤ x.2.2.2.1 ∧ x.2.2.2.1 ≤ 4) xs) (hna : ∀ i, rn i = false → na i = 0) : ∀ (d i f : Nat) (τ : px_TT), i + d = xs.length → d < f → LAc sk L own τ fs s xs ST rn ll C B cpf tO pp ad → LYn τ te bg2 fb2 bss mb2 → (∀ n, i ≤ n → n < xs.length → stN xs n = 2 → rn n = true → fJ τ (pN τ 149 n) 14 = lN (na n)) → (∀ j, j < i → fJ τ (pN τ 149 j) 14 = naF (ownV B (pf0 B tO (tB fs s.2.2.1) ll) tO (tB fs s.2.2.1) s.2.1.1 (sta (tB fs s.2.2.1) s.2.1.1 on R) pp ad) (ownK te bg2 fb2 bss mb2) na xs j) → ∃ τ', f_Layout_lay_60 F c f 1700 (nI i) (cH sk L τ) = some ((), cH sk L τ') ∧ (∀ j, j < xs.length → fJ τ' (pN τ' 149 j) 14 = naF (ownV B (pf0 B tO (tB fs s.2.2.1) ll) tO (tB fs s.2.2.1) s.2.1.1 (sta (tB fs s.2.2.1) s.2.1.1 on R) pp ad) (ownK te bg2 fb2 bss mb2) na xs j) ∧ frJE J60 E0 τ τ' := by
  intro d
  induction d with
  | zero =>
    intro i f τ hi hf h hn hc hA
    obtain ⟨f, rfl⟩ : ∃ x, f = x + 1 := ⟨f - 1, by omega⟩
    obtain ⟨s1, s2, s3, s4, s5, s6, s7⟩ := h.1.2.2.2.1.2.1.1
    rw [List.length_map] at s4 s6
    refine ⟨τ, ?_, fun j hj => hA j (by omega), frJE_refl⟩
    unfold f_Layout_lay_60 f_Layout_lay_101
    rw [C2r0 (G1700 h.1.1) (GR_r (v := 147) h.1.2.1 (by decide)), bs, C3r3 (G147 h.1.1) (GR_r (v := 148) h.1.2.1 (by decide)), bs, C6g2 s1, bs, s6, if_pos (nI_le (by omega) (by omega))]
  | succ d ih =>
    intro i f τ hi hf h hn hc hA
    obtain ⟨f, rfl⟩ : ∃ x, f = x + 1 := ⟨f - 1, by omega⟩
    have hil : i < xs.length := by omega
    obtain ⟨x, hx⟩ : ∃ x, xs[i]? = some x := ⟨_, List.getElem?_eq_getElem hil⟩
    have hgx : xs.getD i ([], nr0) = x := by rw [List.getD_eq_getElem?_getD, hx]; rfl
    obtain ⟨s1, s2, s3, s4, s5, s6, s7⟩ := h.1.2.2.2.1.2.1.1
    rw [List.length_map] at s4 s6
    obtain ⟨_, z2, hp, _⟩ := CLm_at h.1.2.2.2.1.2.1 hx
    have hge := (h.1.2.2.2.1.1 149 i _ (Or.inr (Or.inr rfl)) z2).1
    have ka := k_addressOf (F := F) (c := c) (on := on) (R := R) (te := te) (bg2 := bg2) (fb2 := fb2) (bss := bss) (mb2 := mb2) (na := na) hF h hr hW hg hn hx (fun e => ⟨fun er => hc i (Nat.le_refl _) hil (by unfold stN; rw [hgx]; exact e) er, hna i⟩)
    have eV : naV (ownV B (pf0 B tO (tB fs s.2.2.1) ll) tO (tB fs s.2.2.1) s.2.1.1 (sta (tB fs s.2.2.1) s.2.1.1 on R) pp ad) (ownK te bg2 fb2 bss mb2) na i x.2 = naF (ownV B (pf0 B tO (tB fs s.2.2.1) ll) tO (tB fs s.2.2.1) s.2.1.1 (sta (tB fs s.2.2.1) s.2.1.1 on R) pp ad) (ownK te bg2 fb2 bss mb2) na xs i := by unfold naF; rw [hgx]
    rw [eV] at ka
    obtain ⟨τ1, hτ1⟩ : ∃ y, y = tJ τ (pN τ 149 i) 14 (naF (ownV B (pf0 B tO (tB fs s.2.2.1) ll) tO (tB fs s.2.2.1) s.2.1.1 (sta (tB fs s.2.2.1) s.2.1.1 on R) pp ad) (ownK te bg2 fb2 bss mb2) na xs i) := ⟨_, rfl⟩
    have f1 : frJE J60 E0 τ τ1 := by rw [hτ1]; exact frJE_J ⟨hge, rfl⟩
    have eP : ∀ n, pN τ1 149 n = pN τ 149 n := fun n => by unfold pN; rw [f1.2.2.2.2.2]
    have hne : ∀ n, n < xs.length → n ≠ i → pN τ 149 n ≠ pN τ 149 i := fun n hn2 hni => by
      have zn := (CLm_at h.1.2.2.2.1.2.1 (List.getElem?_eq_getElem hn2)).2.1
      exact NP_ne h.1.2.2.2.1.1 (Or.inr (Or.inr rfl)) (Or.inr (Or.inr rfl)) zn z2 (fun q => hni q.2)
    obtain ⟨τ2, g1, g2, g3⟩ := ih (i + 1) f τ1 (by omega) (by omega) (LAc_J h f1 (fun a k w => Or.inr (Or.inr w))) ⟨by rw [f1.2.1 _ _ (fun w => by unfold J60 at w; omega)]; exact hn.1, by rw [f1.2.1 _ _ (fun w => by unfold J60 at w; omega)]; exact hn.2.1, by rw [f1.2.2.2.2.1 _ _ (fun w => w)]; exact hn.2.2.1, by rw [f1.2.2.2.2.1 _ _ (fun w => w)]; exact hn.2.2.2.1, by rw [f1.2.2.2.2.1 _ _ (fun w => w)]; exact hn.2.2.2.2⟩ (fun n h1 h2 h3 h4 => by
      rw [eP, hτ1, tJ_ne (Or.inl (hne n h2 (by omega)))]
      exact hc n (by omega) h2 h3 h4) (fun j hj => by
      rw [eP]
      by_cases cj : j = i
      · rw [cj, hτ1, tJ_at]
      · rw [hτ1, tJ_ne (Or.inl (hne j (by omega) cj))]
        exact hA j (by omega))
    refine ⟨τ2, ?_, g2, frJE_trans f1 g3⟩
    unfold f_Layout_lay_60
    rw [C2r0 (G1700 h.1.1) (GR_r (v := 147) h.1.2.1 (by decide)), bs, C3r3 (G147 h.1.1) (GR_r (v := 148) h.1.2.1 (by decide)), bs, C6g2 s1, bs, s6, if_neg (nI_ge hil (by omega)), bs, C3r3 (G147 h.1.1) (GR_r (v := 148) h.1.2.1 (by decide)), bs, c_o s1, bs, k_nat148 h.1 hil, xb_mk, c_o (G1700 h.1.1), bs, ka, xb_mk, bs, C5p14 hp, bs, ← hτ1, nI_add, g1]
end CAM
