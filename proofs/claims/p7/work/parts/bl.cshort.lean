/-! isShort of the class, whole -/
section CSI
variable {F : Nat} {c : px_CT} {sk : Nat → Nat × Nat × Nat} {L : Nat} {τ : px_TT} {own : Nat → Nat × Nat} {fs : px_FS} {s : px_TK} {xs : px_NL} {ST rn : Nat → Bool} {t i j : Nat}
theorem k_is121 {q g base n p P0 X Y H sLv : Nat} {S : Nat → Int32} {b : Nat → Nat} (hD : cD sk L τ q g base n S) (hF : 8 < F) (hb : cb S base n = b) (hp : ob sk L 8 p) (h7 : fI τ p 7 = nI (base + P0)) (hH : H ≤ 42) (h2 : 2 ≤ sLv) (hn : P0 + sLv ≤ n) (hX : b (P0 + sLv - 2) = X) (hY : b (P0 + sLv - 1) = Y) : f_Link_isShort_121 F c (some p) (some q) (nI H) (lN sLv) (cH sk L τ) = some (bI (decide (skB X Y H ≠ 0)), cH sk L τ) := by
  have hO := hD.1.1.1.1
  have o := hO.1
  have hbn : base + n ≤ 65536 := hO.2.2.2.2.2.2.2.2.1
  have h5 := hO.2.2.2.2.2.2.1
  have n1 := k_num (F := F) (c := c) (x := P0 + sLv - 2) (k := 1) hO hF (by decide) (by omega)
  have n2 := k_num (F := F) (c := c) (x := P0 + sLv - 1) (k := 1) hO hF (by decide) (by omega)
  rw [nm_in (by omega), le_1, hb, hX] at n1
  rw [nm_in (by omega), le_1, hb, hY] at n2
  have lX : X < 256 := by rw [← hX, ← hb]; exact cb_lt _ _ _ _
  have lY : Y < 256 := by rw [← hY, ← hb]; exact cb_lt _ _ _ _
  unfold f_Link_isShort_121 f_Link_isShort_182 f_Link_isShort_211 f_Link_isShort_215 f_Link_isShort_216
  rw [bs, C8g7 hp, bs, h7, bs, C7g5 o, bs, h5, c_o o, bs, pk_sub (by omega), Nat.add_sub_cancel_left, lN_i, nI_add, pk_sub (by omega), n1, xb_mk, c_o o, bs, pk_sub (by omega), n2, xb_mk, lN_i, lN_i]
  have q1 : (nI X = nI 139) ↔ X = 139 := nI_eq (by omega) (by decide)
  have q2 : (nI X = nI 255) ↔ X = 255 := nI_eq (by omega) (by decide)
  have q3 : (nI Y = nI 21) ↔ Y = 21 := nI_eq (by omega) (by decide)
  have q4 : (nI Y = nI 37) ↔ Y = 37 := nI_eq (by omega) (by decide)
  have q5 : (nI H = nI 41) ↔ H = 41 := nI_eq (by omega) (by decide)
  have q6 := y199 Y lY
  have x1 := xz_1 (cH sk L τ)
  have x0 := xz_0 (cH sk L τ)
  simp only [q1, q2, q3, q4, q5, q6, x1, x0]
  unfold skB
  by_cases u1 : X = 139 <;> by_cases u2 : (Y ^^^ 5) &&& 199 = 0 <;> by_cases u3 : H = 41 <;> by_cases u4 : X = 255 <;> by_cases u5 : Y = 21 <;> by_cases u6 : Y = 37 <;> simp [u1, u2, u3, u4, u5, u6] <;> omega
theorem k_is44 {ph : px_H} {q p x H Lv Dv Y t : Nat} {nm pt : Option Nat} {V I : Bool} {fl1 fl2 : List Value} (oq : xo ph 7 q = some fl1) (o3 : xo ph 3 147 = some fl2) (hL : Lv < 2 ^ 62) (hDv : Dv < 2 ^ 64) (s4 : f_ObjectFile_num F c q (nI (x + 16)) (nI 8) ph = some (lN Dv, ph)) (s3 : f_ObjectFile_num F c q (nI (x + 12)) (nI 4) ph = some (lN Y, ph)) (kn : f_Link_nameOf F c 147 (nI t) (nI Y) ph = some (nm, ph)) (kp : f_Link_partOf F c 147 (nI t) (nI Y) ph = some (pt, ph)) (h1 : ∀ y, pt = some y → I = true) (h2 : pt = none → nm = none → I = false) (h3 : pt = none → ∀ n, nm = some n → ∃ v, xgI ph 5 5 n = some v ∧ I = decide (v = nI 3)) (h121 : 2 ≤ Lv → f_Link_isShort_121 F c (some p) (some q) (nI H) (lN Lv) ph = some (bI V, ph)) : f_Link_isShort_44 F c 147 (nI t) (nI x) (some p) (some q) (nI H) (lN Lv) ph = some (bI (decide (Dv = 18446744073709551612 ∧ 2 ≤ Lv ∧ I = true) && V), ph) := by
  unfold f_Link_isShort_44 f_Link_isShort_71 f_Link_isShort_119
  rw [bs, oq, bs, nI_add, s4, xb_mk]
  by_cases d1 : Dv = 18446744073709551612
  · rw [if_pos (show lN Dv = (-4 : Int64) by rw [d1]; decide)]
    by_cases d2 : 2 ≤ Lv
    · rw [if_pos (show (2 : Int64) ≤ lN Lv from (pk_lLE (a := 2) (by decide) (by omega)).mpr d2), oq, bs, nI_add, s3, xb_mk, o3, bs, lN_i, kn, xb_mk, o3, bs, kp, xb_mk]
      have hv := h121 d2
      cases pt with
      | some y =>
        rw [decide_eq_true (show Dv = 18446744073709551612 ∧ 2 ≤ Lv ∧ I = true from ⟨d1, d2, h1 y rfl⟩), Bool.true_and]
        exact hv
      | none =>
        cases nm with
        | none =>
          rw [decide_eq_false (show ¬ (Dv = 18446744073709551612 ∧ 2 ≤ Lv ∧ I = true) from fun w => by rw [h2 rfl rfl] at w; exact nomatch w.2.2), Bool.false_and]
          rfl
        | some n =>
          obtain ⟨v, v1, v2⟩ := h3 rfl n rfl
          show ((xgI ph 5 5 n).bind _) = _
          rw [v1, bs]
          by_cases c3 : v = nI 3
          · rw [decide_eq_true c3] at v2
            rw [if_pos c3, decide_eq_true (show Dv = 18446744073709551612 ∧ 2 ≤ Lv ∧ I = true from ⟨d1, d2, v2⟩), Bool.true_and]
            exact hv
          · rw [decide_eq_false c3] at v2
            rw [if_neg c3, decide_eq_false (show ¬ (Dv = 18446744073709551612 ∧ 2 ≤ Lv ∧ I = true) from fun w => by rw [v2] at w; exact nomatch w.2.2), Bool.false_and]
            rfl
    · rw [if_neg (show ¬ (2 : Int64) ≤ lN Lv from fun w => d2 ((pk_lLE (a := 2) (by decide) (by omega)).mp w)), decide_eq_false (show ¬ (Dv = 18446744073709551612 ∧ 2 ≤ Lv ∧ I = true) from fun w => d2 w.2.1), Bool.false_and]
      rfl
  · rw [if_neg (show ¬ lN Dv = (-4 : Int64) from fun w => d1 ((lEQ (b := 18446744073709551612) hDv (by decide)).mp (w.trans (by decide)))), decide_eq_false (show ¬ (Dv = 18446744073709551612 ∧ 2 ≤ Lv ∧ I = true) from fun w => d1 w.1), Bool.false_and]
    rfl
theorem sk_eq {A D E I : Prop} [Decidable A] [Decidable D] [Decidable E] [Decidable I] {v : Nat} (hA : A) : decide ((if A ∧ D ∧ E ∧ I then v else 0) ≠ 0) = (decide (D ∧ E ∧ I) && decide (v ≠ 0)) := by
  by_cases c : D ∧ E ∧ I
  · rw [if_pos ⟨hA, c⟩, decide_eq_true c, Bool.true_and]
  · rw [if_neg (fun w => c w.2), decide_eq_false c, Bool.false_and]
    exact decide_eq_false (fun w => w rfl)
theorem k_isShort (h : TKe sk L own τ fs s xs ST rn) (hk : STk fs s ST) (hF : 8 < F) (hW : WP s.2.2.1.length (tB fs s.2.2.1) s.2.1.1 xs) (ht : t < s.2.2.1.length) (hi : i < oS (tB fs s.2.2.1 t)) (hs : isS (tB fs s.2.2.1 t) i = true) (hst : ST (24 * t + oI (tB fs s.2.2.1 t) i) = true) (hj : j < sN (tB fs s.2.2.1 t) i) : f_Link_isShort F c 147 (nI t) (nI (sP (tB fs s.2.2.1 t) i j)) (some (152 + (24 * t + oI (tB fs s.2.2.1 t) i))) (cH sk L τ) = some (bI (decide (skY (tB fs s.2.2.1) s.2.1.1 xs t i j ≠ 0)), cH sk L τ) := by
  obtain ⟨q, q1, q2, hD, hcb, he, hp, hRS, h89⟩ := TKe_ob h ht
  have hS := h.1
  have hR := h.2.1
  have o147 := G147 hS
  have oq := hD.1.1.1.1.1
  have hT := BK_T (s := s) h.2.2.2.2.1.1
  obtain ⟨hyo, hS24, hM64⟩ := TKe_ys h t ht
  obtain ⟨hpl, hy⟩ := s_place he hi hs hj
  obtain ⟨s1, s2, s3, s4⟩ := k_site (F := F) (c := c) hD hF hcb hpl
  have hsit := eSit_0 he (isS_1 he hs) hi hs
  have hoI := hsit.1
  have hok := sOK_0w (hsit.2.2.2.2.2 j hj)
  have hH := wd_42 hok.1
  obtain ⟨y1, y2⟩ := hRS (sY (tB fs s.2.2.1 t) i j) (by omega)
  obtain ⟨ic1, ic2⟩ := inY_c h hW ht hy
  have hkp := hk _ (show 24 * t + oI (tB fs s.2.2.1 t) i < 24 * s.2.2.1.length by omega) hst
  rw [show (24 * t + oI (tB fs s.2.2.1 t) i) / 24 = t by omega, show (24 * t + oI (tB fs s.2.2.1 t) i) % 24 = oI (tB fs s.2.2.1 t) i by omega] at hkp
  have hp7 := ((hp (oI (tB fs s.2.2.1 t) i) (by omega)).2.2.2.2.2.1 hkp.1).2.2
  have opp := G_part hS (show 24 * t + oI (tB fs s.2.2.1 t) i < 1536 by omega)
  have hsD : sD (tB fs s.2.2.1 t) i j < 2 ^ 64 := by
    unfold sD
    rw [← hcb]
    exact le_lt (fun k => cb_lt _ _ _ k) _ 8
  have s1' : f_ObjectFile_num F c (10 + 2 * q) (nI (sP (tB fs s.2.2.1 t) i j)) (nI 8) (cH sk L τ) = some (lN (sL (tB fs s.2.2.1 t) i j), cH sk L τ) := by unfold sL; exact s1
  have s4' : f_ObjectFile_num F c (10 + 2 * q) (nI (sP (tB fs s.2.2.1 t) i j + 16)) (nI 8) (cH sk L τ) = some (lN (sD (tB fs s.2.2.1 t) i j), cH sk L τ) := by unfold sD; exact s4
  have hn : bsO fs q + tNf fs s.2.2.1 t ≤ 65536 := hD.1.1.1.1.2.2.2.2.2.2.2.2.1
  have hw1 := (eObj_0 he).1.1
  have kob := k_object (F := F) (c := c) h q1
  have kpt := k_partOf (F := F) (c := c) h hF hW ht hy
  have knm := k_nameOf (F := F) (c := c) (t := t) (j := sY (tB fs s.2.2.1 t) i j) hS hR (by omega) (by omega)
  rw [y1] at knm
  have e41 : (nI (sH (tB fs s.2.2.1 t) i j) = nI 41) ↔ sH (tB fs s.2.2.1 t) i j = 41 := nI_eq (by omega) (by decide)
  have e42 : (nI (sH (tB fs s.2.2.1 t) i j) = nI 42) ↔ sH (tB fs s.2.2.1 t) i j = 42 := nI_eq (by omega) (by decide)
  unfold f_Link_isShort f_Link_isShort_71
  rw [c_o o147, bs, kob, xb_mk, bs, c_o oq, bs, nI_add, s2, xb_mk, c_o oq, bs, s1', xb_mk, lN_i]
  by_cases cH0 : sH (tB fs s.2.2.1 t) i j = 41 ∨ sH (tB fs s.2.2.1 t) i j = 42
  · have hwd : wd (sH (tB fs s.2.2.1 t) i j) = 4 := by rcases cH0 with z | z <;> rw [z] <;> rfl
    have hrm := hok.2.2
    rw [hwd] at hrm
    obtain ⟨r1, r2⟩ := hrm.resolve_left (by decide)
    have hpz := hw1.2.2.2.1 (oI (tB fs s.2.2.1 t) i) hoI (by
      have hk2 := of_decide_eq_true ((Bool.and_eq_true _ _).mp hkp.1).2
      intro z
      rw [z] at hk2
      omega) r1
    have k44 := k_is44 (F := F) (c := c) (ph := cH sk L τ) (q := 10 + 2 * q) (p := 152 + (24 * t + oI (tB fs s.2.2.1 t) i)) (x := sP (tB fs s.2.2.1 t) i j) (H := sH (tB fs s.2.2.1 t) i j) (Lv := sL (tB fs s.2.2.1 t) i j) (Dv := sD (tB fs s.2.2.1 t) i j) (t := t) (I := inY (tB fs s.2.2.1) s.2.1.1 xs t (sY (tB fs s.2.2.1 t) i j)) (V := decide (skB (tB fs s.2.2.1 t (oP (tB fs s.2.2.1 t) (oI (tB fs s.2.2.1 t) i) + sL (tB fs s.2.2.1 t) i j - 2)) (tB fs s.2.2.1 t (oP (tB fs s.2.2.1 t) (oI (tB fs s.2.2.1 t) i) + sL (tB fs s.2.2.1 t) i j - 1)) (sH (tB fs s.2.2.1 t) i j) ≠ 0)) (c_o oq) (c_o o147) (by omega) hsD s4' s3 knm kpt (fun y hyy => by
      cases esc : secY (tB fs s.2.2.1) s.2.1.1 xs t (sY (tB fs s.2.2.1 t) i j) with
      | none => rw [esc] at hyy; cases hyy
      | some x =>
        by_cases ch : hsN (tB fs s.2.2.1 t) (sY (tB fs s.2.2.1 t) i j) = true
        · obtain ⟨_, _, e⟩ := ic1 ch
          rw [e, esc]; rfl
        · rw [ic2 ch, esc]; rfl) (fun hp0 hn0 => by
      cases esc : secY (tB fs s.2.2.1) s.2.1.1 xs t (sY (tB fs s.2.2.1 t) i j) with
      | some x => rw [esc] at hp0; cases hp0
      | none =>
        by_cases ch : hsN (tB fs s.2.2.1 t) (sY (tB fs s.2.2.1 t) i j) = true
        · unfold syN at hn0; rw [if_pos ch] at hn0; cases hn0
        · rw [ic2 ch, esc]; rfl) (fun hp0 n hn0 => by
      cases esc : secY (tB fs s.2.2.1) s.2.1.1 xs t (sY (tB fs s.2.2.1 t) i j) with
      | some x => rw [esc] at hp0; cases hp0
      | none =>
        by_cases ch : hsN (tB fs s.2.2.1 t) (sY (tB fs s.2.2.1 t) i j) = true
        · obtain ⟨x, hx, e⟩ := ic1 ch
          rw [esc, show (none : Option Nat).isSome = false from rfl, Bool.false_or] at e
          obtain ⟨z1, z2, z3, z4⟩ := CLm_at h.2.2.2.1.2.1 hx
          unfold syN at hn0
          rw [if_pos ch] at hn0
          have hn0 := Option.some.inj hn0
          rw [hn0] at z3 e
          exact ⟨_, C5g5 z3, e⟩
        · unfold syN at hn0; rw [if_neg ch] at hn0; cases hn0) (fun d2 => k_is121 (F := F) (c := c) (P0 := oP (tB fs s.2.2.1 t) (oI (tB fs s.2.2.1 t) i)) (H := sH (tB fs s.2.2.1 t) i j) (sLv := sL (tB fs s.2.2.1 t) i j) hD hF hcb opp hp7 hH d2 (by omega) rfl rfl)
    unfold skY
    rw [sk_eq cH0]
    rcases cH0 with z | z
    · rw [if_pos (e41.mpr z)]; exact k44
    · rw [if_neg (fun w => by have := e41.mp w; omega), if_pos (e42.mpr z)]; exact k44
  · unfold skY
    rw [if_neg (fun w => cH0 (Or.inl (e41.mp w))), if_neg (fun w => cH0 (Or.inr (e42.mp w))), if_neg (fun w => cH0 w.1), decide_eq_false (fun w => w rfl)]
    rfl
end CSI
