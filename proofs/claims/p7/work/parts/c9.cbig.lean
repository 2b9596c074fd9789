/-! too large: the class's answer 3 -/
theorem pg_same {tb : Nat → Nat → Nat} {g : Nat} : ∀ (l : List Nat) (s : px_PG), (∀ x, x ∈ l → cnd tb g x = true → zS tb x = 0) → (l.foldl (pg1 tb g false) s).1 = s.1 := by
  intro l
  induction l with
  | nil => intro s _; rfl
  | cons x l ih =>
    intro s hz
    rw [List.foldl_cons, ih _ (fun y hy => hz y (List.mem_cons_of_mem _ hy))]
    by_cases c : cnd tb g x = true
    · have e : (pg1 tb g false s x).1 = pgA tb false s.1 x + zS tb x := by unfold pg1; rw [if_pos c]
      rw [e, hz x (List.mem_cons_self) c]
      unfold pgA
      rw [if_neg (fun q => by cases q.1)]
      rfl
    · rw [pg1_n (by cases hh : cnd tb g x with | false => rfl | true => exact absurd hh c)]
theorem pc_same {xs : px_NL} {on : Bool} {rn : Nat → Bool} : ∀ (l : List Nat) (s : px_PG), (∀ n, n ∈ l → cB xs on rn n = true → cmZ xs n = 0) → (l.foldl (pc1 xs on rn false) s).1 = s.1 := by
  intro l
  induction l with
  | nil => intro s _; rfl
  | cons x l ih =>
    intro s hz
    rw [List.foldl_cons, ih _ (fun y hy => hz y (List.mem_cons_of_mem _ hy))]
    by_cases c : cB xs on rn x = true
    · have e : (pc1 xs on rn false s x).1 = pcA xs false s.1 x + cmZ xs x := by unfold pc1; rw [if_pos c]
      rw [e, hz x (List.mem_cons_self) c]
      unfold pcA
      rw [if_neg (by decide)]
      rfl
    · rw [pc1_n c]
theorem pf_no {B : Nat → Nat} {tO : Nat → Nat} {tb : Nat → Nat → Nat} {nd : List (List Nat)} : ∀ (l : List Nat) (pf : List Nat), (∀ x, x ∈ l → sS tb x = false) → l.foldl (s1F B nd tO tb) pf = pf := by
  intro l
  induction l with
  | nil => intro pf _; rfl
  | cons x l ih =>
    intro pf h
    rw [List.foldl_cons]
    have e : s1F B nd tO tb pf x = pf := by unfold s1F; rw [if_neg (by rw [h x List.mem_cons_self]; decide)]
    rw [e]
    exact ih pf (fun y hy => h y (List.mem_cons_of_mem _ hy))
theorem thx_z {tb : Nat → Nat → Nat} {ll : List Nat} {j : Nat} (h : ll.any (thx tb j) = false) {x : Nat} (hx : x ∈ ll) (hg : sgO (oG (tb (x / 24)) (x % 24)) = j) : zS tb x = 0 := by
  rcases Nat.eq_zero_or_pos (zS tb x) with e | e
  · exact e
  · have : ll.any (thx tb j) = true := List.any_eq_true.mpr ⟨x, hx, by unfold thx; rw [decide_eq_true hg, decide_eq_true e]; rfl⟩
    rw [h] at this
    cases this
theorem cnd_og {tb : Nat → Nat → Nat} {g x : Nat} (h : cnd tb g x = true) : oG (tb (x / 24)) (x % 24) = g := by
  unfold cnd at h
  rw [Bool.and_eq_true] at h
  exact of_decide_eq_true h.1
section LYB
variable {tb : Nat → Nat → Nat} {xs : px_NL} {ll od : List Nat} {ns : Nat} {th : Nat → Bool} {on : Bool} {rn : Nat → Bool} {B tO : Nat → Nat} {fe0 bg0 : Nat} {G0 : px_PG} {fe1 mem1 bg1 : Nat} {G1 : px_PG} {fe2 mem2 bg2 : Nat} {G4 G5 G2 : px_PG} {sp : Nat} {G3 CM : px_PG} {fe3 : Nat}
theorem LYe_z (hth : th = thS tb ll xs od on rn ns) (hL : LYe B tO tb ll xs od ns on rn th fe0 bg0 G0 fe1 mem1 bg1 G1 fe2 mem2 bg2 G4 G5 G2 sp G3 CM fe3) : (th 0 = false → G0.1 - bg0 = 0) ∧ (th 1 = false → G1.1 + psz B (pf0 B tO tb ll) - bg1 = 0) ∧ (th 2 = false → CM.1 - bg2 = 0) := by
  obtain ⟨q0, q1, q2, q3, q4, q5, q6, q7, q8, q9, q10, q11, q12, q13, q14, q15, q16⟩ := hL
  refine ⟨fun e => ?_, fun e => ?_, fun e => ?_⟩
  · have e2 := e
    rw [hth] at e2
    unfold thS at e2
    rw [Bool.or_eq_false_iff] at e2
    have := pg_same (tb := tb) (g := 0) ll (bg0, (fun _ => 0), none) (fun x hx hc => thx_z e2.1 hx (by rw [cnd_og hc]; rfl))
    rw [q2, e, this]
    exact Nat.sub_self bg0
  · have e2 := e
    rw [hth] at e2
    unfold thS at e2
    rw [Bool.or_eq_false_iff] at e2
    have hs : ∀ x, x ∈ ll → sS tb x = false := fun x hx => by
      cases hh : sS tb x with
      | false => rfl
      | true =>
        have h1 := sS_z hh
        have h2 := thx_z e2.1 hx (by rw [sS_g hh]; rfl)
        omega
    have := pg_same (tb := tb) (g := 1) ll (bg1, G0.2.1, none) (fun x hx hc => thx_z e2.1 hx (by rw [cnd_og hc]; rfl))
    have e0 : pf0 B tO tb ll = [] := by unfold pf0; exact pf_no ll [] hs
    rw [q6, e, this, e0]
    exact Nat.sub_self bg1
  · have e2 := e
    rw [hth] at e2
    unfold thS at e2
    rw [Bool.or_eq_false_iff, decide_eq_true (rfl : (2 : Nat) = 2), Bool.true_and, Bool.or_eq_false_iff] at e2
    have hn0 : ns = 0 := by have := of_decide_eq_false e2.2.2; omega
    have s4 := pg_same (tb := tb) (g := 4) ll (bg2, psF B (pf0 B tO tb ll) tO tb G1.1 G1.2.1, none) (fun x hx hc => thx_z e2.1 hx (by rw [cnd_og hc]; rfl))
    have s2 := pg_same (tb := tb) (g := 2) ll (G4.1, G5.2.1, none) (fun x hx hc => thx_z e2.1 hx (by rw [cnd_og hc]; rfl))
    have s3 := pg_same (tb := tb) (g := 3) ll (sp + 8 * ns, G2.2.1, none) (fun x hx hc => thx_z e2.1 hx (by rw [cnd_og hc]; rfl))
    have sc := pc_same (xs := xs) (on := on) (rn := rn) od (G3.1, (fun _ => 0), G3.2.2) (fun n hn hc => by
      rcases Nat.eq_zero_or_pos (cmZ xs n) with z | z
      · exact z
      · have : od.any (thc xs on rn) = true := List.any_eq_true.mpr ⟨n, hn, by unfold thc; rw [hc, decide_eq_true z]; rfl⟩
        rw [e2.2.1] at this
        cases this)
    rw [← e, ← q10] at s4
    rw [← e, ← q12] at s2
    rw [← e, ← q14] at s3
    rw [← e, ← q15] at sc
    have s4 : G4.1 = bg2 := s4
    have s2 : G2.1 = G4.1 := s2
    have s3 : G3.1 = sp + 8 * ns := s3
    have sc : CM.1 = G3.1 := sc
    rw [hn0, if_neg (by decide)] at q13
    omega
theorem LYe_b (hZ : ∀ x, x ∈ ll → zS tb x ≤ 16384 ∧ alS tb x ≤ 4096) (hl1 : ll.length ≤ 1536) (hns : ns ≤ 2800) (hpz : psz B (pf0 B tO tb ll) ≤ 2 ^ 30) (hcm : cmOK xs) (hod : ∀ d, d ∈ od → d < xs.length) (hol : od.length ≤ 4128) (hL : LYe B tO tb ll xs od ns on rn th fe0 bg0 G0 fe1 mem1 bg1 G1 fe2 mem2 bg2 G4 G5 G2 sp G3 CM fe3) : (G0.1 < 2 ^ 40 ∧ G1.1 + psz B (pf0 B tO tb ll) < 2 ^ 40 ∧ CM.1 < 2 ^ 40 ∧ fe3 < 2 ^ 40) ∧ (upN fe0 16 < 2 ^ 40 ∧ upN fe1 16 < 2 ^ 40 ∧ upN fe2 16 < 2 ^ 40) ∧ (bg0 ≤ G0.1 ∧ bg1 ≤ G1.1 ∧ bg2 ≤ sp ∧ sp < 2 ^ 40) := by
  obtain ⟨q0, q1, q2, q3, q4, q5, q6, q7, q8, q9, q10, q11, q12, q13, q14, q15, q16⟩ := hL
  have h6 := ar_6 (K := 0) hl1
  have hsg : sgN th 3 ≤ 3 := by
    show (((0 + (if th 0 = true then 1 else 0)) + (if th 1 = true then 1 else 0)) + (if th 2 = true then 1 else 0)) ≤ 3
    split <;> split <;> split <;> omega
  have hfe0 : fe0 ≤ 288 := by rw [q0]; split <;> omega
  have u0 := upN_le (v := fe0) (a := 16) (by decide)
  have v0 := bgN_lt (mem := 4194304) (fp := upN fe0 16) (th := th 0)
  rw [← q1] at v0
  have m0 := pgs_m (g := 0) (th := th 0) ll (bg0, (fun _ => 0), none) hZ
  rw [← q2] at m0
  have m0 : bg0 ≤ G0.1 ∧ G0.1 ≤ bg0 + ll.length * 20480 := m0
  have hfe1 : fe1 < 2 ^ 34 := by rw [q3]; split <;> omega
  have hmem1 : mem1 < 2 ^ 34 := by rw [q4]; split <;> omega
  have u1 := upN_le (v := fe1) (a := 16) (by decide)
  have v1 := bgN_lt (mem := mem1) (fp := upN fe1 16) (th := th 1)
  rw [← q5] at v1
  have m1 := pgs_m (g := 1) (th := th 1) ll (bg1, G0.2.1, none) hZ
  rw [← q6] at m1
  have m1 : bg1 ≤ G1.1 ∧ G1.1 ≤ bg1 + ll.length * 20480 := m1
  have hfe2 : fe2 < 2 ^ 35 := by rw [q7]; split <;> omega
  have hmem2 : mem2 < 2 ^ 35 := by rw [q8]; split <;> omega
  have u2 := upN_le (v := fe2) (a := 16) (by decide)
  have v2 := bgN_lt (mem := mem2) (fp := upN fe2 16) (th := th 2)
  rw [← q9] at v2
  have m4 := pgs_m (g := 4) (th := th 2) ll (bg2, psF B (pf0 B tO tb ll) tO tb G1.1 G1.2.1, none) hZ
  rw [← q10] at m4
  have m4 : bg2 ≤ G4.1 ∧ G4.1 ≤ bg2 + ll.length * 20480 := m4
  have m2 := pgs_m (g := 2) (th := th 2) ll (G4.1, G5.2.1, none) hZ
  rw [← q12] at m2
  have m2 : G4.1 ≤ G2.1 ∧ G2.1 ≤ G4.1 + ll.length * 20480 := m2
  have u8 := upN_le (v := G2.1) (a := 8) (by decide)
  have hsp : G2.1 ≤ sp ∧ sp < G2.1 + 8 := by rw [q13]; split <;> omega
  have m3 := pgs_m (g := 3) (th := th 2) ll (sp + 8 * ns, G2.2.1, none) hZ
  rw [← q14] at m3
  have m3 : sp + 8 * ns ≤ G3.1 ∧ G3.1 ≤ sp + 8 * ns + ll.length * 20480 := m3
  have mc := pcs_m (on := on) (rn := rn) (th := th 2) hcm od (G3.1, (fun _ => 0), G3.2.2) hod
  rw [← q15] at mc
  have mc : G3.1 ≤ CM.1 ∧ CM.1 ≤ G3.1 + od.length * 20480 := mc
  have ho : od.length * 20480 ≤ 4128 * 20480 := Nat.mul_le_mul_right _ hol
  have hfe3 : fe3 < 2 ^ 39 := by rw [q16]; split <;> omega
  refine ⟨⟨by omega, by omega, by omega, by omega⟩, ⟨by omega, by omega, by omega⟩, by omega, by omega, by omega, by omega⟩
end LYB
section CBG
variable {F : Nat} {c : px_CT} {sk : Nat → Nat × Nat × Nat} {L : Nat} {τ : px_TT}
theorem k_tl_2 {mb : Nat → Nat} {fe : Nat} (hS : GS sk L) (hR : GR τ) (h7 : ∀ j, j < 3 → eJ τ 1707 j = lN (mb j) ∧ mb j < 2 ^ 40) (h18 : fJ τ 1700 18 = lN fe) (hfe : fe < 2 ^ 40) : ∀ (d j f : Nat), j + d = 3 → d < f → f_Layout_isTooLarge_2 F c f 1700 (nI j) (cH sk L τ) = some (bI (ex1 (fun i => decide (65536 < mb i)) j d || decide (65536 < fe)), cH sk L τ) := by
  intro d
  induction d with
  | zero =>
    intro j f hj hf
    obtain ⟨f, rfl⟩ : ∃ x, f = x + 1 := ⟨f - 1, by omega⟩
    unfold f_Layout_isTooLarge_2 f_Layout_isTooLarge_28 f_Layout_isTooLarge_44
    rw [if_pos (nI_le (by omega) (by omega)), C2g18 (G1700 hS), bs, h18, show (65536 : Int64) = lN 65536 from rfl]
    show _ = some (bI (false || decide (65536 < fe)), _)
    rw [Bool.false_or]
    by_cases c1 : fe ≤ 65536
    · rw [if_pos ((pk_lLE (by omega) (by decide)).mpr c1), xz_0, decide_eq_false (by omega)]
    · rw [if_neg (fun q => c1 ((pk_lLE (by omega) (by decide)).mp q)), xz_1, decide_eq_true (by omega)]
  | succ d ih =>
    intro j f hj hf
    obtain ⟨f, rfl⟩ : ∃ x, f = x + 1 := ⟨f - 1, by omega⟩
    have h7j := h7 j (by omega)
    unfold f_Layout_isTooLarge_2 f_Layout_isTooLarge_20
    rw [if_neg (nI_ge (by omega) (by omega)), C2r8 (G1700 hS) (GR_r (v := 1707) hR (by decide)), bs, c_aJ (G1707 hS) (by decide) (by omega), bs, h7j.1, show (65536 : Int64) = lN 65536 from rfl, nI_add]
    show _ = some (bI (ex1 (fun i => decide (65536 < mb i)) j (d + 1) || decide (65536 < fe)), _)
    have e : ex1 (fun i => decide (65536 < mb i)) j (d + 1) = (decide (65536 < mb j) || ex1 (fun i => decide (65536 < mb i)) (j + 1) d) := ex1_s
    rw [e]
    by_cases c1 : mb j ≤ 65536
    · rw [if_pos ((pk_lLE (by omega) (by decide)).mpr c1), ih (j + 1) f (by omega) (by omega), decide_eq_false (show ¬ 65536 < mb j by omega), Bool.false_or]
    · rw [if_neg (fun q => c1 ((pk_lLE (by omega) (by decide)).mp q)), decide_eq_true (show 65536 < mb j by omega)]
      rfl
theorem k_isTooLarge {th : Nat → Bool} {mb0 mb1 mb2 fe : Nat} (hF : 8 < F) (hS : GS sk L) (hR : GR τ) (e0 : eJ τ 1707 0 = lN mb0) (e1 : eJ τ 1707 1 = lN mb1) (e2 : eJ τ 1707 2 = lN mb2) (h18 : fJ τ 1700 18 = lN fe) (hb : mb0 < 2 ^ 40 ∧ mb1 < 2 ^ 40 ∧ mb2 < 2 ^ 40 ∧ fe < 2 ^ 40) (hz : (th 0 = false → mb0 = 0) ∧ (th 1 = false → mb1 = 0) ∧ (th 2 = false → mb2 = 0)) : f_Layout_isTooLarge F c 1700 (cH sk L τ) = some (bI (lyA th mb0 mb1 mb2 fe), cH sk L τ) := by
  have k := k_tl_2 (F := F) (c := c) (τ := τ) (mb := fun j => if j = 0 then mb0 else if j = 1 then mb1 else mb2) (fe := fe) hS hR (fun j hj => by
    rcases (show j = 0 ∨ j = 1 ∨ j = 2 by omega) with e | e | e
    · subst e; exact ⟨e0, hb.1⟩
    · subst e; exact ⟨e1, hb.2.1⟩
    · subst e; exact ⟨e2, hb.2.2.1⟩) h18 hb.2.2.2 3 0 F rfl (by omega)
  have a0 : decide (65536 < mb0) = (th 0 && decide (65536 < mb0)) := by
    cases e : th 0 with
    | false => rw [hz.1 e]; rfl
    | true => rw [Bool.true_and]
  have a1 : decide (65536 < mb1) = (th 1 && decide (65536 < mb1)) := by
    cases e : th 1 with
    | false => rw [hz.2.1 e]; rfl
    | true => rw [Bool.true_and]
  have a2 : decide (65536 < mb2) = (th 2 && decide (65536 < mb2)) := by
    cases e : th 2 with
    | false => rw [hz.2.2 e]; rfl
    | true => rw [Bool.true_and]
  unfold f_Layout_isTooLarge lyA
  rw [k, ← a0, ← a1, ← a2]
  show some (bI ((decide (65536 < mb0) || (decide (65536 < mb1) || (decide (65536 < mb2) || false))) || decide (65536 < fe)), _) = _
  rw [Bool.or_false, Bool.or_assoc, Bool.or_assoc, Bool.or_assoc]
end CBG
