/-! pack of the class and of the reference: the same answer (steps spelled out by sf/pp.py) -/
theorem sum_bK (g : Nat → Nat) (K : Nat) : ∀ l : List Nat, (∀ q, q ∈ l → g q ≤ K) → (l.map g).sum ≤ K * l.length := by
  intro l
  induction l with
  | nil => intro _; exact Nat.zero_le _
  | cons x l ih =>
    intro h
    have h1 := h x (List.mem_cons_self ..)
    have h2 := ih (fun q hq => h q (List.mem_cons_of_mem _ hq))
    rw [List.map_cons, List.sum_cons, List.length_cons, Nat.mul_add]
    omega
theorem sumT_bK (g : Nat → Nat) (K : Nat) : ∀ M, (∀ j, j < M → g j ≤ K) → sumT g M ≤ K * M := by
  intro M
  induction M with
  | zero => intro _; exact Nat.zero_le _
  | succ M ih =>
    intro h
    have h1 := h M (by omega)
    have h2 := ih (fun j hj => h j (by omega))
    have e : sumT g (M + 1) = sumT g M + g M := rfl
    rw [e, Nat.mul_add]
    omega
/-- how many bytes a pack has -/
def pkT (fs : px_FS) : Nat := 68 + ((obL fs 64).map (pz1 fs)).sum + (4 + 4 * ((obL fs 64).map (pn1 fs)).sum + ((obL fs 64).map (pl1 fs)).sum + (4 + 4 * ((obL fs 64).map (pn1 fs)).sum + ((obL fs 64).map (pl1 fs)).sum) % 2)
def pkO (fs : px_FS) : Bool := decide ((obL fs 64).length ≤ 7) && decide (pkT fs ≤ 8192)
theorem pkR_e (fs : px_FS) : pkR fs = if pkO fs = true then nI (pkT fs) else Int32.ofInt (-1) := by
  unfold pkR pkO pkA
  by_cases c1 : (obL fs 64).length ≤ 7
  · rw [if_pos c1, decide_eq_true c1, Bool.true_and]
    show (if pkT fs ≤ 8192 then nI (pkT fs) else Int32.ofInt (-1)) = _
    by_cases c2 : pkT fs ≤ 8192
    · rw [if_pos c2, if_pos (decide_eq_true c2)]
    · rw [if_neg c2, if_neg (by rw [decide_eq_false c2]; decide)]
  · rw [if_neg c1, decide_eq_false c1, Bool.false_and, if_neg (by decide)]
section BPK
variable {F : Nat} {c : px_CT} {sk : Nat → Nat × Nat × Nat} {L : Nat} {own : Nat → Nat × Nat} {τ0 τ : px_TT} {fs : List (Nat × (Nat → Nat))} {gs : List (List Nat × Int64)} {ws : List (List Nat)} {n : Nat} {b : Nat → Nat} {a : Int32} {Y : px_Y} {q r A : Nat}
theorem z_pnl (c : px_CT) (hF : 65540 < F) (hC : CV sk L own τ0 fs gs ws n b a Y) (hob : isOb fs q = true) : pn1 fs q ≤ 64 ∧ pl1 fs q ≤ 1344 := by
  obtain ⟨o, n', b', eo, eV⟩ := isOb_t hob
  have hMx := z_M hC eo
  obtain ⟨m1, m2, m3⟩ := pkM_1 (oM b')
  unfold pn1 pl1
  rw [eV]
  dsimp only
  refine ⟨Nat.le_trans (sumT_bK _ 1 _ (fun j _ => ?_)) (by omega), Nat.le_trans (sumT_bK _ 21 _ (fun j hj => ?_)) (by omega)⟩
  · unfold pkN
    split
    · omega
    · split <;> omega
  · unfold pkLb
    by_cases c0 : j = 0
    · rw [if_pos c0]; exact Nat.zero_le _
    · rw [if_neg c0]
      by_cases c1 : pkD b' j = true
      · have hB : yB b' j ≠ 0 := fun w => (of_decide_eq_true c1) (Or.inl w)
        obtain ⟨_, _, _, _, _, P, _, hn⟩ := z_sym (F := F) (c := c) (j := j) hF hC eo (by omega) (m3 j (by omega) hj) (SI_self hC)
        obtain ⟨⟨_, y2⟩, _⟩ := hn hB
        rw [if_pos c1]
        omega
      · rw [if_neg c1]; exact Nat.zero_le _
theorem z_pv (c : px_CT) (hF : 65540 < F) (hC : CV sk L own τ0 fs gs ws n b a Y) (c7 : (obL fs 64).length ≤ 7) : 4 + 4 * ((obL fs 64).map (pn1 fs)).sum + ((obL fs 64).map (pl1 fs)).sum ≤ 99999 := by
  have hm : ∀ q, q ∈ obL fs 64 → isOb fs q = true := fun q hq => by
    obtain ⟨i, hi⟩ := List.getElem?_of_mem hq
    exact (obL_ob fs 64 i q hi).1
  have h1 := sum_bK (pn1 fs) 64 (obL fs 64) (fun q hq => (z_pnl c hF hC (hm q hq)).1)
  have h2 := sum_bK (pl1 fs) 1344 (obL fs 64) (fun q hq => (z_pnl c hF hC (hm q hq)).2)
  omega
theorem z_wp111 (hK : KT c) (hF : 65540 < F) (hC : CV sk L own τ0 fs gs ws n b a Y) (hr : TRw r A 65536) (hI : SI none sk L τ0 τ) (hN : ∀ k, fN τ 0 k = fN τ0 0 k) : Sf sk L (fun τ => SI none sk L τ0 τ ∧ (∀ k, fN τ 0 k = fN τ0 0 k) ∧ (pkO fs = true → fI τ r 1 = nI (pkT fs))) (fun v => v = bI (pkO fs)) (f_Scribe_writePacked_111 F c 1713 r 9 (nI (obL fs 64).length) (nI ((obL fs 64).map (pn1 fs)).sum) (nI ((obL fs 64).map (pl1 fs)).sum) (cH sk L τ)) := by
  have orr := (SI_row hI hr).1
  have o13 := G1713 hC.1
  have hlen := obL_len fs 64
  unfold f_Scribe_writePacked_111 f_Scribe_writePacked_167 f_Scribe_writePacked_168
  by_cases c7 : (obL fs 64).length ≤ 7
  · rw [if_pos (nI_le c7 (by decide)), c_o orr, bs]
    refine sz_x (sz_clear hI hN hr) (fun _ τ1 _ i1 => ?_)
    rw [c_o orr, bs]
    refine sz_x (sz_putAr hK hF hr i1) (fun _ τ2 _ i2 => ?_)
    rw [c_o o13, bs]
    refine sz_x (z_index hF hC hr rfl rfl (z_pv c hF hC c7) i2) (fun _ τ3 _ i3 => ?_)
    rw [c_o o13, bs]
    have o1 : ((obL fs 0).map (pz1 fs)).sum = 0 := rfl
    unfold f_Scribe_writeObjects
    refine sz_x (z_wo5 hF hC hr 64 0 F (nI 0) τ3 rfl (by omega) (by rw [o1]; exact i3)) (fun _ τ4 _ i4 => ?_)
    have eT : 68 + (4 + 4 * ((obL fs 64).map (pn1 fs)).sum + ((obL fs 64).map (pl1 fs)).sum + (4 + 4 * ((obL fs 64).map (pn1 fs)).sum + ((obL fs 64).map (pl1 fs)).sum) % 2) + ((obL fs 64).map (pz1 fs)).sum = pkT fs := by unfold pkT; omega
    have i4 : SZ none sk L τ0 r 65536 (pkT fs) τ4 := by rw [← eT]; exact i4
    have eO : pkO fs = decide (pkT fs ≤ 8192) := by unfold pkO; rw [decide_eq_true c7, Bool.true_and]
    rw [eO, C10g2 orr, bs]
    by_cases cT : pkT fs ≤ 65536
    · obtain ⟨s1, s2⟩ := i4.2.1.1 cT
      rw [s2, if_pos (show bI false = 0 from rfl), C10g1 orr, bs, s1]
      by_cases c8 : pkT fs ≤ 8192
      · rw [if_neg (fun w => by have := (nI_ltI (by omega) (by omega)).mp w; omega), decide_eq_true c8]
        exact ⟨_, τ4, xz_b true _, rfl, i4.1, i4.2.2, fun _ => s1⟩
      · rw [if_pos ((nI_ltI (by omega) (by omega)).mpr (by omega)), decide_eq_false c8]
        exact ⟨_, τ4, xz_b false _, rfl, i4.1, i4.2.2, fun w => by cases w⟩
    · rw [i4.2.1.2 (by omega), if_neg (show ¬ bI true = 0 by decide), decide_eq_false (by omega)]
      exact ⟨_, τ4, xz_b false _, rfl, i4.1, i4.2.2, fun w => by cases w⟩
  · have eO : pkO fs = false := by unfold pkO; rw [decide_eq_false c7, Bool.false_and]
    rw [if_neg (nI_ge (a := 7) (by omega) (by omega)), eO]
    exact ⟨_, τ, rfl, rfl, hI, hN, fun w => by cases w⟩
theorem CV_rd (hC : CV sk L own τ fs gs ws n b a Y) : ∃ rd A, TRw rd A 65536 ∧ fN τ 0 2 = some rd := by
  obtain ⟨ro, rd, hc, _, e1⟩ := (SI_self hC).2.2.1.1
  rcases hc with ⟨_, rfl⟩ | ⟨_, rfl⟩
  · exact ⟨5, 6, Or.inr (Or.inl ⟨rfl, rfl, rfl⟩), e1⟩
  · exact ⟨3, 4, Or.inl ⟨rfl, rfl, rfl⟩, e1⟩
/-- what is published has the draft's size -/
theorem z_publish (hC : CV sk L own τ0 fs gs ws n b a Y) (hI : SI none sk L τ0 τ) (h2 : fN τ 0 2 = some r) (orr : ob sk L 10 r) : ∃ τ', f_H_publishDraft F c 0 (cH sk L τ) = some (fI τ r 1, cH sk L τ') ∧ SI none sk L τ0 τ' := by
  obtain ⟨v, τ', e, _, i⟩ := sf_publish (F := F) (c := c) (CV_S4 hC).1.1.1 hI
  refine ⟨τ', ?_, i⟩
  rw [e]
  obtain ⟨ro, rd, hc, e1, e2⟩ := hI.2.2.1.1
  have er : rd = r := by rw [e2] at h2; injection h2
  subst er
  have o0 := G0 hC.1
  unfold f_H_publishDraft at e
  have x1 : fN (tN (tN τ 0 1 (some rd)) 0 2 (some ro)) 0 1 = some rd := by
    rw [fN_tN, if_neg (by omega), fN_tN, if_pos ⟨rfl, rfl⟩]
  rw [C0r1 o0 e1, bs, C0r2 o0 e2, bs, C0v1 o0, bs, C0v2 o0, bs, C0r1 o0 x1, bs, C10g1 orr, bs] at e
  injection e with e
  injection e with e _
  rw [← e]
  rfl
/-- pack of the class, pack of the reference -/
theorem Bx_pack {σ : px_S} {k N : Nat} (hK : KT c) (hF : 65540 < F) (hC : CV sk L own τ fs gs ws n b a Y) (hR : RV σ fs gs ws n b a Y) (hm : RMk sk L (k + 210)) (hN : n + (fs.map Prod.fst).sum ≤ N) : BT (fun (v w : Int32) _ => v = w) (fun _ _ => False) sk L τ k N (f_H_pack F c 0 (cH sk L τ)) none (fun h => f_M_pack F 1726 (mh 1726 h σ)) := by
  obtain ⟨rd, A, hT, e2⟩ := CV_rd hC
  have orr := (SI_row (SI_self hC) hT).1
  have w := z_pk11 (F := F) (c := c) (r := rd) hF hC (fun τ hI hN => z_wp111 hK hF hC hT hI hN) 64 0 F τ rfl (by omega) (SI_self hC) (fun _ => rfl)
  obtain ⟨v, τ1, e1, hv, i1, n1, s1⟩ := w
  have e1' : f_Scribe_writePacked F c 1713 rd 9 (cH sk L τ) = some (v, cH sk L τ1) := e1
  have key : ∃ τ2, f_H_pack F c 0 (cH sk L τ) = some (pkR fs, cH sk L τ2) ∧ SI none sk L τ τ2 := by
    unfold f_H_pack
    rw [C0r15 (G0 hC.1) (GR_r (v := 1713) hC.2.1 (by decide)), bs, C0r2 (G0 hC.1) e2, bs, C0r4 (G0 hC.1) (R0_4 hC.2.1), bs, c_o (G1713 hC.1), bs, e1', xb_mk, hv, pkR_e]
    cases hO : pkO fs with
    | false => exact ⟨τ1, by rw [if_pos (show bI false = 0 from rfl), if_neg (by decide)], i1⟩
    | true =>
      obtain ⟨τ2, e3, i2⟩ := z_publish (F := F) (c := c) hC i1 ((n1 2).trans e2) orr
      exact ⟨τ2, by rw [if_neg (show ¬ bI true = 0 by decide), if_pos rfl, c_o (G0 hC.1), bs, e3, xb_mk, s1 hO], i2⟩
  obtain ⟨τ2, eC, i2⟩ := key
  refine ⟨fs, gs, ws, n, b, a, Y, hN, Or.inl ⟨_, sk, L, τ2, own, eC, EX_refl, K26_Z i2.1, RMk_le hm (by omega), CV_SI hC i2, fun h hl => ?_⟩⟩
  obtain ⟨w, σ', e3, hw, f, ho⟩ := q_pack (F := F) hl hF hR.2.1 hR.2.2.2.2.1
  exact ⟨w, σ', e3, RV_out hR (FR_mono f (by decide) (by decide) (by decide) (by decide)) ho, hw.symm⟩
end BPK
