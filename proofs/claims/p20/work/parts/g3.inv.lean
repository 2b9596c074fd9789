/-! what holds between the law's calls: class and reference in one heap, room for what is left -/
def INV (r : Nat) (ph : px_H) : Prop := ∃ sk L own τ σ fs gs ws n b a Y, ph = cH sk L τ ∧ SKm sk ∧ MQs τ σ ∧ CV sk L own τ fs gs ws n b a Y ∧ RV σ fs gs ws n b a Y ∧ RMk sk L (210 * r) ∧ n + (List.map Prod.fst fs).sum + 8 * r ≤ 4096
abbrev rowE (f : Nat → Int64) : px_PE := .inl (2, 1, .inr (.inl f))
section INVS
variable {sk sk' : Nat → Nat × Nat × Nat} {L L' : Nat} {own : Nat → Nat × Nat} {τ τ' : px_TT} {σ σ' : px_S} {fs : List (Nat × (Nat → Nat))} {gs : List (List Nat × Int64)} {ws : List (List Nat)} {n : Nat} {b : Nat → Nat} {a : Int32} {Y : px_Y} {r : Nat}
theorem row_M (hk : SKm sk) (hL : 1815 ≤ L) : (cH sk L τ)[1814]? = some (rowE (eJ τ 1814)) := by
  have e : sk 1814 = (1, 2, 1) := hk 88 (by decide)
  rw [cH_at (by omega)]
  unfold cell
  rw [e]
  rfl
theorem agr_v {f : Nat → Int64} {x : Nat} (h : x ≠ 1814) : agr τ (vJ τ 1814 f) x := by
  refine ⟨fun _ => rfl, fun _ => rfl, fun _ => rfl, rfl, ?_, rfl⟩
  show u1 τ.2.2.2.2.1 1814 f x = _
  unfold u1
  rw [if_neg h]
  rfl
theorem row_set (hk : SKm sk) (f : Nat → Int64) : (cH sk L τ).set 1814 (rowE f) = cH sk L (vJ τ 1814 f) := by
  refine cH_set _ ?_ (fun x hx => cell_agr rfl (agr_v hx))
  have e : sk 1814 = (1, 2, 1) := hk 88 (by decide)
  have ef : eJ (vJ τ 1814 f) 1814 = f := by
    show u1 τ.2.2.2.2.1 1814 f 1814 = f
    unfold u1
    rw [if_pos rfl]
  unfold cell
  rw [e, ef]
  rfl
theorem MQs_v {f : Nat → Int64} (hq : MQs τ σ) : MQs (vJ τ 1814 f) σ := by
  obtain ⟨q1, q2, q3, q4⟩ := hq
  refine ⟨q1, q2, q3, fun i hi => ⟨(q4 i hi).1, ?_⟩⟩
  rw [(agr_v (τ := τ) (f := f) (x := 1727 + i) (by omega)).2.2.2.2.1]
  exact (q4 i hi).2
theorem mod_M (hk : SKm sk) (hL : 1815 ≤ L) : ∃ mf, (cH sk L τ)[1726]? = some (.inr (12, mf)) := by
  have e : sk 1726 = (0, 12, 0) := hk 0 (by decide)
  rw [cH_at (by omega)]
  unfold cell
  rw [e]
  exact ⟨_, rfl⟩
/-- what the reference does then -/
def HSx {β : Type} (r : Nat) (fM : px_H → Option (β × px_H)) (P : β → px_S → Prop) (ph1 : px_H) : Prop := (∃ mf, ph1[1726]? = some (.inr (12, mf))) ∧ ∃ w ph2 σ', fM ph1 = some (w, ph2) ∧ INV r ph2 ∧ ph2[1814]? = ph1[1814]? ∧ (∃ mf, ph2[1726]? = some (.inr (12, mf))) ∧ (∀ F, f_M_thrown F 1726 ph2 = some (gI σ' 0, ph2)) ∧ P w σ'
theorem HS {β : Type} {fM : px_H → Option (β × px_H)} {P : β → px_S → Prop} (hk : SKm sk) (hq : MQs τ σ) (hC : CV sk L own τ fs gs ws n b a Y) (hm : RMk sk L (210 * r)) (hN : n + (fs.map Prod.fst).sum + 8 * r ≤ 4096) (hM : ∀ h : px_H, 1726 ≤ h.length → ∃ w σ', fM (mh 1726 h σ) = some (w, mh 1726 h σ') ∧ RV σ' fs gs ws n b a Y ∧ P w σ') : HSx r fM P (cH sk L τ) := by
  have hL : 1815 ≤ L := hC.1.1
  have hl : 1726 ≤ (cH sk L τ).length := by rw [cH_len]; omega
  obtain ⟨w, σ', e, h1, h2⟩ := hM _ hl
  rw [← cH_M hk hq hL, cH_tM hk hq hL] at e
  refine ⟨mod_M hk hL, w, _, σ', e, ⟨sk, L, own, tM τ σ', σ', fs, gs, ws, n, b, a, Y, rfl, hk, MQs_tM hq, CV_M hC EX_refl (fun x hx => agr_tM (by omega)), h1, hm, hN⟩, ?_, mod_M hk hL, fun F => ?_, h2⟩
  · rw [cH_at (by omega), cH_at (by omega), cell_agr rfl (agr_tM (Or.inr (Nat.le_refl _)))]
  · unfold f_M_thrown
    rw [← cH_tM hk hq hL, Mg0 hl, bs]
theorem pg_in3 {ci : Nat} (h : ci = 13 ∨ ci = 14 ∨ ci = 15) : pg_in ci = 6 ∧ cN ci = 0 := by
  rcases h with rfl | rfl | rfl <;> exact ⟨by decide, by decide⟩
/-- what a call comes to: an answer, or an exception -/
theorem OUT {α β : Type} {Rn : α → β → px_S → Prop} {Rt : Nat → px_S → Prop} {f : Option (α × px_H)} {g : Option (Nat × px_H)} {fM : px_H → Option (β × px_H)} (hk : SKm sk) (hq : MQs τ σ) (hL : 1815 ≤ L) (hr : 8 * r ≤ 4096) (hci : ∀ ci σ, Rt ci σ → ci = 13 ∨ ci = 14 ∨ ci = 15) (hb : BT Rn Rt sk L τ (210 * r) (4096 - 8 * r) f g (fun h => fM (mh 1726 h σ))) :
    (∃ v ph1, f = some (v, ph1) ∧ (∃ f0, ph1[1814]? = some (rowE f0)) ∧ HSx r fM (Rn v) ph1 ∧ ∀ f1, (ph1.set 1814 (rowE f1))[1814]? = some (rowE f1) ∧ HSx r fM (Rn v) (ph1.set 1814 (rowE f1))) ∨
    ∃ ci ph1, g = some (ci, ph1) ∧ ph1.length < pg_MC ∧ px_sum ph1 + 6 ≤ pg_MS ∧ (ph1 ++ [.inr (ci, [])])[ph1.length]? = some (.inr (ci, [])) ∧ (∃ f0, (ph1 ++ [.inr (ci, [])])[1814]? = some (rowE f0)) ∧ HSx r fM (fun _ σ => Rt ci σ) (ph1 ++ [.inr (ci, [])]) := by
  obtain ⟨fs, gs, ws, n, b, a, Y, hN, hb⟩ := hb
  rcases hb with ⟨v, sk', L', τ', own', e1, e2, e3, e4, e5, e6⟩ | ⟨ci, τ', own', e1, e3, e4, e5, e6⟩
  · have hk' := SKm_EX hk e2 hL
    have hL' : 1815 ≤ L' := e5.1.1
    refine Or.inl ⟨v, _, e1, ⟨_, row_M hk' hL'⟩, HS hk' (MQs_K hq e3) e5 e4 (by omega) e6, fun f1 => ?_⟩
    rw [row_set hk']
    refine ⟨?_, HS hk' (MQs_v (MQs_K hq e3)) (CV_M e5 EX_refl (fun x hx => agr_v (by omega))) e4 (by omega) e6⟩
    rw [row_M hk' hL']
    have ef : eJ (vJ τ' 1814 f1) 1814 = f1 := by
      show u1 τ'.2.2.2.2.1 1814 f1 1814 = f1
      unfold u1
      rw [if_pos rfl]
    rw [ef]
  · have hl : 1726 ≤ (cH sk L τ').length := by rw [cH_len]; omega
    have hcc : ci = 13 ∨ ci = 14 ∨ ci = 15 := by
      obtain ⟨w, σ', _, _, w3⟩ := e6 _ hl
      exact hci _ _ w3
    obtain ⟨p1, p2⟩ := pg_in3 hcc
    obtain ⟨x1, x2⟩ := cH_ex (sk := sk) (L := L) (τ := τ') p2
    have hk' := SKm_EX hk x2 hL
    refine Or.inr ⟨ci, _, e1, by rw [cH_len]; have := e4.1; omega, by rw [sum_cH]; have := e4.2; omega, ?_, ⟨eJ τ' 1814, ?_⟩, ?_⟩
    · rw [List.getElem?_append_right (Nat.le_refl _), Nat.sub_self]; rfl
    · rw [x1, row_M hk' (by omega)]
    · rw [x1]
      refine HS hk' (MQs_K hq e3) (CV_M e5 x2 (fun x _ => ⟨fun _ => rfl, fun _ => rfl, fun _ => rfl, rfl, rfl, rfl⟩)) ⟨?_, ?_⟩ (by omega) e6
      · have := e4.1; omega
      · have := e4.2
        rw [smk_new, p1]
        omega
end INVS
