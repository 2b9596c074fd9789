/-! the class's add and drop -/
section CAE
variable {F : Nat} {c : px_CT} {sk : Nat → Nat × Nat × Nat} {L : Nat} {τ : px_TT} {n : Nat} {b : Nat → Nat} {fs : List (Nat × (Nat → Nat))}
theorem tI_ne {τ : px_TT} {a k x y : Nat} {v : Int32} (h : x ≠ a ∨ y ≠ k) : fI (tI τ a k v) x y = fI τ x y := u2_ne h
theorem tI_at {τ : px_TT} {a k : Nat} {v : Int32} : fI (tI τ a k v) a k = v := (u2_eq : u2 τ.1 a k v a k = v)
/-- nothing has changed but the tape's size, the files, and what belongs to files from f on -/
def frD (f : Nat) (τ τ' : px_TT) : Prop := (∀ a k, (a ≠ 0 ∨ k ≠ 6) → a ≠ 1 → (a ≠ 7 ∨ k ≠ 1) → (a < 10 + 16 * f ∨ 138 ≤ a) → fI τ' a k = fI τ a k) ∧ (∀ a k, fJ τ' a k = fJ τ a k) ∧ (∀ a k, fN τ' a k = fN τ a k) ∧ (∀ a, a ≠ 8 → a ≠ 138 → a ≠ 139 → (a < 10 + 16 * f ∨ 138 ≤ a) → eI τ' a = eI τ a) ∧ (∀ a, eJ τ' a = eJ τ a) ∧ (∀ a, eN τ' a = eN τ a) ∧ ∀ a, 10 ≤ a → zKl τ τ' a 15 ∧ zKl τ τ' a 16
theorem CF_n (h : CF sk L τ fs) {f : Nat} {x : Nat × (Nat → Nat)} (hx : fs[f]? = some x) : x.1 ≤ 8192 := (h.2.2.2.2.2.1 f x hx).1
theorem CF_off (h : CF sk L τ fs) {k : Nat} (hk : k ≤ fs.length) : off fs k ≤ 8192 * k := off_le (fun _ _ hx => CF_n h hx) k hk
theorem k_clear (hS : GS sk L) : f_Row_clear F c 1 (cH sk L τ) = some ((), cH sk L (tI (tI τ 1 1 (nI 0)) 1 2 (bI false))) := by
  unfold f_Row_clear
  rw [C10p1 (G1 hS), bs, show nI 0 = bI false from rfl, C10z2 (G1 hS), bs]
theorem clr_I {a k : Nat} (h : a ≠ 1) : fI (tI (tI τ 1 1 (nI 0)) 1 2 (bI false)) a k = fI τ a k := (u2_ne (Or.inl h)).trans (u2_ne (Or.inl h))
theorem clr_T (h : ∀ k, isB (eI τ 2 k)) : CTp (tI (tI τ 1 1 (nI 0)) 1 2 (bI false)) 0 (fun _ => 0) := by
  refine ⟨by rw [tI_ne (Or.inr (by decide)), tI_at], Nat.zero_le _, h, ?_⟩
  funext k
  exact if_neg (Nat.not_lt_zero k)
theorem GR_I {a k : Nat} {v : Int32} (h : GR τ) (ha : a < 10 ∨ 138 ≤ a ∨ 3 < k) : GR (tI τ a k v) := ⟨h.1, fun i hi => ⟨(h.2.1 i hi).1, (h.2.1 i hi).2.1, (h.2.1 i hi).2.2.1, (u2_ne (by omega)).trans (h.2.1 i hi).2.2.2.1, (u2_ne (by omega)).trans (h.2.1 i hi).2.2.2.2⟩, h.2.2⟩
theorem GR_vI {a : Nat} {f : Nat → Int32} (h : GR τ) : GR (vI τ a f) := h
/-- the files hold on where nothing of them changes -/
theorem CF_old {τ' : px_TT} {o : Nat} (h : CF sk L τ fs) (hN : ∀ a k, fN τ' a k = fN τ a k) (hB : ∀ k, isB (eI τ' 8 k)) (hI : ∀ q, q < 8 * o → (∀ i, i ≠ 15 → i ≠ 16 → fI τ' (10 + 2 * q) i = fI τ (10 + 2 * q) i) ∧ eI τ' (11 + 2 * q) = eI τ (11 + 2 * q)) (hc : ∀ k, k < off fs o → eI τ' 8 k = eI τ 8 k) (ho : o ≤ fs.length) : ∀ f x, f < o → fs[f]? = some x → CF1 sk L τ' f (off fs f) x.1 x.2 := by
  intro f x hf hx
  refine CF1_eq (h.2.2.2.2.2.1 f x hx) hN hB (fun j hj => hI (8 * f + j) (by omega)) ?_
  intro k hk
  apply hc
  have h1 := off_s hx
  have h2 := off_mono (fs := fs) (o - (f + 1)) (f + 1) (by omega)
  rw [show f + 1 + (o - (f + 1)) = o by omega] at h2
  omega
theorem k_add (hc : KT c) (hS : GS sk L) (hR : GR τ) (hF : 65536 < F) (ht : CTp τ n b) (hf : CF sk L τ fs) (hfl : fs.length < 8) : ∃ τ', f_H_add F c 0 (cH sk L τ) = some (nI (eFil b n), cH sk L τ') ∧ GR τ' ∧ CTp τ' 0 (fun _ => 0) ∧ CF sk L τ' (if eFil b n = 0 then fs ++ [(n, b)] else fs) ∧ frD fs.length τ τ' := by
  have hn := ht.2.1
  have hoff := CF_off hf (Nat.le_refl _)
  obtain ⟨c1, c2, c3, c4, c5, c6, c7⟩ := id hf
  obtain ⟨τ1, h1, h2, h3⟩ := k_readFile (c := c) (fl := fs.length) hc hS hR hF hfl ht c4 (by omega) c3 (fun j hj => c7 fs.length j (Nat.le_refl _) hfl hj)
  have hR1 : GR τ1 := GR_F (GR_c hR) h2
  have hI1 : ∀ a k, (a < 10 + 16 * fs.length ∨ 10 + 16 * (fs.length + 1) ≤ a) → (a ≠ 7 ∨ k ≠ 1) → fI τ1 a k = fI τ a k := fun a k ha h7 => (h2.1 a k (by omega)).trans (cpd_I h7)
  have hE1 : ∀ a, (a < 10 + 16 * fs.length ∨ 10 + 16 * (fs.length + 1) ≤ a) → a ≠ 8 → a ≠ 139 → eI τ1 a = eI τ a := fun a ha h8 h9 => (h2.2.2.2.2.1 a (by omega) h9).trans (cpd_e h8)
  have hN1 : ∀ a k, fN τ1 a k = fN τ a k := fun a k => h2.2.2.2.1 a k
  have h81 : eI τ1 8 = put (eI τ 8) (eI τ 2) (off fs fs.length) n := (h2.2.2.2.2.1 8 (by omega) (by decide)).trans cpd_8
  have h71 : fI τ1 7 1 = nI (off fs fs.length + n) := (h2.1 7 1 (by omega)).trans cpd_7
  have hB1 : ∀ k, isB (eI τ1 8 k) := by rw [h81]; exact put_B c3 ht.2.2.1
  have hc1 : ∀ k, k < off fs fs.length → eI τ1 8 k = eI τ 8 k := by
    intro k hk
    rw [h81]
    exact if_neg (by omega)
  have hT1 : ∀ k, isB (eI τ1 2 k) := by rw [hE1 2 (by omega) (by decide) (by decide)]; exact ht.2.2.1
  obtain ⟨τ2, hτ2⟩ : ∃ t, t = tI (tI τ1 1 1 (nI 0)) 1 2 (bI false) := ⟨_, rfl⟩
  have hI2 : ∀ a k, a ≠ 1 → fI τ2 a k = fI τ1 a k := fun a k ha => by rw [hτ2]; exact clr_I ha
  have hR2 : GR τ2 := by rw [hτ2]; exact GR_I (GR_I hR1 (by omega)) (by omega)
  have hT2 : CTp τ2 0 (fun _ => 0) := by rw [hτ2]; exact clr_T hT1
  have hE2 : ∀ a, eI τ2 a = eI τ1 a := fun a => by rw [hτ2]; rfl
  have hN2 : ∀ a k, fN τ2 a k = fN τ1 a k := fun a k => by rw [hτ2]; rfl
  have hJ2 : ∀ a k, fJ τ2 a k = fJ τ a k := fun a k => by rw [hτ2]; exact h2.2.2.1 a k
  have heJ2 : ∀ a, eJ τ2 a = eJ τ a := fun a => by rw [hτ2]; exact h2.2.2.2.2.2.1 a
  have heN2 : ∀ a, eN τ2 a = eN τ a := fun a => by rw [hτ2]; exact h2.2.2.2.2.2.2.1 a
  have h62 : fI τ2 0 6 = nI fs.length := (hI2 0 6 (by decide)).trans ((hI1 0 6 (by omega) (by decide)).trans c1)
  unfold f_H_add
  rw [C0g6 (G0 hS), bs, c1, if_pos (nI_lt hfl (by decide)), bs, c_o (G0 hS), bs, pk_mul, Nat.mul_comm fs.length 8, h1, xb_mk, C0r0 (G0 hS) (R0_0 hR1), bs, c_o (G1 hS), bs, k_clear hS, xb_mk, ← hτ2]
  have e9 := eFil_le b n
  by_cases d1 : eFil b n = 0
  · obtain ⟨l, hl, hm⟩ := h3 d1
    obtain ⟨τ4, hτ4⟩ : ∃ t, t = vI (tI τ2 0 6 (nI (fs.length + 1))) 138 (upd (eI τ2 138) (fs.length + 1) (nI (off fs fs.length + n))) := ⟨_, rfl⟩
    have hR3 : GR (tI τ2 0 6 (nI (fs.length + 1))) := GR_I hR2 (by omega)
    have hI4 : ∀ a k, (a ≠ 0 ∨ k ≠ 6) → fI τ4 a k = fI τ2 a k := fun a k h => by rw [hτ4]; exact u2_ne h
    have h64 : fI τ4 0 6 = nI (fs.length + 1) := by rw [hτ4]; exact (u2_eq : u2 τ2.1 0 6 (nI (fs.length + 1)) 0 6 = _)
    have hE4 : ∀ a, a ≠ 138 → eI τ4 a = eI τ2 a := fun a h => by rw [hτ4]; exact u1_ne h
    have h138 : eI τ4 138 = upd (eI τ2 138) (fs.length + 1) (nI (off fs fs.length + n)) := by rw [hτ4]; exact (u1_eq : u1 τ2.2.2.2.1 138 (upd (eI τ2 138) (fs.length + 1) (nI (off fs fs.length + n))) 138 = _)
    have hN4 : ∀ a k, fN τ4 a k = fN τ a k := fun a k => by rw [hτ4]; exact (hN2 a k).trans (hN1 a k)
    have h84 : eI τ4 8 = eI τ1 8 := (hE4 8 (by decide)).trans (hE2 8)
    refine ⟨τ4, ?_, ?_, ?_, ?_, ?_⟩
    · rw [d1, if_pos (show nI 0 = 0 from rfl), C0g6 (G0 hS), bs, h62, nI_add, C0p6 (G0 hS), bs, C0r5 (G0 hS) (R0_5 hR3), bs, C0g6 (G0 hS), bs, show fI (tI τ2 0 6 (nI (fs.length + 1))) 0 6 = nI (fs.length + 1) from (u2_eq : u2 τ2.1 0 6 (nI (fs.length + 1)) 0 6 = _), C0r3 (G0 hS) (R0_3 hR3), bs, C10g1 (G7 hS), bs, show fI (tI τ2 0 6 (nI (fs.length + 1))) 7 1 = nI (off fs fs.length + n) by rw [tI_ne (Or.inl (by decide)), hI2 7 1 (by decide), h71], c_sI (G138 hS) (Or.inr (Or.inl rfl)) (by decide) (by omega), bs, hτ4]
      rfl
    · rw [hτ4]; exact GR_vI hR3
    · have e2 : eI τ4 2 = eI τ2 2 := hE4 2 (by decide)
      exact ⟨(hI4 1 1 (by decide)).trans hT2.1, Nat.zero_le _, by rw [e2]; exact hT2.2.2.1, by rw [e2]; exact hT2.2.2.2⟩
    · rw [if_pos d1]
      have hlen : (fs ++ [(n, b)]).length = fs.length + 1 := by rw [List.length_append]; rfl
      refine ⟨by rw [hlen]; exact h64, by rw [hlen]; omega, by rw [h84]; exact hB1, ?_, ?_, ?_, ?_⟩
      · rw [hlen, off_top, hI4 7 1 (by decide), hI2 7 1 (by decide)]
        exact h71
      · intro k hk
        rw [hlen] at hk
        rw [h138]
        by_cases e : k = fs.length + 1
        · rw [e, upd_eq, off_top]
        · rw [upd_ne e, hE2 138, hE1 138 (by omega) (by decide) (by decide), off_app (by omega)]
          exact c5 k (by omega)
      · intro f x hx
        by_cases e : f < fs.length
        · rw [List.getElem?_append_left e] at hx
          rw [off_app (by omega)]
          refine CF_old (o := fs.length) hf hN4 (by rw [h84]; exact hB1) ?_ (by rw [h84]; exact hc1) (Nat.le_refl _) f x e hx
          intro q hq
          refine ⟨fun i _ _ => ?_, ?_⟩
          · rw [hI4 _ _ (Or.inl (by omega)), hI2 _ _ (by omega), hI1 _ _ (by omega) (Or.inl (by omega))]
          · rw [hE4 _ (by omega), hE2, hE1 _ (by omega) (by omega) (by omega)]
        · have hfe : f = fs.length := by
            have := (List.getElem?_eq_some_iff.mp hx).1
            rw [hlen] at this
            omega
          subst hfe
          rw [List.getElem?_append_right (Nat.le_refl _), Nat.sub_self] at hx
          have hx' : (n, b) = x := Option.some.inj hx
          rw [← hx', off_app (Nat.le_refl _)]
          refine ⟨hn, ?_, d1, l, hl, ?_⟩
          · rw [h84, h81, put_same]
            exact ht.2.2.2
          · rw [← h81] at hm
            show mD sk L τ4 fs.length (off fs fs.length) (isAr b n) (eI τ4 8) 0 l
            rw [h84]
            refine mD_eq (fun a k => (hN4 a k).trans (hN1 a k).symm) h84 hB1 l 0 ?_ (by have := (fMem_le hl).1; omega) (fun _ _ => rfl) hm
            intro j _ hj
            refine ⟨fun i _ _ => ?_, ?_⟩
            · rw [hI4 _ _ (Or.inl (by omega)), hI2 _ _ (by omega)]
            · rw [hE4 _ (by omega), hE2]
      · intro f j hf1 hf8 hj
        rw [hlen] at hf1
        rw [hI4 _ _ (Or.inl (by omega)), hI2 _ _ (by omega), hI1 _ _ (by omega) (Or.inl (by omega))]
        exact c7 f j (by omega) hf8 hj
    · refine ⟨?_, ?_, hN4, ?_, ?_, ?_, ?_⟩
      · intro a k h0 h1' h7 ha
        rw [hI4 _ _ h0, hI2 _ _ h1', hI1 _ _ (by omega) h7]
      · intro a k; rw [hτ4]; exact hJ2 a k
      · intro a h8 h138' h139 ha
        rw [hE4 _ h138', hE2, hE1 _ (by omega) h8 h139]
      · intro a; rw [hτ4]; exact heJ2 a
      · intro a; rw [hτ4]; exact heN2 a
      · intro a ha
        have w := h2.2.2.2.2.2.2.2 a
        exact ⟨zK_t (zK_t (zK_e (cpd_I (Or.inr (by decide)))) w.1) (zK_e ((hI4 a 15 (Or.inr (by decide))).trans (hI2 a 15 (by omega)))), zK_t (zK_t (zK_e (cpd_I (Or.inr (by decide)))) w.2) (zK_e ((hI4 a 16 (Or.inr (by decide))).trans (hI2 a 16 (by omega))))⟩
  · have h138 : eI τ2 138 fs.length = nI (off fs fs.length) := by
      rw [hE2, hE1 138 (by omega) (by decide) (by decide)]
      exact c5 _ (Nat.le_refl _)
    obtain ⟨τ5, g1, g2, g3⟩ := k_clearFile (F := F) (c := c) hS hR2 (by omega) hfl h138
    obtain ⟨τ6, hτ6⟩ : ∃ t, t = tI τ5 7 1 (nI (off fs fs.length)) := ⟨_, rfl⟩
    have hI6 : ∀ a k, (a ≠ 7 ∨ k ≠ 1) → fI τ6 a k = fI τ5 a k := fun a k h => by rw [hτ6]; exact u2_ne h
    have hE6 : ∀ a, eI τ6 a = eI τ5 a := fun a => by rw [hτ6]; rfl
    have hI5 : ∀ a k, (a < 10 + 16 * fs.length ∨ 10 + 16 * (fs.length + 1) ≤ a) → fI τ5 a k = fI τ2 a k := fun a k ha => g2.1 a k (by omega)
    have hE5 : ∀ a, (a < 10 + 16 * fs.length ∨ 10 + 16 * (fs.length + 1) ≤ a) → a ≠ 139 → eI τ5 a = eI τ2 a := fun a ha h9 => g2.2.2.2.2.1 a (by omega) h9
    have hN6 : ∀ a k, fN τ6 a k = fN τ a k := fun a k => by rw [hτ6]; exact (g2.2.2.2.1 a k).trans ((hN2 a k).trans (hN1 a k))
    have h86 : eI τ6 8 = eI τ1 8 := (hE6 8).trans ((hE5 8 (by omega) (by decide)).trans (hE2 8))
    have hR5 := GR_F hR2 g2
    refine ⟨τ6, ?_, ?_, ?_, ?_, ?_⟩
    · rw [if_neg (show ¬ nI (eFil b n) = 0 from nI_ne0 (by omega) (by omega)), C0g6 (G0 hS), bs, h62, c_o (G0 hS), bs, g1, xb_mk, hτ6]
      rfl
    · rw [hτ6]; exact GR_I hR5 (by omega)
    · have e2 : eI τ6 2 = eI τ2 2 := (hE6 2).trans (hE5 2 (by omega) (by decide))
      exact ⟨(hI6 1 1 (by decide)).trans ((hI5 1 1 (by omega)).trans hT2.1), Nat.zero_le _, by rw [e2]; exact hT2.2.2.1, by rw [e2]; exact hT2.2.2.2⟩
    · rw [if_neg d1]
      refine ⟨?_, by omega, by rw [h86]; exact hB1, ?_, ?_, ?_, ?_⟩
      · rw [hI6 0 6 (by decide), hI5 0 6 (by omega)]; exact h62
      · rw [hτ6]; exact (u2_eq : u2 τ5.1 7 1 (nI (off fs fs.length)) 7 1 = _)
      · intro k hk
        rw [hE6, hE5 138 (by omega) (by decide), hE2, hE1 138 (by omega) (by decide) (by decide)]
        exact c5 k hk
      · intro f x hx
        have e : f < fs.length := (List.getElem?_eq_some_iff.mp hx).1
        refine CF_old (o := fs.length) hf hN6 (by rw [h86]; exact hB1) ?_ (by rw [h86]; exact hc1) (Nat.le_refl _) f x e hx
        intro q hq
        refine ⟨fun i _ _ => ?_, ?_⟩
        · rw [hI6 _ _ (Or.inl (by omega)), hI5 _ _ (by omega), hI2 _ _ (by omega), hI1 _ _ (by omega) (Or.inl (by omega))]
        · rw [hE6, hE5 _ (by omega) (by omega), hE2, hE1 _ (by omega) (by omega) (by omega)]
      · intro f j hf1 hf8 hj
        rw [hI6 _ _ (Or.inl (by omega))]
        by_cases e : f = fs.length
        · rw [e]; exact (g3 j hj).1
        · rw [hI5 _ _ (by omega), hI2 _ _ (by omega), hI1 _ _ (by omega) (Or.inl (by omega))]
          exact c7 f j hf1 hf8 hj
    · refine ⟨?_, ?_, hN6, ?_, ?_, ?_, ?_⟩
      · intro a k h0 h1' h7 ha
        rw [hI6 _ _ h7, hI5 _ _ (by omega), hI2 _ _ h1', hI1 _ _ (by omega) h7]
      · intro a k; rw [hτ6]; exact (g2.2.2.1 a k).trans (hJ2 a k)
      · intro a h8 _ h139 ha
        rw [hE6, hE5 _ (by omega) h139, hE2, hE1 _ (by omega) h8 h139]
      · intro a; rw [hτ6]; exact (g2.2.2.2.2.2.1 a).trans (heJ2 a)
      · intro a; rw [hτ6]; exact (g2.2.2.2.2.2.2.1 a).trans (heN2 a)
      · intro a ha
        have w := h2.2.2.2.2.2.2.2 a
        have u := g2.2.2.2.2.2.2.2 a
        exact ⟨zK_t (zK_t (zK_t (zK_e (cpd_I (Or.inr (by decide)))) w.1) (zK_e (hI2 a 15 (by omega)))) (zK_t u.1 (zK_e (hI6 a 15 (Or.inr (by decide))))), zK_t (zK_t (zK_t (zK_e (cpd_I (Or.inr (by decide)))) w.2) (zK_e (hI2 a 16 (by omega)))) (zK_t u.2 (zK_e (hI6 a 16 (Or.inr (by decide)))))⟩
end CAE
