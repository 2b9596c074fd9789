/-! the objects taken, as what follows reads them -/
def tOf (fs : px_FS) (tq : List Nat) (t : Nat) : Nat := (obT fs tq t).1
def tNf (fs : px_FS) (tq : List Nat) (t : Nat) : Nat := (obT fs tq t).2.1
def tQf (tq : List Nat) (t : Nat) : Nat := tq.getD t 0
section MOS
variable {fs : px_FS} {s : px_TK} {σ : px_S} {t : Nat}
theorem BK_T (hb : BK fs s) : s.2.2.1.length ≤ 64 := nodup_le 0 64 _ hb.2.2.2.2.2.1 (fun x hx => ⟨Nat.zero_le _, by have := (hb.2.2.2.2.2.2 x hx).1; omega⟩)
theorem obT_at (hb : BK fs s) (ht : t < s.2.2.1.length) : ∃ q, s.2.2.1[t]? = some q ∧ q < 64 ∧ obAt fs q = some (tOf fs s.2.2.1 t, tNf fs s.2.2.1 t, tB fs s.2.2.1 t, false) := by
  have e := List.getElem?_eq_getElem ht
  obtain ⟨h1, o, n, b, h2⟩ := hb.2.2.2.2.2.2 _ (List.mem_of_getElem? e)
  refine ⟨_, e, h1, ?_⟩
  have : obT fs s.2.2.1 t = (o, n, b, false) := by
    unfold obT
    rw [e]
    show (obAt fs _).getD _ = _
    rw [h2]; rfl
  unfold tOf tNf tB
  rw [this]
  exact h2
theorem OB_of (hr : RF σ fs) (hb : BK fs s) (h17 : ∀ i q, s.2.2.1[i]? = some q → gA σ 17 i = nI q) : ∀ t, t < s.2.2.1.length → OB σ t (tOf fs s.2.2.1 t) (tNf fs s.2.2.1 t) (tB fs s.2.2.1 t) := by
  intro t ht
  obtain ⟨q, h1, h2, h3⟩ := obT_at hb ht
  obtain ⟨a1, a2, a3, a4, a5, a6, a7⟩ := RF_ob hr h3
  have hT := BK_T hb
  exact ⟨⟨by omega, q, h2, h17 t q h1, a2⟩, a5, a6, a7 rfl, hr.2.2.1⟩
theorem RQ_of (hr : RF σ fs) (hb : BK fs s) (h17 : ∀ i q, s.2.2.1[i]? = some q → gA σ 17 i = nI q) : RQ σ s.2.2.1.length (tQf s.2.2.1) := by
  intro t ht
  obtain ⟨q, h1, h2, h3⟩ := obT_at hb ht
  have eq : tQf s.2.2.1 t = q := by unfold tQf; rw [List.getD_eq_getElem?_getD, h1]; rfl
  rw [eq]
  refine ⟨h2, h17 t q h1, ?_⟩
  unfold obAt at h3
  split at h3
  · cases h3
  · rename_i x hx
    split at h3
    · cases h3
    · rename_i l hl
      obtain ⟨_, _, _, r4⟩ := RF_row hr hx hl
      refine ⟨_, r4, fun ea => ?_⟩
      unfold fMem at hl
      rw [ea, if_neg (by decide)] at hl
      have hl := Option.some.inj hl
      rw [← hl] at h3
      by_cases c : q % 8 = 0
      · exact c
      · rw [List.getElem?_eq_none (by show 1 ≤ _; omega)] at h3
        cases h3
theorem WP_of (h : WK fs s) : WP s.2.2.1.length (tB fs s.2.2.1) s.2.1.1 s.1.2.1 := ⟨BK_T h.1, h.1.2.1, h.2.1, h.2.2.1, h.2.2.2.1⟩
theorem WP_own {T : Nat} {tb : Nat → Nat → Nat} {dr : Nat → Bool} {xs : px_NL} (h : WP T tb dr xs) : WP T tb dr (ownL xs) :=
  ⟨h.1, AL_own (P := fun x => okR x.2) (fun _ _ x _ hx => ⟨Nat.le_refl _, hx.2⟩) h.2.1, AL_own (P := byP T tb dr) (fun _ _ x h0 hx => byP_own x h0 hx) h.2.2.1, by rw [ownL_fst]; exact h.2.2.2.1, by rw [ownL_fst]; exact h.2.2.2.2⟩
theorem nmI_of (h : WK fs s) : nmI fs s.2.2.1 (ownL s.1.2.1) := by
  intro t q o n b hq ho k h1 hk hb
  have ht := (List.getElem?_eq_some_iff.mp hq).1
  obtain ⟨q', a1, a2, a3⟩ := obT_at h.1 ht
  rw [hq] at a1
  have e := Option.some.inj a1
  rw [← e, ho] at a3
  have a3 := Option.some.inj a3
  have eb : b = tB fs s.2.2.1 t := congrArg (fun x => x.2.2.1) a3
  rw [ownL_fst]
  rw [eb] at hk hb ⊢
  exact idx_iff.mpr (h.2.2.1 t k ht h1 hk hb)
end MOS
