/-! what is laid: all that stays, within bounds -/
theorem eObj_a {b : Nat → Nat} {n i : Nat} (h : eObj b n = 0) (hi : i < oS b) (hk : oK b i = true) : oZ b i ≤ 16384 ∧ oA b i ≤ 4096 := by
  unfold eObj at h
  by_cases c1 : n < 64 ∨ oH b = false
  · rw [if_pos c1] at h; cases h
  · rw [if_neg c1] at h
    by_cases c2 : 1 ≤ oS b ∧ oS b ≤ 24 ∧ oR b + 64 * oS b ≤ n ∧ oT b 0 = 0
    · rw [if_neg (fun q => q c2)] at h
      by_cases c3 : fst0 (eSec b n) 0 (oS b) = 0
      · have hs := eSec_w (fst0_0 c3 i (Nat.zero_le _) (by omega))
        refine ⟨hs.2.1 hk, ?_⟩
        rcases hs.2.2 hk with e | e
        · rw [e]; decide
        · exact (of_decide_eq_true e).2.1
      · rw [if_pos c3] at h; exact absurd h c3
    · rw [if_pos c2] at h; cases h
section MLD
variable {T : Nat} {tb : Nat → Nat → Nat} {sy : Nat → Nat → Bool}
theorem lay3_m {g t i x : Nat} {l : List Nat} (h : x ∈ l) : x ∈ lay3 tb sy g t i l := by
  unfold lay3
  split
  · exact List.mem_append.mpr (Or.inl h)
  · exact h
theorem lay2_m {g t : Nat} (l : List Nat) : (∀ x, x ∈ l → x ∈ lay2 tb sy g t l) ∧ ∀ i, 1 ≤ i → i < oS (tb t) → (sy t i = true ∧ oG (tb t) i = g) → 24 * t + i ∈ lay2 tb sy g t l := by
  unfold lay2
  by_cases c : oS (tb t) = 0
  · rw [c]; exact ⟨fun x hx => hx, fun i h1 h2 => by omega⟩
  · have := itr_hit (g := lay3 tb sy g t) (M := fun (x : Nat) (l : List Nat) => x ∈ l) (v := fun i => 24 * t + i) (Q := fun i => sy t i = true ∧ oG (tb t) i = g) (a := 1) (e := oS (tb t)) (fun i s w _ _ hw => lay3_m hw) (fun i s _ _ hq => by unfold lay3; rw [if_pos hq]; exact List.mem_append.mpr (Or.inr (List.mem_singleton.mpr rfl))) (oS (tb t) - 1) 1 l (Nat.le_refl _) (by omega)
    exact ⟨this.1, fun i h1 h2 hq => this.2 i h1 (by omega) hq⟩
theorem lay1_m {u : Nat} (l : List Nat) : (∀ x, x ∈ l → x ∈ lay1 T tb sy u l) ∧ ∀ t i, t < T → 1 ≤ i → i < oS (tb t) → (sy t i = true ∧ oG (tb t) i = gOf u) → 24 * t + i ∈ lay1 T tb sy u l := by
  unfold lay1
  refine ⟨(itr_hit (g := lay2 tb sy (gOf u)) (M := fun (x : Nat) (l : List Nat) => x ∈ l) (v := fun i => i) (Q := fun _ => False) (a := 0) (e := T) (fun i s w _ _ hw => (lay2_m s).1 w hw) (fun i s _ _ hq => hq.elim) T 0 l (Nat.le_refl _) (by omega)).1, fun t i ht h1 h2 hq => ?_⟩
  exact (itr_hit (g := lay2 tb sy (gOf u)) (M := fun (x : Nat) (l : List Nat) => x ∈ l) (v := fun _ => 24 * t + i) (Q := fun t' => t' = t) (a := 0) (e := T) (fun i s w _ _ hw => (lay2_m s).1 w hw) (fun t' s _ _ e => by rw [e]; exact (lay2_m s).2 i h1 h2 hq) T 0 l (Nat.le_refl _) (by omega)).2 t (Nat.zero_le _) (by omega) rfl
theorem llS_lay : llS T tb sy (layL T tb sy) := by
  intro t i ht h1 h2 hs
  unfold layL
  have hu : ∃ u, u < 6 ∧ oG (tb t) i = gOf u := by
    unfold oG
    repeat' split
    · exact ⟨3, by omega, rfl⟩
    · exact ⟨2, by omega, rfl⟩
    · exact ⟨5, by omega, rfl⟩
    · exact ⟨0, by omega, rfl⟩
    · exact ⟨4, by omega, rfl⟩
    · exact ⟨1, by omega, rfl⟩
  obtain ⟨u, hu, hg⟩ := hu
  exact (itr_hit (g := lay1 T tb sy) (M := fun (x : Nat) (l : List Nat) => x ∈ l) (v := fun _ => 24 * t + i) (Q := fun u' => u' = u) (a := 0) (e := 6) (fun i s w _ _ hw => (lay1_m s).1 w hw) (fun u' s _ _ e => by rw [e]; exact (lay1_m s).2 t i ht h1 h2 ⟨hs, hg⟩) 6 0 [] (Nat.le_refl _) (by omega)).2 u (Nat.zero_le _) (by omega) rfl
theorem sta_K {dr : Nat → Bool} {on : Bool} {R : Nat → Bool} {t i : Nat} (h : sta tb dr on R t i = true) : oK (tb t) i = true := by
  unfold sta at h
  exact ((Bool.and_eq_true _ _).mp h).1
theorem LYo_lay {dr : Nat → Bool} {on : Bool} {R : Nat → Bool} {l : List Nat} {tn : Nat → Nat} (hT : T ≤ 64) (he : ∀ t, t < T → eObj (tb t) (tn t) = 0) (h : LI T tb (sta tb dr on R) 6 0 l) : LYo T tb l ∧ ∀ x, x ∈ l → oK (tb (x / 24)) (x % 24) = true := by
  have hk : ∀ x, x ∈ l → oK (tb (x / 24)) (x % 24) = true := fun x hx => sta_K ((h.2 x hx).1.2.2.2)
  refine ⟨⟨hT, ⟨LI_len hT h, fun x hx => ?_⟩, h.1, fun x hx => ?_⟩, hk⟩
  · have := (h.2 x hx).1
    exact ⟨by omega, this.2.1, this.2.2.1⟩
  · have := (h.2 x hx).1
    exact eObj_a (he (x / 24) (by omega)) this.2.2.1 (hk x hx)
end MLD
