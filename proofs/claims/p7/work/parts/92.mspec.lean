/-! the files' objects; what is taken: pure -/
/-- what has changed is among these -/
def FR (I J A B : List Nat) (σ σ' : px_S) : Prop := (∀ k, k ∉ I → gI σ' k = gI σ k) ∧ (∀ k, k ∉ J → gJ σ' k = gJ σ k) ∧ (∀ k, k ∉ A → gA σ' k = gA σ k) ∧ (∀ k, k ∉ B → gB σ' k = gB σ k)
theorem FR_refl {I J A B : List Nat} (σ : px_S) : FR I J A B σ σ := ⟨fun _ _ => rfl, fun _ _ => rfl, fun _ _ => rfl, fun _ _ => rfl⟩
theorem FR_trans {I J A B : List Nat} {σ σ1 σ2 : px_S} (h : FR I J A B σ σ1) (g : FR I J A B σ1 σ2) : FR I J A B σ σ2 := ⟨fun k a => (g.1 k a).trans (h.1 k a), fun k a => (g.2.1 k a).trans (h.2.1 k a), fun k a => (g.2.2.1 k a).trans (h.2.2.1 k a), fun k a => (g.2.2.2 k a).trans (h.2.2.2 k a)⟩
theorem FR_mono {I J A B I' J' A' B' : List Nat} {σ σ' : px_S} (h : FR I J A B σ σ') (hI : ∀ k, k ∈ I → k ∈ I') (hJ : ∀ k, k ∈ J → k ∈ J') (hA : ∀ k, k ∈ A → k ∈ A') (hB : ∀ k, k ∈ B → k ∈ B') : FR I' J' A' B' σ σ' := ⟨fun k a => h.1 k (fun q => a (hI k q)), fun k a => h.2.1 k (fun q => a (hJ k q)), fun k a => h.2.2.1 k (fun q => a (hA k q)), fun k a => h.2.2.2 k (fun q => a (hB k q))⟩
theorem FR_I (σ : px_S) (k : Nat) (v : Int32) : FR [k] [] [] [] σ (sI σ k v) := ⟨fun i hi => by rw [gI_sI, if_neg (fun q => hi (by rw [q]; exact List.mem_singleton.mpr rfl))], fun _ _ => rfl, fun _ _ => rfl, fun _ _ => rfl⟩
theorem FR_J (σ : px_S) (k : Nat) (v : Int64) : FR [] [k] [] [] σ (sJ σ k v) := ⟨fun _ _ => rfl, fun i hi => by rw [gJ_sJ, if_neg (fun q => hi (by rw [q]; exact List.mem_singleton.mpr rfl))], fun _ _ => rfl, fun _ _ => rfl⟩
theorem FR_A (σ : px_S) (k : Nat) (v : Nat → Int32) : FR [] [] [k] [] σ (sA σ k v) := ⟨fun _ _ => rfl, fun _ _ => rfl, fun i hi => by rw [gA_sA, if_neg (fun q => hi (by rw [q]; exact List.mem_singleton.mpr rfl))], fun _ _ => rfl⟩
theorem FR_B (σ : px_S) (k : Nat) (v : Nat → Int64) : FR [] [] [] [k] σ (sB σ k v) := ⟨fun _ _ => rfl, fun _ _ => rfl, fun _ _ => rfl, fun i hi => by rw [gB_sB, if_neg (fun q => hi (by rw [q]; exact List.mem_singleton.mpr rfl))]⟩
theorem nodup_le (a : Nat) : ∀ (N : Nat) (l : List Nat), l.Nodup → (∀ x, x ∈ l → a ≤ x ∧ x < a + N) → l.length ≤ N := by
  intro N
  induction N with
  | zero =>
    intro l _ h
    cases l with
    | nil => exact Nat.le_refl _
    | cons y l =>
      have := h y List.mem_cons_self
      omega
  | succ N ih =>
    intro l hd h
    by_cases c : a + N ∈ l
    · have e := List.length_erase_of_mem c
      have hp : 0 < l.length := List.length_pos_of_mem c
      have := ih (l.erase (a + N)) (hd.erase (a + N)) (fun x hx => by
        have hm := (List.Nodup.mem_erase_iff hd (a := x) (b := a + N)).mp hx
        have h1 := h x hm.2
        have h2 := hm.1
        omega)
      omega
    · have := ih l hd (fun x hx => by
        have h1 := h x hx
        have h2 : x ≠ a + N := fun q => c (q ▸ hx)
        omega)
      omega
theorem itr_le {α : Type} {g : Nat → α → α} {μ : α → Nat} (h : ∀ i s, μ (g i s) ≤ μ s + 1) : ∀ (c i : Nat) (s : α), μ (itr g i c s) ≤ μ s + c := by
  intro c
  induction c with
  | zero => intro i s; rw [itr_0]; exact Nat.le_refl _
  | succ c ih =>
    intro i s
    rw [itr_s]
    have h1 := ih (i + 1) (g i s)
    have h2 := h i s
    omega
theorem itr_inv {α : Type} {g : Nat → α → α} {P : α → Prop} {a e : Nat} (h : ∀ i s, a ≤ i → i < e → P s → P (g i s)) : ∀ (c i : Nat) (s : α), a ≤ i → i + c ≤ e → P s → P (itr g i c s) := by
  intro c
  induction c with
  | zero => intro i s _ _ hs; rw [itr_0]; exact hs
  | succ c ih =>
    intro i s h1 h2 hs
    rw [itr_s]
    exact ih (i + 1) (g i s) (by omega) (by omega) (h i s h1 (by omega) hs)
abbrev px_FS : Type := List (Nat × (Nat → Nat))
/-- member q = 8 f + k: where it stands, how long it is, its bytes, whether it counts for nothing -/
def obAt (fs : px_FS) (q : Nat) : Option (Nat × Nat × (Nat → Nat) × Bool) := match fs[q / 8]? with
  | none => none
  | some x => match fMem x.2 x.1 with
    | none => none
    | some l => match l[q % 8]? with
      | none => none
      | some y => some (8192 * (q / 8) + y.1, y.2.1, sub x.2 y.1 y.2.1, y.2.2)
theorem mrow_at {σ : px_S} {f : Nat} : ∀ {l : List (Nat × Nat × Bool)} {c k : Nat} {x : Nat × Nat × Bool}, mrow σ f c l → l[k]? = some x → gA σ 9 (8 * f + (c + k)) = nI (8192 * f + x.1) ∧ gA σ 10 (8 * f + (c + k)) = nI x.2.1 ∧ gA σ 12 (8 * f + (c + k)) = bI x.2.2
  | [], c, k, x, _, h => by rw [List.getElem?_nil] at h; cases h
  | y :: l, c, k, x, h, hx => by
    unfold mrow at h
    cases k with
    | zero =>
      have e : y = x := Option.some.inj hx
      rw [← e]
      exact h.1
    | succ k =>
      have := mrow_at (c := c + 1) (k := k) h.2 hx
      rw [show c + (k + 1) = c + 1 + k by omega]
      exact this
theorem eMem_at {b : Nat → Nat} : ∀ {l : List (Nat × Nat × Bool)} {k : Nat} {x : Nat × Nat × Bool}, eMem b l = 0 → l[k]? = some x → x.2.2 = false → eObj (sub b x.1 x.2.1) x.2.1 = 0
  | [], k, x, _, h, _ => by rw [List.getElem?_nil] at h; cases h
  | y :: l, k, x, h, hx, hs => by
    rw [eMem_s] at h
    by_cases c : y.2.2 = false ∧ eObj (sub b y.1 y.2.1) y.2.1 ≠ 0
    · rw [if_pos c] at h
      exact absurd h c.2
    · rw [if_neg c] at h
      cases k with
      | zero =>
        have e : y = x := Option.some.inj hx
        rw [← e] at hs ⊢
        by_cases c2 : eObj (sub b y.1 y.2.1) y.2.1 = 0
        · exact c2
        · exact absurd ⟨hs, c2⟩ c
      | succ k => exact eMem_at (k := k) h hx hs
theorem RF_ob {σ : px_S} {fs : px_FS} {q o n : Nat} {b : Nat → Nat} {sk : Bool} (hr : RF σ fs) (hq : obAt fs q = some (o, n, b, sk)) : q < 64 ∧ gA σ 9 q = nI o ∧ gA σ 10 q = nI n ∧ gA σ 12 q = bI sk ∧ cb (gA σ 6) o n = b ∧ o + n ≤ 65536 ∧ (sk = false → eObj b n = 0) := by
  obtain ⟨r1, r2, r3, r4⟩ := hr
  unfold obAt at hq
  cases e1 : fs[q / 8]? with
  | none => rw [e1] at hq; cases hq
  | some x =>
    rw [e1] at hq
    have hf := (List.getElem?_eq_some_iff.mp e1).1
    obtain ⟨a1, a2, a3, a4, l, a5, a6, a7⟩ := r4 (q / 8) x e1
    cases e2 : fMem x.2 x.1 with
    | none => rw [e2] at a5; cases a5
    | some l' =>
      have hq : (match fMem x.2 x.1 with
        | none => none
        | some l => match l[q % 8]? with
          | none => none
          | some y => some (8192 * (q / 8) + y.1, y.2.1, sub x.2 y.1 y.2.1, y.2.2)) = some (o, n, b, sk) := hq
      rw [e2] at hq a5
      have el : l' = l := Option.some.inj a5
      subst el
      have hq : (match l'[q % 8]? with
          | none => none
          | some y => some (8192 * (q / 8) + y.1, y.2.1, sub x.2 y.1 y.2.1, y.2.2)) = some (o, n, b, sk) := hq
      cases e3 : l'[q % 8]? with
      | none => rw [e3] at hq; cases hq
      | some y =>
        rw [e3] at hq
        have hq : some (8192 * (q / 8) + y.1, y.2.1, sub x.2 y.1 y.2.1, y.2.2) = some (o, n, b, sk) := hq
        injection hq with hq
        injection hq with q1 q2
        injection q2 with q2 q3
        injection q3 with q3 q4
        have hm := mrow_at a6 e3
        rw [Nat.zero_add, show 8 * (q / 8) + q % 8 = q by omega] at hm
        have hle := (fMem_le e2).2 y (List.mem_of_getElem? e3)
        have he : eMem x.2 l' = 0 := by
          have := a3
          unfold eFil at this
          rw [e2] at this
          exact this
        refine ⟨by omega, ?_, ?_, ?_, ?_, by omega, fun hs => ?_⟩
        · rw [← q1]; exact hm.1
        · rw [← q2]; exact hm.2.1
        · rw [← q4]; exact hm.2.2
        · rw [← q1, ← q2, ← q3, cb_sub hle]
          unfold fb at a2
          rw [a2]
        · rw [← q2, ← q3]
          exact eMem_at he e3 (q4.trans hs)
theorem RF_FR {σ σ' : px_S} {I J A B : List Nat} {fs : px_FS} (hr : RF σ fs) (h : FR I J A B σ σ') (h5 : 5 ∉ I) (hA : 6 ∉ A ∧ 8 ∉ A ∧ 9 ∉ A ∧ 10 ∉ A ∧ 11 ∉ A ∧ 12 ∉ A) : RF σ' fs := by
  obtain ⟨r1, r2, r3, r4⟩ := hr
  have e6 := h.2.2.1 6 hA.1
  refine ⟨(h.1 5 h5).trans r1, r2, by rw [e6]; exact r3, fun f x hx => RF1_eq (r4 f x hx) ?_ ?_ ?_ ?_⟩
  · unfold fb; rw [e6]
  · rw [h.2.2.1 8 hA.2.1]
  · rw [h.2.2.1 11 hA.2.2.2.2.1]
  · intro i _ _
    rw [h.2.2.1 9 hA.2.2.1, h.2.2.1 10 hA.2.2.2.1, h.2.2.1 12 hA.2.2.2.2.2]
    exact ⟨rfl, rfl, rfl⟩
/-- what is taken: (answer, names, order of definitions, blamed), (dropped sections, dropped groups, signatures), the members taken, each member's cause -/
abbrev px_TK : Type := px_TS × ((Nat → Bool) × Nat × List (List Nat)) × List Nat × (Nat → Option Nat)
/-- member q, bytes b, is taken -/
def tkM (b : Nat → Nat) (q : Nat) (s : px_TK) : px_TK :=
  (itr (tk1 (itr (dg1 s.2.2.1.length b) 1 (oS b - 1) s.2.1).1 s.2.2.1.length b) 1 (oM b - 1) s.1, itr (dg1 s.2.2.1.length b) 1 (oS b - 1) s.2.1, s.2.2.1 ++ [q], s.2.2.2)
/-- what is known of that -/
def BK (fs : px_FS) (s : px_TK) : Prop := s.1.1 ≤ 2 ∧ okL s.1.2.1 ∧ s.1.2.1.length ≤ 32 + 63 * s.2.2.1.length ∧ s.1.2.2.1.length ≤ 32 + 63 * s.2.2.1.length ∧ s.2.1.2.2.length ≤ 23 * s.2.2.1.length ∧ s.2.2.1.Nodup ∧ ∀ q, q ∈ s.2.2.1 → q < 64 ∧ ∃ o n b, obAt fs q = some (o, n, b, false)
theorem tk1_len {dr : Nat → Bool} {t : Nat} {b : Nat → Nat} {k : Nat} {s : px_TS} : (tk1 dr t b k s).2.1.length ≤ s.2.1.length + 1 ∧ (tk1 dr t b k s).2.2.1.length ≤ s.2.2.1.length + 1 ∧ (s.1 ≤ 2 → (tk1 dr t b k s).1 ≤ 2) := by
  have h1 := entL_len (w := yT b k) (xs := s.2.1)
  have h2 := comS_len (dr := dr) (t := t) (b := b) (k := k) (st := (s.2.1, s.2.2.1))
  unfold tk1
  generalize comS dr t b k (s.2.1, s.2.2.1) = R at *
  split
  · exact ⟨Nat.le_succ _, Nat.le_succ _, id⟩
  · split
    · exact ⟨h1, Nat.le_succ _, fun _ => (by decide : 1 ≤ 2)⟩
    · split
      · exact ⟨h2.1, h2.2, id⟩
      · exact ⟨h2.1, h2.2, fun _ => (by decide : 1 ≤ 2)⟩
theorem dg1_len {t : Nat} {b : Nat → Nat} {i : Nat} {s : (Nat → Bool) × Nat × List (List Nat)} : (dg1 t b i s).2.2.length ≤ s.2.2.length + 1 := by
  unfold dg1
  repeat (first | split | (exact Nat.le_succ _) | (dsimp only; rw [List.length_append]; exact Nat.le_refl _))
theorem okL_setR {xs : px_NL} {i : Nat} {f : px_NR → px_NR} (h : okL xs) (hf : ∀ r, okR r → okR (f r)) : okL (setR xs i f) := by
  unfold setR
  cases e : xs[i]? with
  | none => exact h
  | some x => exact okL_set h (hf x.2 (h i x e))
theorem okL_tk1 {dr : Nat → Bool} {t : Nat} {b : Nat → Nat} {k : Nat} {s : px_TS} (h : okL s.2.1) (hy : yOK b k = true) : okL (tk1 dr t b k s).2.1 := by
  unfold tk1
  by_cases c1 : yB b k = 0
  · rw [if_pos c1]; exact h
  · rw [if_neg c1]
    have hn := yOK_n hy c1
    have h2 := okL_ent (w := yT b k) h
    have hc : okL (comS dr t b k (s.2.1, s.2.2.1)).2.1 := by
      unfold comS
      split
      · dsimp only
        refine okL_setR h2 (fun r hr => ?_)
        exact hr
      · split
        · exact h2
        · dsimp only
          refine okL_setR h2 (fun r hr => okR_cm hr sOf_4 (fun q => ?_) (fun q => ?_))
          · have := (hn.2.2 (sOf_2 q)).2; omega
          · have := (hn.2.2 (sOf_2 q)).1; omega
    generalize comS dr t b k (s.2.1, s.2.2.1) = R at *
    split
    · exact h2
    · split
      · exact hc
      · exact hc
theorem BK_tk {fs : px_FS} {s : px_TK} {q o n : Nat} {b : Nat → Nat} (hb : BK fs s) (hq : obAt fs q = some (o, n, b, false)) (h64 : q < 64) (hn : q ∉ s.2.2.1) (hS : oS b ≤ 24) (hM : oM b ≤ 64) (hy : ∀ k, 1 ≤ k → k < oM b → yOK b k = true) : BK fs (tkM b q s) := by
  obtain ⟨b1, b2, b3, b4, b5, b6, b7⟩ := hb
  have l1 : (s.2.2.1 ++ [q]).length = s.2.2.1.length + 1 := by rw [List.length_append]; rfl
  refine ⟨?_, ?_, ?_, ?_, ?_, ?_, ?_⟩
  · exact itr_inv (P := fun s : px_TS => s.1 ≤ 2) (a := 0) (e := oM b + 1) (fun i s _ _ hs => tk1_len.2.2 hs) (oM b - 1) 1 s.1 (by omega) (by omega) b1
  · by_cases c : oM b = 0
    · show okL (itr _ 1 (oM b - 1) s.1).2.1
      rw [c]; exact b2
    · exact itr_inv (P := fun s : px_TS => okL s.2.1) (a := 1) (e := oM b) (fun i s h1 h2 hs => okL_tk1 hs (hy i h1 h2)) (oM b - 1) 1 s.1 (by omega) (by omega) b2
  · have := itr_le (g := tk1 (itr (dg1 s.2.2.1.length b) 1 (oS b - 1) s.2.1).1 s.2.2.1.length b) (μ := fun s : px_TS => s.2.1.length) (fun i s => tk1_len.1) (oM b - 1) 1 s.1
    show (itr _ 1 (oM b - 1) s.1).2.1.length ≤ 32 + 63 * (s.2.2.1 ++ [q]).length
    rw [l1]
    generalize (itr (tk1 (itr (dg1 s.2.2.1.length b) 1 (oS b - 1) s.2.1).1 s.2.2.1.length b) 1 (oM b - 1) s.1) = R at *
    omega
  · have := itr_le (g := tk1 (itr (dg1 s.2.2.1.length b) 1 (oS b - 1) s.2.1).1 s.2.2.1.length b) (μ := fun s : px_TS => s.2.2.1.length) (fun i s => tk1_len.2.1) (oM b - 1) 1 s.1
    show (itr _ 1 (oM b - 1) s.1).2.2.1.length ≤ 32 + 63 * (s.2.2.1 ++ [q]).length
    rw [l1]
    generalize (itr (tk1 (itr (dg1 s.2.2.1.length b) 1 (oS b - 1) s.2.1).1 s.2.2.1.length b) 1 (oM b - 1) s.1) = R at *
    omega
  · have := itr_le (g := dg1 s.2.2.1.length b) (μ := fun s : (Nat → Bool) × Nat × List (List Nat) => s.2.2.length) (fun i s => dg1_len) (oS b - 1) 1 s.2.1
    show (itr _ 1 (oS b - 1) s.2.1).2.2.length ≤ 23 * (s.2.2.1 ++ [q]).length
    rw [l1]
    generalize (itr (dg1 s.2.2.1.length b) 1 (oS b - 1) s.2.1) = R at *
    omega
  · show (s.2.2.1 ++ [q]).Nodup
    rw [List.nodup_append]
    exact ⟨b6, List.nodup_cons.mpr ⟨List.not_mem_nil, List.nodup_nil⟩, fun x hx y hy e => hn (by rw [List.mem_singleton.mp hy] at e; exact e ▸ hx)⟩
  · intro x hx
    rcases List.mem_append.mp hx with hx | hx
    · exact b7 x hx
    · rw [List.mem_singleton.mp hx]
      exact ⟨h64, o, n, b, hq⟩
