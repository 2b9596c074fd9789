/-! how many symbols the objects taken have: as many as their bytes hold -/
def smN (g : Nat → Nat) : Nat → Nat
  | 0 => 0
  | n + 1 => smN g n + g n
theorem smN_s (g : Nat → Nat) (n : Nat) : smN g (n + 1) = smN g n + g n := rfl
theorem smN_le {g g' : Nat → Nat} : ∀ n, (∀ i, i < n → g i ≤ g' i) → smN g n ≤ smN g' n
  | 0, _ => Nat.le_refl _
  | n + 1, h => by
    rw [smN_s, smN_s]
    have h1 := smN_le n (fun i hi => h i (by omega))
    have h2 := h n (by omega)
    omega
theorem smN_c (g : Nat → Nat) : ∀ n, smN g (n + 1) = g 0 + smN (fun i => g (i + 1)) n
  | 0 => by show 0 + g 0 = g 0 + 0; omega
  | n + 1 => by rw [smN_s, smN_c g n, smN_s]; omega
theorem smN_l (d : Nat) : ∀ (n : Nat) (l : List Nat), smN (fun i => l.getD i 0) n ≤ l.sum
  | 0, _ => Nat.zero_le _
  | n + 1, [] => by
    have := smN_l d n []
    rw [smN_s]
    show _ + 0 ≤ _
    omega
  | n + 1, a :: l => by
    rw [smN_c, List.sum_cons]
    have := smN_l d n l
    show a + smN (fun i => l.getD i 0) n ≤ _
    omega
theorem sum_f {g : Nat → Nat} {N : Nat} : ∀ (l : List Nat), l.Nodup → (l.map g).sum ≤ ((l.filter (fun x => decide (x ≠ N))).map g).sum + g N
  | [], _ => Nat.zero_le _
  | a :: l, h => by
    have h1 := List.nodup_cons.mp h
    have ih := sum_f (g := g) (N := N) l h1.2
    rw [List.map_cons, List.sum_cons]
    by_cases c : a = N
    · have e2 : l.filter (fun x => decide (x ≠ N)) = l := List.filter_eq_self.mpr (fun x hx => decide_eq_true (fun (e : x = N) => h1.1 (by rw [c, ← e]; exact hx)))
      rw [List.filter_cons_of_neg (p := fun x => decide (x ≠ N)) (by rw [c]; simp), e2, c]
      omega
    · rw [List.filter_cons_of_pos (p := fun x => decide (x ≠ N)) (decide_eq_true c), List.map_cons, List.sum_cons]
      omega
theorem sum_nd {g : Nat → Nat} : ∀ (N : Nat) (l : List Nat), l.Nodup → (∀ x, x ∈ l → x < N) → (l.map g).sum ≤ smN g N
  | 0, l, _, h => by
    cases l with
    | nil => exact Nat.zero_le _
    | cons a l => exact absurd (h a (List.mem_cons_self ..)) (by omega)
  | N + 1, l, hd, h => by
    have h1 := sum_f (g := g) (N := N) l hd
    have h2 := sum_nd (g := g) N (l.filter (fun x => decide (x ≠ N))) (hd.filter _) (fun x hx => by
      have := List.mem_filter.mp hx
      have h3 := h x this.1
      have h4 := of_decide_eq_true this.2
      omega)
    rw [smN_s]
    omega
/-- slots counted by object -/
theorem slots_le {g : Nat → Nat} : ∀ (T : Nat) (l : List Nat), l.Nodup → (∀ z, z ∈ l → z / 2 / 64 < T ∧ z / 2 % 64 < g (z / 2 / 64)) → l.length ≤ 2 * smN g T
  | 0, l, _, h => by
    cases l with
    | nil => exact Nat.zero_le _
    | cons a l => exact absurd (h a (List.mem_cons_self ..)).1 (by omega)
  | T + 1, l, hd, h => by
    have h2 := slots_le (g := g) T (l.filter (fun z => decide (z / 2 / 64 ≠ T))) (hd.filter _) (fun z hz => by
      have := List.mem_filter.mp hz
      have h3 := h z this.1
      have h4 := of_decide_eq_true this.2
      exact ⟨by omega, h3.2⟩)
    have h1 : (l.filter (fun z => !decide (z / 2 / 64 ≠ T))).length ≤ 2 * g T := nodup_le (128 * T) _ _ (hd.filter _) (fun z hz => by
      have := List.mem_filter.mp hz
      have h3 := h z this.1
      have h4 : z / 2 / 64 = T := by
        have := this.2
        simpa using this
      rw [h4] at h3
      omega)
    have h5 : ∀ (p : Nat → Bool) (l : List Nat), l.length = (l.filter p).length + (l.filter (fun x => !p x)).length := by
      intro p l
      induction l with
      | nil => rfl
      | cons a l ih =>
        by_cases c : p a = true
        · rw [List.filter_cons_of_pos c, List.filter_cons_of_neg (by rw [c]; decide), List.length_cons, List.length_cons]; omega
        · rw [List.filter_cons_of_neg c, List.filter_cons_of_pos (by rw [Bool.eq_false_iff.mpr c]; rfl), List.length_cons, List.length_cons]; omega
    have h6 := h5 (fun z => decide (z / 2 / 64 ≠ T)) l
    rw [smN_s]
    omega
theorem ams_sum {b : Nat → Nat} {n : Nat} : ∀ {c p : Nat} {l : List (Nat × Nat × Bool)}, ams b n c p = some l → (l.map (fun x => x.2.1)).sum ≤ n - p
  | 0, p, l, h => by
    unfold ams at h
    split at h
    · cases h; exact Nat.zero_le _
    · cases h
  | c + 1, p, l, h => by
    rw [ams_s] at h
    split at h
    · cases h; exact Nat.zero_le _
    · split at h
      · rename_i c1 c2
        cases e : ams b n c (aX b p) with
        | none => rw [e] at h; cases h
        | some l' =>
          rw [e] at h
          cases h
          have h1 := ams_sum e
          have h2 : p + 60 + aV b p ≤ n := by
            have := (ams_le (b := b) (n := n) (c := c + 1) (p := p) (l := (p + 60, aV b p, decide (b p = 47)) :: l') (by rw [ams_s, if_neg c1, if_pos c2, e]; rfl)).2 _ (List.mem_cons_self ..)
            exact this
          rw [List.map_cons, List.sum_cons]
          have e3 : aX b p = p + 60 + aV b p + aV b p % 2 := rfl
          show aV b p + _ ≤ _
          omega
      · cases h
theorem fMem_sum {b : Nat → Nat} {n : Nat} {l : List (Nat × Nat × Bool)} (h : fMem b n = some l) : (l.map (fun x => x.2.1)).sum ≤ n := by
  unfold fMem at h
  split at h
  · have := ams_sum h; omega
  · cases h
    show n + 0 ≤ n
    omega
/-- the size of member q -/
def szQ (fs : px_FS) (q : Nat) : Nat := ((obAt fs q).map (fun y => y.2.1)).getD 0
theorem szQ_f {fs : px_FS} {f : Nat} : smN (fun k => szQ fs (8 * f + k)) 8 ≤ (fs.map Prod.fst).getD f 0 := by
  have hz : (∀ k, k < 8 → szQ fs (8 * f + k) = 0) → smN (fun k => szQ fs (8 * f + k)) 8 ≤ (fs.map Prod.fst).getD f 0 := fun h => by
    have h1 := smN_le (g := fun k => szQ fs (8 * f + k)) (g' := fun _ => 0) 8 (fun i hi => by show szQ fs (8 * f + i) ≤ 0; rw [h i hi]; exact Nat.le_refl _)
    have h2 : smN (fun _ => 0) 8 = 0 := rfl
    omega
  have e1 : ∀ k, k < 8 → (8 * f + k) / 8 = f ∧ (8 * f + k) % 8 = k := fun k hk => by omega
  cases hx : fs[f]? with
  | none =>
    refine hz (fun k hk => ?_)
    unfold szQ obAt
    rw [(e1 k hk).1, hx]; rfl
  | some x =>
    cases hl : fMem x.2 x.1 with
    | none =>
      refine hz (fun k hk => ?_)
      unfold szQ obAt
      simp only [(e1 k hk).1, hx, hl]; rfl
    | some l =>
      have e2 : (fs.map Prod.fst).getD f 0 = x.1 := by rw [List.getD_eq_getElem?_getD, List.getElem?_map, hx]; rfl
      have h1 := fMem_sum hl
      have h2 := smN_l 0 8 (l.map (fun x => x.2.1))
      have h3 := smN_le (g := fun k => szQ fs (8 * f + k)) (g' := fun i => (l.map (fun x => x.2.1)).getD i 0) 8 (fun k hk => by
        show szQ fs (8 * f + k) ≤ (l.map (fun x => x.2.1)).getD k 0
        unfold szQ obAt
        simp only [(e1 k hk).1, (e1 k hk).2, hx, hl, List.getD_eq_getElem?_getD, List.getElem?_map]
        cases l[k]? with
        | none => exact Nat.le_refl _
        | some y => exact Nat.le_refl _)
      rw [e2]
      omega
theorem smN_a (g : Nat → Nat) (a : Nat) : ∀ c, smN g (a + c) = smN g a + smN (fun k => g (a + k)) c
  | 0 => rfl
  | c + 1 => by
    rw [← Nat.add_assoc, smN_s, smN_s, smN_a g a c, Nat.add_assoc]
theorem smN_8 (g : Nat → Nat) : ∀ F, smN g (8 * F) = smN (fun f => smN (fun k => g (8 * f + k)) 8) F
  | 0 => rfl
  | F + 1 => by
    rw [smN_s, ← smN_8 g F, show 8 * (F + 1) = 8 * F + 8 by omega, smN_a]
theorem szQ_all {fs : px_FS} : smN (szQ fs) 64 ≤ (fs.map Prod.fst).sum := by
  rw [show (64:Nat) = 8 * 8 from rfl, smN_8]
  have h1 := smN_le (g := fun f => smN (fun k => szQ fs (8 * f + k)) 8) (g' := fun f => (fs.map Prod.fst).getD f 0) 8 (fun f _ => szQ_f)
  have h2 := smN_l 0 8 (fs.map Prod.fst)
  omega
theorem oM_n {b : Nat → Nat} {n : Nat} (h : eObj b n = 0) : 24 * oM b ≤ n := by
  have hw := (eObj_0 h).1
  unfold oM
  by_cases c : oY b = 0
  · rw [if_pos c]; omega
  · rw [if_neg c]
    have hl := oY_lt hw.1.2.1.1
    have ht := oY_T c
    have := hw.1.2.2.2.1 _ hl (by rw [ht]; decide) (by rw [ht]; decide)
    omega
theorem smN_t {g : Nat → Nat} {f : Nat → Nat} : ∀ (l : List Nat) (T : Nat), T ≤ l.length → (∀ t q, l[t]? = some q → f t ≤ g q) → smN f T ≤ ((l.take T).map g).sum
  | l, 0, _, _ => Nat.zero_le _
  | l, T + 1, hT, h => by
    have h1 := smN_t l T (by omega) h
    rw [smN_s, List.take_succ, List.map_append, List.sum_append, List.getElem?_eq_getElem (show T < l.length by omega)]
    have h2 := h T _ (List.getElem?_eq_getElem (show T < l.length by omega))
    show _ ≤ _ + (g l[T] + 0)
    omega
theorem SLN_of {fs : px_FS} {s : px_TK} (hf : FSo fs) (hb : BK fs s) (hs : (fs.map Prod.fst).sum ≤ 4096) : SLN s.2.2.1.length (tB fs s.2.2.1) := by
  intro l hl
  have h1 := slots_le (g := fun t => oM (tB fs s.2.2.1 t)) _ l hl.1 hl.2
  have h2 := smN_t (g := szQ fs) (f := fun t => 24 * oM (tB fs s.2.2.1 t)) s.2.2.1 s.2.2.1.length (Nat.le_refl _) (fun t q hq => by
    obtain ⟨q', a1, a2, a3⟩ := obT_at hb (List.getElem?_eq_some_iff.mp hq).1
    rw [hq] at a1
    have e := Option.some.inj a1
    rw [← e] at a3
    have h4 := oM_n (hf _ _ _ _ a3).2
    show 24 * oM (tB fs s.2.2.1 t) ≤ szQ fs q
    unfold szQ
    rw [a3]
    exact h4)
  rw [List.take_length] at h2
  have h3 := sum_nd (g := szQ fs) 64 s.2.2.1 hb.2.2.2.2.2.1 (fun q hq => (hb.2.2.2.2.2.2 q hq).1)
  have h4 := szQ_all (fs := fs)
  have h5 : ∀ (g : Nat → Nat) T, smN (fun t => 24 * g t) T = 24 * smN g T := by
    intro g T
    induction T with
    | zero => rfl
    | succ T ih => rw [smN_s, smN_s, ih]; omega
  rw [h5] at h2
  omega
