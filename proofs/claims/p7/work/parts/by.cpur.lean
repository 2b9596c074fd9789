/-! pure: what the groups' laying keeps; the order of groups -/
section CPU
variable {tb : Nat → Nat → Nat} {g : Nat} {th : Bool} {ad : Nat → Nat}
theorem cnd_q {x : Nat} (h : g ≠ 1) : cnd tb g x = decide (oG (tb (x / 24)) (x % 24) = g) := by
  unfold cnd
  rw [decide_eq_false h, Bool.false_and, Bool.not_false, Bool.and_true]
theorem pg1_n {G : px_PG} {x : Nat} (h : cnd tb g x = false) : pg1 tb g th G x = G := by
  unfold pg1; rw [if_neg (by rw [h]; decide)]
theorem pg1_y {G : px_PG} {x : Nat} (h : cnd tb g x = true) : ∃ v, pg1 tb g th G x = (v + zS tb x, fun y => if y = x then v else G.2.1 y, if g = 3 then some (G.2.2.getD v) else G.2.2) := ⟨pgA tb th G.1 x, by unfold pg1; rw [if_pos h]⟩
theorem pg_no : ∀ (l : List Nat) (G : px_PG), (∀ x, x ∈ l → cnd tb g x = false) → l.foldl (pg1 tb g th) G = G
  | [], _, _ => rfl
  | x :: l, G, h => by
    rw [List.foldl_cons, pg1_n (h x List.mem_cons_self)]
    exact pg_no l G (fun y hy => h y (List.mem_cons_of_mem _ hy))
theorem pg_k {x : Nat} (h : cnd tb g x = false) : ∀ (l : List Nat) (G : px_PG), (l.foldl (pg1 tb g th) G).2.1 x = G.2.1 x
  | [], _ => rfl
  | y :: l, G => by
    rw [List.foldl_cons, pg_k h l]
    cases hy : cnd tb g y with
    | false => rw [pg1_n hy]
    | true =>
      obtain ⟨v, e⟩ := pg1_y (th := th) (G := G) hy
      rw [e]
      show (if x = y then v else G.2.1 x) = G.2.1 x
      rw [if_neg (fun q => by rw [q, hy] at h; cases h)]
theorem pg_last {l1 l2 : List Nat} {x : Nat} {G : px_PG} (h : cnd tb g x = true) (h2 : ∀ y, y ∈ l2 → cnd tb g y = false) : ((l1 ++ x :: l2).foldl (pg1 tb g th) G).1 = ((l1 ++ x :: l2).foldl (pg1 tb g th) G).2.1 x + zS tb x := by
  rw [List.foldl_append, List.foldl_cons, pg_no l2 _ h2]
  obtain ⟨v, e⟩ := pg1_y (th := th) (G := l1.foldl (pg1 tb g th) G) h
  rw [e]
  show v + zS tb x = (if x = x then v else _) + zS tb x
  rw [if_pos rfl]
theorem pg_out {x : Nat} : ∀ (l : List Nat) (G : px_PG), x ∉ l → (l.foldl (pg1 tb g th) G).2.1 x = G.2.1 x
  | [], _, _ => rfl
  | y :: l, G, h => by
    rw [List.foldl_cons, pg_out l _ (fun q => h (List.mem_cons_of_mem _ q))]
    cases hy : cnd tb g y with
    | false => rw [pg1_n hy]
    | true =>
      obtain ⟨v, e⟩ := pg1_y (th := th) (G := G) hy
      rw [e]
      show (if x = y then v else G.2.1 x) = G.2.1 x
      rw [if_neg (fun q => h (by rw [q]; exact List.mem_cons_self))]
theorem pg_some : ∀ (l : List Nat) (G : px_PG) (v : Nat), G.2.2 = some v → (l.foldl (pg1 tb 3 th) G).2.2 = some v
  | [], _, _, h => h
  | y :: l, G, v, h => by
    rw [List.foldl_cons]
    refine pg_some l _ v ?_
    cases hy : cnd tb 3 y with
    | false => rw [pg1_n hy]; exact h
    | true =>
      obtain ⟨w, e⟩ := pg1_y (th := th) (G := G) hy
      rw [e]
      show (if 3 = 3 then some (G.2.2.getD w) else G.2.2) = some v
      rw [if_pos rfl, h]
      rfl
theorem pg_fst : ∀ (l : List Nat) (G : px_PG), l.Nodup → G.2.2 = none → (l.foldl (pg1 tb 3 th) G).2.2 = (l.find? (cnd tb 3)).map (l.foldl (pg1 tb 3 th) G).2.1
  | [], _, _, h => h
  | y :: l, G, hn, h => by
    obtain ⟨n1, n2⟩ := List.nodup_cons.mp hn
    rw [List.foldl_cons, List.find?_cons]
    cases hy : cnd tb 3 y with
    | false =>
      rw [pg1_n hy]
      exact pg_fst l G n2 h
    | true =>
      obtain ⟨w, e⟩ := pg1_y (th := th) (G := G) hy
      show _ = some _
      rw [pg_out l _ n1, e]
      show _ = some (if y = y then w else G.2.1 y)
      rw [if_pos (show y = y from rfl)]
      refine pg_some l _ w ?_
      show (if 3 = 3 then some (G.2.2.getD w) else G.2.2) = some w
      rw [if_pos rfl, h]
      rfl
theorem lst_ex (p : Nat → Bool) : ∀ (l : List Nat), (∀ y, y ∈ l → p y = false) ∨ ∃ l1 x l2, l = l1 ++ x :: l2 ∧ p x = true ∧ ∀ y, y ∈ l2 → p y = false
  | [] => Or.inl (fun _ h => nomatch h)
  | a :: l => by
    rcases lst_ex p l with h | ⟨l1, x, l2, e, h1, h2⟩
    · cases ha : p a with
      | false => exact Or.inl (fun y hy => (List.mem_cons.mp hy).elim (fun q => by rw [q]; exact ha) (h y))
      | true => exact Or.inr ⟨[], a, l, rfl, ha, h⟩
    · exact Or.inr ⟨a :: l1, x, l2, by rw [e]; rfl, h1, h2⟩
theorem ft1_n {s : px_FT} {x : Nat} (h : ¬ 4 ≤ oG (tb (x / 24)) (x % 24)) : ft1 tb ad s x = s := by unfold ft1; rw [if_neg h]
theorem ft_no : ∀ (l : List Nat) (s : px_FT), (∀ x, x ∈ l → ¬ 4 ≤ oG (tb (x / 24)) (x % 24)) → l.foldl (ft1 tb ad) s = s
  | [], _, _ => rfl
  | x :: l, s, h => by
    rw [List.foldl_cons, ft1_n (h x List.mem_cons_self)]
    exact ft_no l s (fun y hy => h y (List.mem_cons_of_mem _ hy))
theorem ft_last {l1 l2 : List Nat} {x : Nat} {s : px_FT} (h : 4 ≤ oG (tb (x / 24)) (x % 24)) (h2 : ∀ y, y ∈ l2 → ¬ 4 ≤ oG (tb (y / 24)) (y % 24)) : ((l1 ++ x :: l2).foldl (ft1 tb ad) s).1 = true ∧ ((l1 ++ x :: l2).foldl (ft1 tb ad) s).2.1 = ad x + zS tb x := by
  rw [List.foldl_append, List.foldl_cons, ft_no l2 _ h2]
  generalize l1.foldl (ft1 tb ad) s = s1
  unfold ft1
  rw [if_pos h]
  exact ⟨rfl, rfl⟩
/-- no section of group 4 behind one of group 5 -/
def srt (tb : Nat → Nat → Nat) (l : List Nat) : Prop := l.Pairwise (fun x y => ¬ (oG (tb (x / 24)) (x % 24) = 5 ∧ oG (tb (y / 24)) (y % 24) = 4))
theorem oG_5 {b : Nat → Nat} {i : Nat} : oG b i ≤ 5 := by unfold oG; repeat (first | omega | split)
theorem tp_eq {ll : List Nat} {th : Bool} {H : px_PG} {G4 G5 : px_PG} (hs : srt tb ll) (e4 : G4 = ll.foldl (pg1 tb 4 th) H) (e5 : G5 = ll.foldl (pg1 tb 5 th) (G4.1, G4.2.1, none)) (ha : ∀ x, x ∈ ll → 4 ≤ oG (tb (x / 24)) (x % 24) → ad x = G5.2.1 x) : (ll.foldl (ft1 tb ad) (false, 0, 1, 0)).1 = true → (ll.foldl (ft1 tb ad) (false, 0, 1, 0)).2.1 = G5.1 := by
  intro ht
  rcases lst_ex (cnd tb 5) ll with h5 | ⟨l1, x, l2, e, h1, h2⟩
  · have g5 := pg_no (th := th) ll (G4.1, G4.2.1, none) h5
    rw [← e5] at g5
    rcases lst_ex (cnd tb 4) ll with h4 | ⟨l1, x, l2, e, h1, h2⟩
    · exfalso
      rw [ft_no ll _ (fun x hx => by
        have w4 := h4 x hx
        have w5 := h5 x hx
        rw [cnd_q (by decide)] at w4 w5
        have w4 := of_decide_eq_false w4
        have w5 := of_decide_eq_false w5
        have := oG_5 (b := tb (x / 24)) (i := x % 24)
        omega)] at ht
      cases ht
    · have c1 := h1
      rw [cnd_q (by decide)] at c1
      have c1 := of_decide_eq_true c1
      have hx : x ∈ ll := by rw [e]; exact List.mem_append.mpr (Or.inr List.mem_cons_self)
      rw [e, (ft_last (by omega) (fun y hy => by
        have hy' : y ∈ ll := by rw [e]; exact List.mem_append.mpr (Or.inr (List.mem_cons_of_mem _ hy))
        have w4 := h2 y hy
        have w5 := h5 y hy'
        rw [cnd_q (by decide)] at w4 w5
        have w4 := of_decide_eq_false w4
        have w5 := of_decide_eq_false w5
        have := oG_5 (b := tb (y / 24)) (i := y % 24)
        omega)).2, ha x hx (by omega), g5]
      have := pg_last (th := th) (G := H) (l1 := l1) h1 h2
      rw [← e, ← e4] at this
      exact this.symm
  · have c1 := h1
    rw [cnd_q (by decide)] at c1
    have c1 := of_decide_eq_true c1
    have hx : x ∈ ll := by rw [e]; exact List.mem_append.mpr (Or.inr List.mem_cons_self)
    have hp : ∀ y, y ∈ l2 → ¬ oG (tb (y / 24)) (y % 24) = 4 := fun y hy w => by
      unfold srt at hs
      rw [e] at hs
      exact (List.pairwise_cons.mp (List.pairwise_append.mp hs).2.1).1 y hy ⟨c1, w⟩
    have := pg_last (th := th) (G := (G4.1, G4.2.1, none)) (l1 := l1) h1 h2
    rw [← e, ← e5] at this
    rw [this, ← ha x hx (by omega), e]
    exact (ft_last (by omega) (fun y hy => by
      have w5 := h2 y hy
      rw [cnd_q (by decide)] at w5
      have w5 := of_decide_eq_false w5
      have := oG_5 (b := tb (y / 24)) (i := y % 24)
      have := hp y hy
      omega)).2
theorem ft_1 : ∀ (l : List Nat) (s : px_FT), (l.foldl (ft1 tb ad) s).1 = (s.1 || l.any (fun x => decide (4 ≤ oG (tb (x / 24)) (x % 24))))
  | [], s => by rw [List.foldl_nil, List.any_nil, Bool.or_false]
  | x :: l, s => by
    rw [List.foldl_cons, ft_1 l, List.any_cons]
    by_cases c : 4 ≤ oG (tb (x / 24)) (x % 24)
    · rw [decide_eq_true c, Bool.true_or, Bool.or_true]
      unfold ft1
      rw [if_pos c]
      rfl
    · rw [ft1_n c, decide_eq_false c, Bool.false_or]
end CPU
section CSR
variable {T : Nat} {tb : Nat → Nat → Nat} {sy : Nat → Nat → Bool}
def srU (tb : Nat → Nat → Nat) (u : Nat) (l : List Nat) : Prop := srt tb l ∧ ∀ x, x ∈ l → ∃ v, v ≤ u ∧ oG (tb (x / 24)) (x % 24) = gOf v
theorem srU_3 {u t i : Nat} {l : List Nat} (hu : u < 6) (hi : i < 24) (h : srU tb u l) : srU tb u (lay3 tb sy (gOf u) t i l) := by
  unfold lay3
  by_cases c : sy t i = true ∧ oG (tb t) i = gOf u
  · rw [if_pos c]
    have e1 : (24 * t + i) / 24 = t := by omega
    have e2 : (24 * t + i) % 24 = i := by omega
    refine ⟨List.pairwise_append.mpr ⟨h.1, List.pairwise_singleton _ _, fun x hx y hy w => ?_⟩, fun x hx => ?_⟩
    · rw [List.mem_singleton.mp hy, e1, e2, c.2] at w
      obtain ⟨v, v1, v2⟩ := h.2 x hx
      have w1 : gOf v = 5 := v2.symm.trans w.1
      have w2 := w.2
      unfold gOf at w1 w2
      repeat (first | omega | split at w1 | split at w2)
    · rcases List.mem_append.mp hx with hx | hx
      · exact h.2 x hx
      · rw [List.mem_singleton.mp hx, e1, e2]
        exact ⟨u, Nat.le_refl _, c.2⟩
  · rw [if_neg c]; exact h
theorem srt_lay (hS : ∀ t, t < T → oS (tb t) ≤ 24) : srt tb (layL T tb sy) := by
  have key : ∀ (c u : Nat) (l : List Nat), u + c = 6 → (srt tb l ∧ ∀ x, x ∈ l → ∃ v, v < u ∧ oG (tb (x / 24)) (x % 24) = gOf v) → srt tb (itr (lay1 T tb sy) u c l) := by
    intro c
    induction c with
    | zero => intro u l _ h; exact h.1
    | succ c ih =>
      intro u l hu h
      rw [itr_s]
      have h1 : srU tb u (lay1 T tb sy u l) := by
        unfold lay1
        refine itr_inv (P := srU tb u) (a := 0) (e := T) (fun t l _ ht hl => ?_) T 0 l (Nat.le_refl _) (by omega) ⟨h.1, fun x hx => (h.2 x hx).elim (fun v w => ⟨v, by omega, w.2⟩)⟩
        unfold lay2
        have := hS t ht
        by_cases c0 : oS (tb t) = 0
        · rw [c0]; exact hl
        · exact itr_inv (P := srU tb u) (a := 1) (e := oS (tb t)) (fun i l _ hi hl => srU_3 (by omega) (by omega) hl) _ 1 l (Nat.le_refl _) (by omega) hl
      exact ih (u + 1) _ (by omega) ⟨h1.1, fun x hx => (h1.2 x hx).elim (fun v w => ⟨v, by omega, w.2⟩)⟩
  exact key 6 0 [] rfl ⟨List.Pairwise.nil, fun _ h => nomatch h⟩
end CSR
