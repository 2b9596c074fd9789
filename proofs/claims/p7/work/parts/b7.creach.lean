/-! what the class's queue reaches: pure -/
def mQ (Q : (Nat → Bool) → (Nat → Bool) → Prop) : Prop := ∀ R n R' n' : Nat → Bool, (∀ x, R x = true → R' x = true) → (∀ x, n x = true → n' x = true) → Q R n → Q R' n'
def leQ (u v : px_CQ) : Prop := (∀ x, u.1 x = true → v.1 x = true) ∧ (∀ x, u.2.1 x = true → v.2.1 x = true) ∧ ∃ l, v.2.2 = u.2.2 ++ l
theorem leQ_refl {u : px_CQ} : leQ u u := ⟨fun _ h => h, fun _ h => h, [], (List.append_nil _).symm⟩
theorem leQ_trans {u v w : px_CQ} (h : leQ u v) (g : leQ v w) : leQ u w := by
  obtain ⟨l, hl⟩ := h.2.2
  obtain ⟨m, hm⟩ := g.2.2
  exact ⟨fun x q => g.1 x (h.1 x q), fun x q => g.2.1 x (h.2.1 x q), l ++ m, by rw [hm, hl, List.append_assoc]⟩
def GQ (g : px_CQ → px_CQ) (Q : (Nat → Bool) → (Nat → Bool) → Prop) : Prop := ∀ u, leQ u (g u) ∧ Q (g u).1 (g u).2.1
theorem GQ_itr {g : Nat → px_CQ → px_CQ} {Q : Nat → (Nat → Bool) → (Nat → Bool) → Prop} {a e : Nat} (hg : ∀ i, a ≤ i → i < e → GQ (g i) (Q i)) (hQ : ∀ i, mQ (Q i)) : ∀ (c k : Nat), a ≤ k → k + c ≤ e → GQ (itr g k c) (fun R n => ∀ i, k ≤ i → i < k + c → Q i R n) := by
  intro c
  induction c with
  | zero => intro k _ _ u; exact ⟨leQ_refl, fun i h1 h2 => by omega⟩
  | succ c ih =>
    intro k h1 h2 u
    obtain ⟨a1, a2⟩ := hg k h1 (by omega) u
    obtain ⟨b1, b2⟩ := ih (k + 1) (by omega) (by omega) (g k u)
    rw [itr_s]
    refine ⟨leQ_trans a1 b1, fun i h3 h4 => ?_⟩
    by_cases e : i = k
    · rw [e]; exact hQ k _ _ _ _ b1.1 b1.2.1 a2
    · exact b2 i (by omega) (by omega)
section CQP
variable {T : Nat} {tb : Nat → Nat → Nat} {dr : Nat → Bool} {xs : px_NL} {st cn : Option Nat} {u : px_CQ}
theorem cs1_le {x : Option Nat} : leQ u (cs1 x u) ∧ ∀ y, x = some y → (cs1 x u).1 y = true := by
  unfold cs1
  cases x with
  | none => exact ⟨leQ_refl, fun y e => nomatch e⟩
  | some y =>
    show leQ u (if u.1 y = true then u else (bup u.1 y, u.2.1, u.2.2 ++ [y])) ∧ ∀ z, some y = some z → (if u.1 y = true then u else (bup u.1 y, u.2.1, u.2.2 ++ [y])).1 z = true
    by_cases c : u.1 y = true
    · rw [if_pos c]
      exact ⟨leQ_refl, fun z e => by cases e; exact c⟩
    · rw [if_neg c]
      exact ⟨⟨fun _ h => bup_m h, fun _ h => h, [y], rfl⟩, fun z e => by cases e; exact bup_e⟩
theorem cn1_le {x : Option Nat} : leQ u (cn1 x u) ∧ ∀ y, x = some y → (cn1 x u).2.1 y = true := by
  unfold cn1
  cases x with
  | none => exact ⟨leQ_refl, fun y e => nomatch e⟩
  | some y => exact ⟨⟨fun _ h => h, fun _ h => bup_m h, [], (List.append_nil _).symm⟩, fun z e => by cases e; exact bup_e⟩
theorem QJ_mQ {t i j : Nat} : mQ (QJ T tb dr xs t i j) := fun R n R' n' h1 h2 h hh => ⟨fun y hy => h1 y ((h hh).1 y hy), fun m hm => h2 m ((h hh).2 m hm)⟩
theorem GQ_J {t i j : Nat} : GQ (cJ tb dr xs t i j) (QJ T tb dr xs t i j) := fun u => by
  unfold cJ
  by_cases c : sH (tb t) i j = 0
  · rw [if_pos c]; exact ⟨leQ_refl, fun q => absurd c q⟩
  · rw [if_neg c]
    obtain ⟨a1, a2⟩ := cn1_le (u := u) (x := comY tb xs t (sY (tb t) i j))
    obtain ⟨b1, b2⟩ := cs1_le (u := cn1 (comY tb xs t (sY (tb t) i j)) u) (x := secY tb dr xs t (sY (tb t) i j))
    exact ⟨leQ_trans a1 b1, fun _ => ⟨b2, fun m hm => b1.2.1 m (a2 m hm)⟩⟩
/-- the sites of a part have been followed -/
def QW (T : Nat) (tb : Nat → Nat → Nat) (dr : Nat → Bool) (xs : px_NL) (t w i : Nat) (R n : Nat → Bool) : Prop := isS (tb t) i = true → oI (tb t) i = w → ∀ j, 0 ≤ j → j < 0 + sN (tb t) i → QJ T tb dr xs t i j R n
theorem QW_mQ {t w i : Nat} : mQ (QW T tb dr xs t w i) := fun R n R' n' h1 h2 h a b j c d => QJ_mQ _ _ _ _ h1 h2 (h a b j c d)
theorem GQ_I {t w i : Nat} : GQ (cI tb dr xs t w i) (QW T tb dr xs t w i) := fun u => by
  unfold cI
  by_cases c : isS (tb t) i = true ∧ oI (tb t) i = w
  · rw [if_pos c]
    obtain ⟨a1, a2⟩ := GQ_itr (g := cJ tb dr xs t i) (Q := QJ T tb dr xs t i) (a := 0) (e := sN (tb t) i) (fun j _ _ => GQ_J) (fun j => QJ_mQ) (sN (tb t) i) 0 (Nat.le_refl _) (by omega) u
    exact ⟨a1, fun _ _ => a2⟩
  · rw [if_neg c]
    exact ⟨leQ_refl, fun a b => absurd ⟨a, b⟩ c⟩
def Cl (T : Nat) (tb : Nat → Nat → Nat) (dr : Nat → Bool) (xs : px_NL) (x : Nat) (R n : Nat → Bool) : Prop := ∀ i, 0 ≤ i → i < 0 + oS (tb (x / 24)) → QW T tb dr xs (x / 24) (x % 24) i R n
theorem Cl_mQ {x : Nat} : mQ (Cl T tb dr xs x) := fun R n R' n' h1 h2 h i a b => QW_mQ _ _ _ _ h1 h2 (h i a b)
theorem GQ_P {x : Nat} : GQ (cP tb dr xs x) (Cl T tb dr xs x) := GQ_itr (g := cI tb dr xs (x / 24) (x % 24)) (Q := QW T tb dr xs (x / 24) (x % 24)) (a := 0) (e := oS (tb (x / 24))) (fun i _ _ => GQ_I) (fun i => QW_mQ) (oS (tb (x / 24))) 0 (Nat.le_refl _) (by omega)
/-- nothing is reached without a reason -/
def SQ (T : Nat) (tb : Nat → Nat → Nat) (dr : Nat → Bool) (xs : px_NL) (st cn : Option Nat) (u : px_CQ) : Prop := (∀ x, u.1 x = true → Rch T tb dr xs st x) ∧ ∀ n, u.2.1 n = true → RcN T tb dr xs st cn n
theorem SQ_s {x : Option Nat} (h : SQ T tb dr xs st cn u) (hx : ∀ y, x = some y → Rch T tb dr xs st y) : SQ T tb dr xs st cn (cs1 x u) := by
  unfold cs1
  cases x with
  | none => exact h
  | some y =>
    show SQ T tb dr xs st cn (if u.1 y = true then u else (bup u.1 y, u.2.1, u.2.2 ++ [y]))
    by_cases c : u.1 y = true
    · rw [if_pos c]; exact h
    · rw [if_neg c]
      refine ⟨fun z hz => ?_, h.2⟩
      have hz : bup u.1 y z = true := hz
      unfold bup at hz
      by_cases e : z = y
      · rw [e]; exact hx y rfl
      · rw [if_neg e] at hz; exact h.1 z hz
theorem SQ_n {x : Option Nat} (h : SQ T tb dr xs st cn u) (hx : ∀ y, x = some y → RcN T tb dr xs st cn y) : SQ T tb dr xs st cn (cn1 x u) := by
  unfold cn1
  cases x with
  | none => exact h
  | some y =>
    refine ⟨h.1, fun z hz => ?_⟩
    have hz : bup u.2.1 y z = true := hz
    unfold bup at hz
    by_cases e : z = y
    · rw [e]; exact hx y rfl
    · rw [if_neg e] at hz; exact h.2 z hz
theorem SQ_P {x n : Nat} (hx : x < 24 * T) (he : ∀ t, t < T → eObj (tb t) n = 0 ∨ ∃ m, eObj (tb t) m = 0) (hr : Rch T tb dr xs st x) (h : SQ T tb dr xs st cn u) : SQ T tb dr xs st cn (cP tb dr xs x u) := by
  have ht : x / 24 < T := by omega
  obtain ⟨m, hm⟩ : ∃ m, eObj (tb (x / 24)) m = 0 := (he _ ht).elim (fun q => ⟨n, q⟩) id
  unfold cP
  refine itr_inv (g := cI tb dr xs (x / 24) (x % 24)) (P := SQ T tb dr xs st cn) (a := 0) (e := oS (tb (x / 24))) (fun i u _ hi hu => ?_) _ 0 u (Nat.le_refl _) (by omega) h
  unfold cI
  by_cases c : isS (tb (x / 24)) i = true ∧ oI (tb (x / 24)) i = x % 24
  · rw [if_pos c]
    have h1 := isS_1 hm c.1
    refine itr_inv (g := cJ tb dr xs (x / 24) i) (P := SQ T tb dr xs st cn) (a := 0) (e := sN (tb (x / 24)) i) (fun j u _ hj hu => ?_) _ 0 u (Nat.le_refl _) (by omega) hu
    unfold cJ
    by_cases c1 : sH (tb (x / 24)) i j = 0
    · rw [if_pos c1]; exact hu
    · rw [if_neg c1]
      have ex : 24 * (x / 24) + oI (tb (x / 24)) i = x := by rw [c.2]; omega
      refine SQ_s (SQ_n hu (fun y hy => Or.inr ⟨x / 24, i, j, ht, ⟨h1, hi⟩, c.1, hj, c1, by rw [ex]; exact hr, hy⟩)) (fun y hy P p1 p2 => ?_)
      exact p2 (x / 24) i j ht h1 hi c.1 hj c1 (by rw [ex]; exact hr P p1 p2) y hy
  · rw [if_neg c]; exact hu
/-- the queue is empty: all that can be reached is -/
theorem SQ_end (hS : ∀ t, t < T → 1 ≤ oS (tb t)) (he : ∀ t, t < T → ∃ m, eObj (tb t) m = 0) (hst : ∀ y, st = some y → u.1 y = true) (hcn : ∀ y, cn = some y → u.2.1 y = true) (h : SQ T tb dr xs st cn u) (hc : ∀ x, u.1 x = true → Cl T tb dr xs x u.1 u.2.1) : (∀ x, u.1 x = true ↔ Rch T tb dr xs st x) ∧ ∀ n, u.2.1 n = true ↔ RcN T tb dr xs st cn n := by
  have hq : ∀ t, 0 ≤ t → t < 0 + T → QT T tb dr xs t u.1 u.2.1 := fun t _ ht i h1 hi hs hR j j1 j2 => by
    obtain ⟨m, hm⟩ := he t (by omega)
    have hoI := (eSit_0 hm h1 (by omega) hs).1
    have hS24 := (eObj_0 hm).1.1.2.1.2
    have := hc _ hR i (Nat.zero_le _)
    rw [show (24 * t + oI (tb t) i) / 24 = t by omega] at this
    have := this (by omega)
    unfold QW at this
    rw [show (24 * t + oI (tb t) i) % 24 = oI (tb t) i by omega] at this
    exact this hs rfl j j1 j2
  obtain ⟨a1, a2⟩ := Rch_of (R := u.1) (n := u.2.1) hS hst hcn hq
  exact ⟨fun x => ⟨h.1 x, a1 x⟩, fun n => ⟨h.2 n, a2 n⟩⟩
end CQP
