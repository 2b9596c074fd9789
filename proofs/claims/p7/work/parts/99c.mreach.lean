/-! what is reached, as the least set; reach of the reference -/
def clo (T : Nat) (tb : Nat → Nat → Nat) (dr : Nat → Bool) (xs : px_NL) (P : Nat → Prop) : Prop := ∀ t i j, t < T → 1 ≤ i → i < oS (tb t) → isS (tb t) i = true → j < sN (tb t) i → sH (tb t) i j ≠ 0 → P (24 * t + oI (tb t) i) → ∀ x, secY tb dr xs t (sY (tb t) i j) = some x → P x
def Rch (T : Nat) (tb : Nat → Nat → Nat) (dr : Nat → Bool) (xs : px_NL) (st : Option Nat) (x : Nat) : Prop := ∀ P : Nat → Prop, (∀ y, st = some y → P y) → clo T tb dr xs P → P x
def RcN (T : Nat) (tb : Nat → Nat → Nat) (dr : Nat → Bool) (xs : px_NL) (st cn : Option Nat) (n : Nat) : Prop := cn = some n ∨ ∃ t i j, t < T ∧ (1 ≤ i ∧ i < oS (tb t)) ∧ isS (tb t) i = true ∧ j < sN (tb t) i ∧ sH (tb t) i j ≠ 0 ∧ Rch T tb dr xs st (24 * t + oI (tb t) i) ∧ comY tb xs t (sY (tb t) i j) = some n
def SD (T : Nat) (tb : Nat → Nat → Nat) (dr : Nat → Bool) (xs : px_NL) (st cn : Option Nat) (s : px_RR) : Prop := (∀ x, s.1 x = true → Rch T tb dr xs st x) ∧ ∀ n, s.2.1 n = true → RcN T tb dr xs st cn n
def GD (g : px_RR → px_RR) (Q : (Nat → Bool) → (Nat → Bool) → Prop) : Prop := ∀ s, (∀ n, s.2.1 n = true → (g s).2.1 n = true) ∧ (∀ x, s.1 x = true → (g s).1 x = true) ∧ ((g s).2.2 = false → s.2.2 = false ∧ (g s).1 = s.1 ∧ Q s.1 (g s).2.1) ∧ (s.2.2 = false → (g s).2.2 = true → ∃ y, y < 1536 ∧ s.1 y = false ∧ (g s).1 y = true)
theorem GD_itr {g : Nat → px_RR → px_RR} {Q : Nat → (Nat → Bool) → (Nat → Bool) → Prop} {a e : Nat} (hg : ∀ i, a ≤ i → i < e → GD (g i) (Q i)) (hQ : ∀ i R n n', (∀ x, n x = true → n' x = true) → Q i R n → Q i R n') : ∀ (c k : Nat), a ≤ k → k + c ≤ e → GD (itr g k c) (fun R n => ∀ i, k ≤ i → i < k + c → Q i R n) := by
  intro c
  induction c with
  | zero =>
    intro k h1 h2 s
    rw [itr_0]
    exact ⟨fun _ h => h, fun _ h => h, fun h => ⟨h, rfl, fun i h3 h4 => by omega⟩, fun h h' => by rw [h] at h'; cases h'⟩
  | succ c ih =>
    intro k h1 h2 s
    rw [itr_s]
    obtain ⟨a1, a2, a3, a4⟩ := hg k h1 (by omega) s
    obtain ⟨b1, b2, b3, b4⟩ := ih (k + 1) (by omega) (by omega) (g k s)
    refine ⟨fun n hn => b1 n (a1 n hn), fun x hx => b2 x (a2 x hx), fun hf => ?_, fun hf ht => ?_⟩
    · obtain ⟨c1, c2, c3⟩ := b3 hf
      obtain ⟨d1, d2, d3⟩ := a3 c1
      refine ⟨d1, c2.trans d2, fun i h3 h4 => ?_⟩
      by_cases e : i = k
      · rw [e]
        exact hQ k _ _ _ b1 d3
      · have := c3 i (by omega) (by omega)
        rw [d2] at this
        exact this
    · cases e : (g k s).2.2 with
      | true =>
        obtain ⟨y, y1, y2, y3⟩ := a4 hf e
        exact ⟨y, y1, y2, b2 y y3⟩
      | false =>
        obtain ⟨y, y1, y2, y3⟩ := b4 e ht
        rw [(a3 e).2.1] at y2
        exact ⟨y, y1, y2, y3⟩
theorem GD_id {Q : (Nat → Bool) → (Nat → Bool) → Prop} (h : ∀ R n, Q R n) : GD (fun s => s) Q := fun s => ⟨fun _ h => h, fun _ h => h, fun hf => ⟨hf, rfl, h _ _⟩, fun hf ht => by rw [hf] at ht; cases ht⟩
theorem GD_1 {x z : Option Nat} (hx : ∀ y, x = some y → y < 1536) : GD (fun s => rs1 x (rn1 z s)) (fun R n => (∀ y, x = some y → R y = true) ∧ ∀ m, z = some m → n m = true) := by
  intro s
  have hz : (rn1 z s).1 = s.1 ∧ (rn1 z s).2.2 = s.2.2 ∧ (∀ n, s.2.1 n = true → (rn1 z s).2.1 n = true) ∧ ∀ m, z = some m → (rn1 z s).2.1 m = true := by
    cases z with
    | none => exact ⟨rfl, rfl, fun _ h => h, fun m hm => nomatch hm⟩
    | some m => exact ⟨rfl, rfl, fun n hn => bup_m hn, fun m' hm => by rw [← Option.some.inj hm]; exact bup_e⟩
  obtain ⟨z1, z2, z3, z4⟩ := hz
  show (∀ n, s.2.1 n = true → (rs1 x (rn1 z s)).2.1 n = true) ∧ (∀ y, s.1 y = true → (rs1 x (rn1 z s)).1 y = true) ∧ ((rs1 x (rn1 z s)).2.2 = false → s.2.2 = false ∧ (rs1 x (rn1 z s)).1 = s.1 ∧ ((∀ y, x = some y → s.1 y = true) ∧ ∀ m, z = some m → (rs1 x (rn1 z s)).2.1 m = true)) ∧ (s.2.2 = false → (rs1 x (rn1 z s)).2.2 = true → ∃ y, y < 1536 ∧ s.1 y = false ∧ (rs1 x (rn1 z s)).1 y = true)
  generalize rn1 z s = r at *
  rw [← z1, ← z2]
  cases x with
  | none => exact ⟨z3, fun _ h => h, fun hf => ⟨hf, rfl, fun y hy => (nomatch hy), z4⟩, fun hf ht => by rw [show (rs1 none r).2.2 = r.2.2 from rfl, hf] at ht; cases ht⟩
  | some y =>
    by_cases c : r.1 y = true
    · have e : rs1 (some y) r = r := by show (if r.1 y = true then r else _) = r; rw [if_pos c]
      rw [e]
      exact ⟨z3, fun _ h => h, fun hf => ⟨hf, rfl, fun y' hy => by rw [← Option.some.inj hy]; exact c, z4⟩, fun hf ht => by rw [hf] at ht; cases ht⟩
    · have e : rs1 (some y) r = (bup r.1 y, r.2.1, true) := by show (if r.1 y = true then r else _) = _; rw [if_neg c]
      rw [e]
      exact ⟨z3, fun x hx => bup_m hx, fun hf => (nomatch hf), fun _ _ => ⟨y, hx y rfl, Bool.eq_false_iff.mpr c, bup_e⟩⟩
theorem GD_if {G : px_RR → px_RR} {I : Bool} {X N : Nat} {Q : Nat → (Nat → Bool) → (Nat → Bool) → Prop} (h : GD G (fun R n => ∀ i, 0 ≤ i → i < 0 + N → Q i R n)) : GD (fun s => if I = true ∧ s.1 X = true then G s else s) (fun R n => I = true → R X = true → ∀ j, 0 ≤ j → j < 0 + N → Q j R n) := by
  intro s
  obtain ⟨a1, a2, a3, a4⟩ := h s
  dsimp only
  by_cases c : I = true ∧ s.1 X = true
  · rw [if_pos c]
    exact ⟨a1, a2, fun hf => ⟨(a3 hf).1, (a3 hf).2.1, fun _ _ => (a3 hf).2.2⟩, a4⟩
  · rw [if_neg c]
    exact ⟨fun _ h => h, fun _ h => h, fun hf => ⟨hf, rfl, fun h1 h2 => absurd ⟨h1, h2⟩ c⟩, fun hf ht => by rw [hf] at ht; cases ht⟩
section MRC
variable {T : Nat} {tb : Nat → Nat → Nat} {dr : Nat → Bool} {xs : px_NL} {st cn : Option Nat}
theorem secT_lt {t w y : Nat} (ht : t < 64) (hS : oS (tb t) ≤ 24) (h : secT tb dr t w = some y) : y < 1536 := by
  unfold secT at h
  split at h
  · rename_i c
    have := Option.some.inj h
    omega
  · cases h
theorem secY_lt {t k y : Nat} (hT : T ≤ 64) (hS : ∀ t, t < T → oS (tb t) ≤ 24) (hby : AL (byP T tb dr) xs) (ht : t < T) (h : secY tb dr xs t k = some y) : y < 1536 := by
  unfold secY at h
  split at h
  · cases h
  · split at h
    · exact secT_lt (by omega) (hS t ht) h
    · split at h
      · cases h
      · rename_i x hx
        have hb := hby _ x hx
        unfold secN at h
        unfold byP at hb
        split at h
        · cases h
        · rename_i q hq
          rw [hq] at hb
          split at h
          · exact secT_lt (by have := hb.1; omega) (hS q.1 hb.1) h
          · cases h
def QJ (T : Nat) (tb : Nat → Nat → Nat) (dr : Nat → Bool) (xs : px_NL) (t i j : Nat) (R n : Nat → Bool) : Prop := sH (tb t) i j ≠ 0 → (∀ y, secY tb dr xs t (sY (tb t) i j) = some y → R y = true) ∧ ∀ m, comY tb xs t (sY (tb t) i j) = some m → n m = true
def QI (T : Nat) (tb : Nat → Nat → Nat) (dr : Nat → Bool) (xs : px_NL) (t i : Nat) (R n : Nat → Bool) : Prop := isS (tb t) i = true → R (24 * t + oI (tb t) i) = true → ∀ j, 0 ≤ j → j < 0 + sN (tb t) i → QJ T tb dr xs t i j R n
theorem QJ_m {t i j : Nat} {R n n' : Nat → Bool} (h : ∀ x, n x = true → n' x = true) (hq : QJ T tb dr xs t i j R n) : QJ T tb dr xs t i j R n' := fun hh => ⟨(hq hh).1, fun m hm => h m ((hq hh).2 m hm)⟩
theorem QI_m {t i : Nat} {R n n' : Nat → Bool} (h : ∀ x, n x = true → n' x = true) (hq : QI T tb dr xs t i R n) : QI T tb dr xs t i R n' := fun a b j c d => QJ_m h (hq a b j c d)
theorem GD_J {t i j : Nat} (hT : T ≤ 64) (hS : ∀ t, t < T → oS (tb t) ≤ 24) (hby : AL (byP T tb dr) xs) (ht : t < T) : GD (rsJ tb dr xs t i j) (QJ T tb dr xs t i j) := by
  by_cases c : sH (tb t) i j = 0
  · have e : rsJ tb dr xs t i j = fun s => s := by funext s; unfold rsJ; rw [if_pos c]
    rw [e]
    exact GD_id (fun R n hh => absurd c hh)
  · have e : rsJ tb dr xs t i j = fun s => rs1 (secY tb dr xs t (sY (tb t) i j)) (rn1 (comY tb xs t (sY (tb t) i j)) s) := by funext s; unfold rsJ; rw [if_neg c]
    rw [e]
    have g := GD_1 (x := secY tb dr xs t (sY (tb t) i j)) (z := comY tb xs t (sY (tb t) i j)) (fun y hy => secY_lt hT hS hby ht hy)
    intro s
    obtain ⟨a1, a2, a3, a4⟩ := g s
    exact ⟨a1, a2, fun hf => ⟨(a3 hf).1, (a3 hf).2.1, fun _ => (a3 hf).2.2⟩, a4⟩
theorem GD_I {t i : Nat} (hT : T ≤ 64) (hS : ∀ t, t < T → oS (tb t) ≤ 24) (hby : AL (byP T tb dr) xs) (ht : t < T) : GD (rsI tb dr xs t i) (QI T tb dr xs t i) := by
  have g := GD_itr (g := rsJ tb dr xs t i) (Q := QJ T tb dr xs t i) (a := 0) (e := 0 + sN (tb t) i) (fun j _ _ => GD_J hT hS hby ht) (fun j R n n' hh hq => QJ_m hh hq) (sN (tb t) i) 0 (Nat.le_refl _) (Nat.le_refl _)
  unfold rsI QI
  generalize itr (rsJ tb dr xs t i) 0 (sN (tb t) i) = G at *
  generalize 24 * t + oI (tb t) i = X at *
  generalize isS (tb t) i = I at *
  generalize QJ T tb dr xs t i = Q at *
  generalize sN (tb t) i = N at *
  exact GD_if g
def QT (T : Nat) (tb : Nat → Nat → Nat) (dr : Nat → Bool) (xs : px_NL) (t : Nat) (R n : Nat → Bool) : Prop := ∀ i, 1 ≤ i → i < 1 + (oS (tb t) - 1) → QI T tb dr xs t i R n
theorem GD_T {t : Nat} (hT : T ≤ 64) (hS : ∀ t, t < T → oS (tb t) ≤ 24) (hby : AL (byP T tb dr) xs) (ht : t < T) : GD (rsT tb dr xs t) (QT T tb dr xs t) :=
  GD_itr (g := rsI tb dr xs t) (Q := QI T tb dr xs t) (a := 1) (e := 1 + (oS (tb t) - 1)) (fun i _ _ => GD_I hT hS hby ht) (fun j R n n' hh hq => QI_m hh hq) (oS (tb t) - 1) 1 (Nat.le_refl _) (Nat.le_refl _)
theorem GD_R (hT : T ≤ 64) (hS : ∀ t, t < T → oS (tb t) ≤ 24) (hby : AL (byP T tb dr) xs) : GD (itr (rsT tb dr xs) 0 T) (fun R n => ∀ t, 0 ≤ t → t < 0 + T → QT T tb dr xs t R n) :=
  GD_itr (g := rsT tb dr xs) (Q := QT T tb dr xs) (a := 0) (e := T) (fun t _ ht => GD_T hT hS hby ht) (fun t R n n' hh hq i h1 h2 => QI_m hh (hq i h1 h2)) T 0 (Nat.le_refl _) (by omega)
theorem SD_1 {x z : Option Nat} {s : px_RR} (h : SD T tb dr xs st cn s) (hx : ∀ y, x = some y → Rch T tb dr xs st y) (hz : ∀ m, z = some m → RcN T tb dr xs st cn m) : SD T tb dr xs st cn (rs1 x (rn1 z s)) := by
  have h1 : SD T tb dr xs st cn (rn1 z s) := by
    cases z with
    | none => exact h
    | some m =>
      refine ⟨h.1, fun n hn => ?_⟩
      have hn : bup s.2.1 m n = true := hn
      unfold bup at hn
      by_cases c : n = m
      · rw [c]; exact hz m rfl
      · rw [if_neg c] at hn; exact h.2 n hn
  generalize rn1 z s = r at *
  cases x with
  | none => exact h1
  | some y =>
    show SD T tb dr xs st cn (if r.1 y = true then r else (bup r.1 y, r.2.1, true))
    split
    · exact h1
    · refine ⟨fun x hx2 => ?_, h1.2⟩
      have hx2 : bup r.1 y x = true := hx2
      unfold bup at hx2
      by_cases c : x = y
      · rw [c]; exact hx y rfl
      · rw [if_neg c] at hx2; exact h1.1 x hx2
theorem SD_I {t i : Nat} {s : px_RR} (ht : t < T) (h1 : 1 ≤ i) (hi : i < oS (tb t)) (h : SD T tb dr xs st cn s) : SD T tb dr xs st cn (rsI tb dr xs t i s) := by
  unfold rsI
  by_cases c : isS (tb t) i = true ∧ s.1 (24 * t + oI (tb t) i) = true
  · rw [if_pos c]
    have hr := h.1 _ c.2
    refine itr_inv (g := rsJ tb dr xs t i) (P := SD T tb dr xs st cn) (a := 0) (e := sN (tb t) i) (fun j s _ hj hs => ?_) (sN (tb t) i) 0 s (Nat.le_refl _) (by omega) h
    unfold rsJ
    by_cases c2 : sH (tb t) i j = 0
    · rw [if_pos c2]; exact hs
    · rw [if_neg c2]
      exact SD_1 hs (fun y hy P p1 p2 => p2 t i j ht h1 hi c.1 hj c2 (hr P p1 p2) y hy) (fun m hm => Or.inr ⟨t, i, j, ht, ⟨h1, hi⟩, c.1, hj, c2, hr, hm⟩)
  · rw [if_neg c]; exact h
theorem SD_R {s : px_RR} (hS : ∀ t, t < T → 1 ≤ oS (tb t)) (h : SD T tb dr xs st cn s) : SD T tb dr xs st cn (itr (rsT tb dr xs) 0 T s) :=
  itr_inv (g := rsT tb dr xs) (P := SD T tb dr xs st cn) (a := 0) (e := T) (fun t s _ ht hs => itr_inv (g := rsI tb dr xs t) (P := SD T tb dr xs st cn) (a := 1) (e := oS (tb t)) (fun i s h1 h2 hs => SD_I ht h1 h2 hs) (oS (tb t) - 1) 1 s (Nat.le_refl _) (by have := hS t ht; omega) hs) T 0 s (Nat.le_refl _) (by omega) h
theorem Rch_of {R n : Nat → Bool} (hS : ∀ t, t < T → 1 ≤ oS (tb t)) (hst : ∀ y, st = some y → R y = true) (hcn : ∀ y, cn = some y → n y = true) (hq : ∀ t, 0 ≤ t → t < 0 + T → QT T tb dr xs t R n) : (∀ x, Rch T tb dr xs st x → R x = true) ∧ ∀ m, RcN T tb dr xs st cn m → n m = true := by
  have h1 : ∀ x, Rch T tb dr xs st x → R x = true := fun x hx => hx (fun y => R y = true) hst (fun t i j ht h1 hi hs hj hh hR y hy => (hq t (Nat.zero_le _) (by omega) i h1 (by have := hS t ht; omega) hs hR j (Nat.zero_le _) (by omega) hh).1 y hy)
  refine ⟨h1, fun m hm => ?_⟩
  rcases hm with e | ⟨t, i, j, ht, ⟨a1, a2⟩, hs, hj, hh, hr, hc⟩
  · exact hcn m e
  · exact (hq t (Nat.zero_le _) (by omega) i a1 (by have := hS t ht; omega) hs (h1 _ hr) j (Nat.zero_le _) (by omega) hh).2 m hc
end MRC
theorem cnt_mono {p q : Nat → Bool} (h : ∀ x, p x = true → q x = true) : ∀ (c k : Nat), cnt p k c ≤ cnt q k c := by
  intro c
  induction c with
  | zero => intro k; exact Nat.le_refl _
  | succ c ih =>
    intro k
    rw [cnt_s, cnt_s]
    have := ih (k + 1)
    by_cases c1 : p k = true
    · rw [if_pos c1, if_pos (h k c1)]; omega
    · rw [if_neg c1]; split <;> omega
theorem cnt_lt {p q : Nat → Bool} (h : ∀ x, p x = true → q x = true) {y : Nat} (hp : p y = false) (hq : q y = true) : ∀ (c k : Nat), k ≤ y → y < k + c → cnt p k c + 1 ≤ cnt q k c := by
  intro c
  induction c with
  | zero => intro k h1 h2; omega
  | succ c ih =>
    intro k h1 h2
    rw [cnt_s, cnt_s]
    by_cases e : y = k
    · have := cnt_mono h c (k + 1)
      rw [← e] at this ⊢
      rw [hp, hq, if_neg (by decide), if_pos rfl]
      omega
    · have := ih (k + 1) (by omega) (by omega)
      by_cases c1 : p k = true
      · rw [if_pos c1, if_pos (h k c1)]; omega
      · rw [if_neg c1]; split <;> omega
