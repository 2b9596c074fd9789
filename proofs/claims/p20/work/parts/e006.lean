section
/-! what is reached, as the least set; reach of the reference -/
def clo (T : Nat) (tb : Nat → Nat → Nat) (dr : Nat → Bool) (xs : px_NL) (P : Nat → Prop) : Prop := ∀ t i j, t < T → 1 ≤ i → i < oS (tb t) → isS (tb t) i = true → j < sN (tb t) i → sH (tb t) i j ≠ 0 → P (24 * t + oI (tb t) i) → ∀ x, secY tb dr xs t (sY (tb t) i j) = some x → P x
def Rch (T : Nat) (tb : Nat → Nat → Nat) (dr : Nat → Bool) (xs : px_NL) (st : Option Nat) (x : Nat) : Prop := ∀ P : Nat → Prop, (∀ y, st = some y → P y) → clo T tb dr xs P → P x
def RcN (T : Nat) (tb : Nat → Nat → Nat) (dr : Nat → Bool) (xs : px_NL) (st cn : Option Nat) (n : Nat) : Prop := cn = some n ∨ ∃ t i j, t < T ∧ (1 ≤ i ∧ i < oS (tb t)) ∧ isS (tb t) i = true ∧ j < sN (tb t) i ∧ sH (tb t) i j ≠ 0 ∧ Rch T tb dr xs st (24 * t + oI (tb t) i) ∧ comY tb xs t (sY (tb t) i j) = some n
def SD (T : Nat) (tb : Nat → Nat → Nat) (dr : Nat → Bool) (xs : px_NL) (st cn : Option Nat) (s : px_RR) : Prop := (∀ x, s.1 x = true → Rch T tb dr xs st x) ∧ ∀ n, s.2.1 n = true → RcN T tb dr xs st cn n
def GD (g : px_RR → px_RR) (Q : (Nat → Bool) → (Nat → Bool) → Prop) : Prop := ∀ s, (∀ n, s.2.1 n = true → (g s).2.1 n = true) ∧ (∀ x, s.1 x = true → (g s).1 x = true) ∧ ((g s).2.2 = false → s.2.2 = false ∧ (g s).1 = s.1 ∧ Q s.1 (g s).2.1) ∧ (s.2.2 = false → (g s).2.2 = true → ∃ y, y < 1536 ∧ s.1 y = false ∧ (g s).1 y = true)
theorem GD_itr {g : Nat → px_RR → px_RR} {Q : Nat → (Nat → Bool) → (Nat → Bool) → Prop} {a e : Nat} (hg : ∀ i, a ≤ i → i < e → GD (g i) (Q i)) (hQ : ∀ i R n n', (∀ x, n x = true → n' x = true) → Q i R n → Q i R n') : ∀ (c k : Nat), a ≤ k → k + c ≤ e → GD (itr g k c) (fun R n => ∀ i, k ≤ i → i < k + c → Q i R n) := by
  intro c
  induction c with
  | zero =>
    intro k h1 h2 s
    rw [itr_0]
    exact ⟨fun _ h => h, fun _ h => h, fun h => ⟨h, rfl, fun i h3 h4 => by omega⟩, fun h h' => by rw [h] at h'; cases h'⟩
  | succ c ih =>
    intro k h1 h2 s
    rw [itr_s]
    obtain ⟨a1, a2, a3, a4⟩ := hg k h1 (by omega) s
    obtain ⟨b1, b2, b3, b4⟩ := ih (k + 1) (by omega) (by omega) (g k s)
    refine ⟨fun n hn => b1 n (a1 n hn), fun x hx => b2 x (a2 x hx), fun hf => ?_, fun hf ht => ?_⟩
    · obtain ⟨c1, c2, c3⟩ := b3 hf
      obtain ⟨d1, d2, d3⟩ := a3 c1
      refine ⟨d1, c2.trans d2, fun i h3 h4 => ?_⟩
      by_cases e : i = k
      · rw [e]
        exact hQ k _ _ _ b1 d3
      · have := c3 i (by omega) (by omega)
        rw [d2] at this
        exact this
    · cases e : (g k s).2.2 with
      | true =>
        obtain ⟨y, y1, y2, y3⟩ := a4 hf e
        exact ⟨y, y1, y2, b2 y y3⟩
      | false =>
        obtain ⟨y, y1, y2, y3⟩ := b4 e ht
        rw [(a3 e).2.1] at y2
        exact ⟨y, y1, y2, y3⟩
theorem GD_id {Q : (Nat → Bool) → (Nat → Bool) → Prop} (h : ∀ R n, Q R n) : GD (fun s => s) Q := fun s => ⟨fun _ h => h, fun _ h => h, fun hf => ⟨hf, rfl, h _ _⟩, fun hf ht => by rw [hf] at ht; cases ht⟩
theorem GD_1 {x z : Option Nat} (hx : ∀ y, x = some y → y < 1536) : GD (fun s => rs1 x (rn1 z s)) (fun R n => (∀ y, x = some y → R y = true) ∧ ∀ m, z = some m → n m = true) := by
  intro s
  have hz : (rn1 z s).1 = s.1 ∧ (rn1 z s).2.2 = s.2.2 ∧ (∀ n, s.2.1 n = true → (rn1 z s).2.1 n = true) ∧ ∀ m, z = some m → (rn1 z s).2.1 m = true := by
    cases z with
    | none => exact ⟨rfl, rfl, fun _ h => h, fun m hm => nomatch hm⟩
    | some m => exact ⟨rfl, rfl, fun n hn => bup_m hn, fun m' hm => by rw [← Option.some.inj hm]; exact bup_e⟩
  obtain ⟨z1, z2, z3, z4⟩ := hz
  show (∀ n, s.2.1 n = true → (rs1 x (rn1 z s)).2.1 n = true) ∧ (∀ y, s.1 y = true → (rs1 x (rn1 z s)).1 y = true) ∧ ((rs1 x (rn1 z s)).2.2 = false → s.2.2 = false ∧ (rs1 x (rn1 z s)).1 = s.1 ∧ ((∀ y, x = some y → s.1 y = true) ∧ ∀ m, z = some m → (rs1 x (rn1 z s)).2.1 m = true)) ∧ (s.2.2 = false → (rs1 x (rn1 z s)).2.2 = true → ∃ y, y < 1536 ∧ s.1 y = false ∧ (rs1 x (rn1 z s)).1 y = true)
  generalize rn1 z s = r at *
  rw [← z1, ← z2]
  cases x with
  | none => exact ⟨z3, fun _ h => h, fun hf => ⟨hf, rfl, fun y hy => (nomatch hy), z4⟩, fun hf ht => by rw [show (rs1 none r).2.2 = r.2.2 from rfl, hf] at ht; cases ht⟩
  | some y =>
    by_cases c : r.1 y = true
    · have e : rs1 (some y) r = r := by show (if r.1 y = true then r else _) = r; rw [if_pos c]
      rw [e]
      exact ⟨z3, fun _ h => h, fun hf => ⟨hf, rfl, fun y' hy => by rw [← Option.some.inj hy]; exact c, z4⟩, fun hf ht => by rw [hf] at ht; cases ht⟩
    · have e : rs1 (some y) r = (bup r.1 y, r.2.1, true) := by show (if r.1 y = true then r else _) = _; rw [if_neg c]
      rw [e]
      exact ⟨z3, fun x hx => bup_m hx, fun hf => (nomatch hf), fun _ _ => ⟨y, hx y rfl, Bool.eq_false_iff.mpr c, bup_e⟩⟩
theorem GD_if {G : px_RR → px_RR} {I : Bool} {X N : Nat} {Q : Nat → (Nat → Bool) → (Nat → Bool) → Prop} (h : GD G (fun R n => ∀ i, 0 ≤ i → i < 0 + N → Q i R n)) : GD (fun s => if I = true ∧ s.1 X = true then G s else s) (fun R n => I = true → R X = true → ∀ j, 0 ≤ j → j < 0 + N → Q j R n) := by
  intro s
  obtain ⟨a1, a2, a3, a4⟩ := h s
  dsimp only
  by_cases c : I = true ∧ s.1 X = true
  · rw [if_pos c]
    exact ⟨a1, a2, fun hf => ⟨(a3 hf).1, (a3 hf).2.1, fun _ _ => (a3 hf).2.2⟩, a4⟩
  · rw [if_neg c]
    exact ⟨fun _ h => h, fun _ h => h, fun hf => ⟨hf, rfl, fun h1 h2 => absurd ⟨h1, h2⟩ c⟩, fun hf ht => by rw [hf] at ht; cases ht⟩
section MRC
variable {T : Nat} {tb : Nat → Nat → Nat} {dr : Nat → Bool} {xs : px_NL} {st cn : Option Nat}
theorem secT_lt {t w y : Nat} (ht : t < 64) (hS : oS (tb t) ≤ 24) (h : secT tb dr t w = some y) : y < 1536 := by
  unfold secT at h
  split at h
  · rename_i c
    have := Option.some.inj h
    omega
  · cases h
theorem secY_lt {t k y : Nat} (hT : T ≤ 64) (hS : ∀ t, t < T → oS (tb t) ≤ 24) (hby : AL (byP T tb dr) xs) (ht : t < T) (h : secY tb dr xs t k = some y) : y < 1536 := by
  unfold secY at h
  split at h
  · cases h
  · split at h
    · exact secT_lt (by omega) (hS t ht) h
    · split at h
      · cases h
      · rename_i x hx
        have hb := hby _ x hx
        unfold secN at h
        unfold byP at hb
        split at h
        · cases h
        · rename_i q hq
          rw [hq] at hb
          split at h
          · exact secT_lt (by have := hb.1; omega) (hS q.1 hb.1) h
          · cases h
def QJ (T : Nat) (tb : Nat → Nat → Nat) (dr : Nat → Bool) (xs : px_NL) (t i j : Nat) (R n : Nat → Bool) : Prop := sH (tb t) i j ≠ 0 → (∀ y, secY tb dr xs t (sY (tb t) i j) = some y → R y = true) ∧ ∀ m, comY tb xs t (sY (tb t) i j) = some m → n m = true
def QI (T : Nat) (tb : Nat → Nat → Nat) (dr : Nat → Bool) (xs : px_NL) (t i : Nat) (R n : Nat → Bool) : Prop := isS (tb t) i = true → R (24 * t + oI (tb t) i) = true → ∀ j, 0 ≤ j → j < 0 + sN (tb t) i → QJ T tb dr xs t i j R n
theorem QJ_m {t i j : Nat} {R n n' : Nat → Bool} (h : ∀ x, n x = true → n' x = true) (hq : QJ T tb dr xs t i j R n) : QJ T tb dr xs t i j R n' := fun hh => ⟨(hq hh).1, fun m hm => h m ((hq hh).2 m hm)⟩
theorem QI_m {t i : Nat} {R n n' : Nat → Bool} (h : ∀ x, n x = true → n' x = true) (hq : QI T tb dr xs t i R n) : QI T tb dr xs t i R n' := fun a b j c d => QJ_m h (hq a b j c d)
theorem GD_J {t i j : Nat} (hT : T ≤ 64) (hS : ∀ t, t < T → oS (tb t) ≤ 24) (hby : AL (byP T tb dr) xs) (ht : t < T) : GD (rsJ tb dr xs t i j) (QJ T tb dr xs t i j) := by
  by_cases c : sH (tb t) i j = 0
  · have e : rsJ tb dr xs t i j = fun s => s := by funext s; unfold rsJ; rw [if_pos c]
    rw [e]
    exact GD_id (fun R n hh => absurd c hh)
  · have e : rsJ tb dr xs t i j = fun s => rs1 (secY tb dr xs t (sY (tb t) i j)) (rn1 (comY tb xs t (sY (tb t) i j)) s) := by funext s; unfold rsJ; rw [if_neg c]
    rw [e]
    have g := GD_1 (x := secY tb dr xs t (sY (tb t) i j)) (z := comY tb xs t (sY (tb t) i j)) (fun y hy => secY_lt hT hS hby ht hy)
    intro s
    obtain ⟨a1, a2, a3, a4⟩ := g s
    exact ⟨a1, a2, fun hf => ⟨(a3 hf).1, (a3 hf).2.1, fun _ => (a3 hf).2.2⟩, a4⟩
theorem GD_I {t i : Nat} (hT : T ≤ 64) (hS : ∀ t, t < T → oS (tb t) ≤ 24) (hby : AL (byP T tb dr) xs) (ht : t < T) : GD (rsI tb dr xs t i) (QI T tb dr xs t i) := by
  have g := GD_itr (g := rsJ tb dr xs t i) (Q := QJ T tb dr xs t i) (a := 0) (e := 0 + sN (tb t) i) (fun j _ _ => GD_J hT hS hby ht) (fun j R n n' hh hq => QJ_m hh hq) (sN (tb t) i) 0 (Nat.le_refl _) (Nat.le_refl _)
  unfold rsI QI
  generalize itr (rsJ tb dr xs t i) 0 (sN (tb t) i) = G at *
  generalize 24 * t + oI (tb t) i = X at *
  generalize isS (tb t) i = I at *
  generalize QJ T tb dr xs t i = Q at *
  generalize sN (tb t) i = N at *
  exact GD_if g
def QT (T : Nat) (tb : Nat → Nat → Nat) (dr : Nat → Bool) (xs : px_NL) (t : Nat) (R n : Nat → Bool) : Prop := ∀ i, 1 ≤ i → i < 1 + (oS (tb t) - 1) → QI T tb dr xs t i R n
theorem GD_T {t : Nat} (hT : T ≤ 64) (hS : ∀ t, t < T → oS (tb t) ≤ 24) (hby : AL (byP T tb dr) xs) (ht : t < T) : GD (rsT tb dr xs t) (QT T tb dr xs t) :=
  GD_itr (g := rsI tb dr xs t) (Q := QI T tb dr xs t) (a := 1) (e := 1 + (oS (tb t) - 1)) (fun i _ _ => GD_I hT hS hby ht) (fun j R n n' hh hq => QI_m hh hq) (oS (tb t) - 1) 1 (Nat.le_refl _) (Nat.le_refl _)
theorem GD_R (hT : T ≤ 64) (hS : ∀ t, t < T → oS (tb t) ≤ 24) (hby : AL (byP T tb dr) xs) : GD (itr (rsT tb dr xs) 0 T) (fun R n => ∀ t, 0 ≤ t → t < 0 + T → QT T tb dr xs t R n) :=
  GD_itr (g := rsT tb dr xs) (Q := QT T tb dr xs) (a := 0) (e := T) (fun t _ ht => GD_T hT hS hby ht) (fun t R n n' hh hq i h1 h2 => QI_m hh (hq i h1 h2)) T 0 (Nat.le_refl _) (by omega)
theorem SD_1 {x z : Option Nat} {s : px_RR} (h : SD T tb dr xs st cn s) (hx : ∀ y, x = some y → Rch T tb dr xs st y) (hz : ∀ m, z = some m → RcN T tb dr xs st cn m) : SD T tb dr xs st cn (rs1 x (rn1 z s)) := by
  have h1 : SD T tb dr xs st cn (rn1 z s) := by
    cases z with
    | none => exact h
    | some m =>
      refine ⟨h.1, fun n hn => ?_⟩
      have hn : bup s.2.1 m n = true := hn
      unfold bup at hn
      by_cases c : n = m
      · rw [c]; exact hz m rfl
      · rw [if_neg c] at hn; exact h.2 n hn
  generalize rn1 z s = r at *
  cases x with
  | none => exact h1
  | some y =>
    show SD T tb dr xs st cn (if r.1 y = true then r else (bup r.1 y, r.2.1, true))
    split
    · exact h1
    · refine ⟨fun x hx2 => ?_, h1.2⟩
      have hx2 : bup r.1 y x = true := hx2
      unfold bup at hx2
      by_cases c : x = y
      · rw [c]; exact hx y rfl
      · rw [if_neg c] at hx2; exact h1.1 x hx2
theorem SD_I {t i : Nat} {s : px_RR} (ht : t < T) (h1 : 1 ≤ i) (hi : i < oS (tb t)) (h : SD T tb dr xs st cn s) : SD T tb dr xs st cn (rsI tb dr xs t i s) := by
  unfold rsI
  by_cases c : isS (tb t) i = true ∧ s.1 (24 * t + oI (tb t) i) = true
  · rw [if_pos c]
    have hr := h.1 _ c.2
    refine itr_inv (g := rsJ tb dr xs t i) (P := SD T tb dr xs st cn) (a := 0) (e := sN (tb t) i) (fun j s _ hj hs => ?_) (sN (tb t) i) 0 s (Nat.le_refl _) (by omega) h
    unfold rsJ
    by_cases c2 : sH (tb t) i j = 0
    · rw [if_pos c2]; exact hs
    · rw [if_neg c2]
      exact SD_1 hs (fun y hy P p1 p2 => p2 t i j ht h1 hi c.1 hj c2 (hr P p1 p2) y hy) (fun m hm => Or.inr ⟨t, i, j, ht, ⟨h1, hi⟩, c.1, hj, c2, hr, hm⟩)
  · rw [if_neg c]; exact h
theorem SD_R {s : px_RR} (hS : ∀ t, t < T → 1 ≤ oS (tb t)) (h : SD T tb dr xs st cn s) : SD T tb dr xs st cn (itr (rsT tb dr xs) 0 T s) :=
  itr_inv (g := rsT tb dr xs) (P := SD T tb dr xs st cn) (a := 0) (e := T) (fun t s _ ht hs => itr_inv (g := rsI tb dr xs t) (P := SD T tb dr xs st cn) (a := 1) (e := oS (tb t)) (fun i s h1 h2 hs => SD_I ht h1 h2 hs) (oS (tb t) - 1) 1 s (Nat.le_refl _) (by have := hS t ht; omega) hs) T 0 s (Nat.le_refl _) (by omega) h
theorem Rch_of {R n : Nat → Bool} (hS : ∀ t, t < T → 1 ≤ oS (tb t)) (hst : ∀ y, st = some y → R y = true) (hcn : ∀ y, cn = some y → n y = true) (hq : ∀ t, 0 ≤ t → t < 0 + T → QT T tb dr xs t R n) : (∀ x, Rch T tb dr xs st x → R x = true) ∧ ∀ m, RcN T tb dr xs st cn m → n m = true := by
  have h1 : ∀ x, Rch T tb dr xs st x → R x = true := fun x hx => hx (fun y => R y = true) hst (fun t i j ht h1 hi hs hj hh hR y hy => (hq t (Nat.zero_le _) (by omega) i h1 (by have := hS t ht; omega) hs hR j (Nat.zero_le _) (by omega) hh).1 y hy)
  refine ⟨h1, fun m hm => ?_⟩
  rcases hm with e | ⟨t, i, j, ht, ⟨a1, a2⟩, hs, hj, hh, hr, hc⟩
  · exact hcn m e
  · exact (hq t (Nat.zero_le _) (by omega) i a1 (by have := hS t ht; omega) hs (h1 _ hr) j (Nat.zero_le _) (by omega) hh).2 m hc
end MRC
theorem cnt_mono {p q : Nat → Bool} (h : ∀ x, p x = true → q x = true) : ∀ (c k : Nat), cnt p k c ≤ cnt q k c := by
  intro c
  induction c with
  | zero => intro k; exact Nat.le_refl _
  | succ c ih =>
    intro k
    rw [cnt_s, cnt_s]
    have := ih (k + 1)
    by_cases c1 : p k = true
    · rw [if_pos c1, if_pos (h k c1)]; omega
    · rw [if_neg c1]; split <;> omega
theorem cnt_lt {p q : Nat → Bool} (h : ∀ x, p x = true → q x = true) {y : Nat} (hp : p y = false) (hq : q y = true) : ∀ (c k : Nat), k ≤ y → y < k + c → cnt p k c + 1 ≤ cnt q k c := by
  intro c
  induction c with
  | zero => intro k h1 h2; omega
  | succ c ih =>
    intro k h1 h2
    rw [cnt_s, cnt_s]
    by_cases e : y = k
    · have := cnt_mono h c (k + 1)
      rw [← e] at this ⊢
      rw [hp, hq, if_neg (by decide), if_pos rfl]
      omega
    · have := ih (k + 1) (by omega) (by omega)
      by_cases c1 : p k = true
      · rw [if_pos c1, if_pos (h k c1)]; omega
      · rw [if_neg c1]; split <;> omega
end
section
/-! reach of the reference -/
section MRD
variable {F m T N : Nat} {h : px_H} {dr : Nat → Bool} {tb : Nat → Nat → Nat} {tO tn : Nat → Nat} {xs : px_NL} {k60 : Nat → px_H → Option (Unit × px_H)} {st cn : Option Nat}
theorem q_rc_74 (hm : m ≤ h.length) (hF : 65536 < F) (hW : WP T tb dr xs) : ∀ (c t g : Nat) (σ : px_S) (s : px_RR), t + c = T → c < g → RWd σ T tO tn tb dr xs → gI σ 14 = nI T → RR N σ s → ∃ σ', f_M_reach_74 F k60 g m (nI t) (mh m h σ) = k60 m (mh m h σ') ∧ RR N σ' (itr (rsT tb dr xs) t c s) ∧ FR [98] [] [66, 67] [] σ σ' := by
  have hT := hW.1
  intro c
  induction c with
  | zero =>
    intro t g σ s ht hg hR h14 hS
    obtain ⟨g, rfl⟩ : ∃ x, g = x + 1 := ⟨g - 1, by omega⟩
    unfold f_M_reach_74 f_M_reach_93
    rw [Mg14 hm, bs, h14, if_pos (nI_le (by omega) (by omega))]
    exact ⟨σ, rfl, hS, FR_refl σ⟩
  | succ c ih =>
    intro t g σ s ht hg hR h14 hS
    obtain ⟨g, rfl⟩ : ∃ x, g = x + 1 := ⟨g - 1, by omega⟩
    obtain ⟨σ1, a1, a2, a3⟩ := q_reachSites (F := F) (t := t) hm hF hW (by omega) hR hS
    unfold f_M_reach_74 f_M_reach_93
    rw [Mg14 hm, bs, h14, if_neg (nI_ge (by omega) (by omega)), e_o hm, bs, a1, xb_mk, nI_add, itr_s]
    obtain ⟨σ2, b1, b2, b3⟩ := ih (t + 1) g σ1 _ (by omega) (by omega) (RWd_FR hR a3 (by decide) (by decide) (by decide)) ((a3.1 14 (by decide)).trans h14) a2
    exact ⟨σ2, b1, b2, FR_trans a3 b3⟩
/-- what is reached, told by the reference's rows -/
def RRf (N T : Nat) (tb : Nat → Nat → Nat) (dr : Nat → Bool) (xs : px_NL) (st cn : Option Nat) (σ : px_S) : Prop := ∃ R n : Nat → Bool, (∀ i, i < 1536 → gA σ 66 i = bI (R i)) ∧ (∀ i, i < N → gA σ 67 i = bI (n i)) ∧ (∀ x, R x = true ↔ Rch T tb dr xs st x) ∧ (∀ i, n i = true ↔ RcN T tb dr xs st cn i) ∧ ∃ ch, gI σ 98 = bI ch
theorem q_rc_60 (hm : m ≤ h.length) (hF : 65536 < F) (hW : WP T tb dr xs) : ∀ (d g : Nat) (σ : px_S) (s : px_RR), 1536 - cnt s.1 0 1536 ≤ d → d + 1 < g → RWd σ T tO tn tb dr xs → gI σ 14 = nI T → RR N σ s → s.2.2 = true → SD T tb dr xs st cn s → (∀ y, st = some y → s.1 y = true) → (∀ y, cn = some y → s.2.1 y = true) → ∃ σ', f_M_reach_60 F g m (mh m h σ) = some ((), mh m h σ') ∧ RRf N T tb dr xs st cn σ' ∧ gI σ' 68 = nI 1 ∧ FR [68, 98] [] [66, 67] [] σ σ' := by
  have hT := hW.1
  intro d
  induction d with
  | zero =>
    intro g σ s hd hg hR h14 hS hch hsd hst hcn
    obtain ⟨g, rfl⟩ : ∃ x, g = x + 2 := ⟨g - 2, by omega⟩
    have hSS : ∀ t, t < T → 1 ≤ oS (tb t) ∧ oS (tb t) ≤ 24 := fun t ht => (OB_w (hR.1 t ht)).1.2.1
    unfold f_M_reach_60
    rw [Mg98 hm, bs, hS.2.2, hch, if_neg (show ¬ bI true = 0 by decide), show nI 0 = bI false from rfl, Mz98 hm, bs]
    have f1 := FR_I σ 98 (bI false)
    have hR1 := RWd_FR hR f1 (by decide) (by decide) (by decide)
    have hS1 : RR N (sI σ 98 (bI false)) (s.1, s.2.1, false) := ⟨hS.1, hS.2.1, by rw [gI_sI, if_pos rfl]⟩
    obtain ⟨σ1, a1, a2, a3⟩ := q_rc_74 (F := F) (k60 := f_M_reach_60 F (g + 1)) hm hF hW T 0 F _ _ (by omega) (by omega) hR1 ((f1.1 14 (by decide)).trans h14) hS1
    rw [show bI false = nI 0 from rfl] at *
    rw [a1]
    obtain ⟨g1, g2, g3, g4⟩ := GD_R (xs := xs) hT (fun t ht => (hSS t ht).2) hW.2.2.1 (s.1, s.2.1, false)
    have hsd1 := SD_R (st := st) (cn := cn) (fun t ht => (hSS t ht).1) (show SD T tb dr xs st cn (s.1, s.2.1, false) from hsd)
    generalize itr (rsT tb dr xs) 0 T (s.1, s.2.1, false) = r at *
    have fr : FR [68, 98] [] [66, 67] [] σ σ1 := FR_trans (FR_mono f1 (by decide) (by decide) (by decide) (by decide)) (FR_mono a3 (by decide) (by decide) (by decide) (by decide))
    cases er : r.2.2 with
    | true =>
      obtain ⟨y, y1, y2, y3⟩ := g4 rfl er
      have c1 := cnt_lt g2 y2 y3 1536 0 (Nat.zero_le _) (by omega)
      have c2 := cnt_le (p := r.1) (c := 1536) (i := 0)
      have c1 : cnt s.1 0 1536 + 1 ≤ cnt r.1 0 1536 := c1
      omega
    | false =>
      obtain ⟨_, q2, q3⟩ := g3 er
      have q2 : r.1 = s.1 := q2
      have q3 : ∀ t, 0 ≤ t → t < 0 + T → QT T tb dr xs t s.1 r.2.1 := q3
      obtain ⟨z1, z2⟩ := Rch_of (st := st) (cn := cn) (fun t ht => (hSS t ht).1) hst (fun y hy => g1 y (hcn y hy)) q3
      unfold f_M_reach_60 f_M_reach_96
      rw [Mg98 hm, bs, a2.2.2, er, if_pos (show bI false = 0 from rfl), show nI 1 = bI true from rfl, Mz68 hm, bs]
      refine ⟨_, rfl, ⟨r.1, r.2.1, fun i hi => a2.1 i hi, fun i hi => a2.2.1 i hi, fun x => ⟨hsd1.1 x, fun hx => by rw [q2]; exact z1 x hx⟩, fun i => ⟨hsd1.2 i, z2 i⟩, ⟨r.2.2, a2.2.2⟩⟩, by rw [gI_sI, if_pos rfl], FR_trans fr (FR_mono (FR_I σ1 68 _) (by decide) (by decide) (by decide) (by decide))⟩
  | succ d ih =>
    intro g σ s hd hg hR h14 hS hch hsd hst hcn
    obtain ⟨g, rfl⟩ : ∃ x, g = x + 2 := ⟨g - 2, by omega⟩
    have hSS : ∀ t, t < T → 1 ≤ oS (tb t) ∧ oS (tb t) ≤ 24 := fun t ht => (OB_w (hR.1 t ht)).1.2.1
    unfold f_M_reach_60
    rw [Mg98 hm, bs, hS.2.2, hch, if_neg (show ¬ bI true = 0 by decide), show nI 0 = bI false from rfl, Mz98 hm, bs]
    have f1 := FR_I σ 98 (bI false)
    have hR1 := RWd_FR hR f1 (by decide) (by decide) (by decide)
    have hS1 : RR N (sI σ 98 (bI false)) (s.1, s.2.1, false) := ⟨hS.1, hS.2.1, by rw [gI_sI, if_pos rfl]⟩
    obtain ⟨σ1, a1, a2, a3⟩ := q_rc_74 (F := F) (k60 := f_M_reach_60 F (g + 1)) hm hF hW T 0 F _ _ (by omega) (by omega) hR1 ((f1.1 14 (by decide)).trans h14) hS1
    rw [show bI false = nI 0 from rfl] at *
    rw [a1]
    obtain ⟨g1, g2, g3, g4⟩ := GD_R (xs := xs) hT (fun t ht => (hSS t ht).2) hW.2.2.1 (s.1, s.2.1, false)
    have hsd1 := SD_R (st := st) (cn := cn) (fun t ht => (hSS t ht).1) (show SD T tb dr xs st cn (s.1, s.2.1, false) from hsd)
    generalize itr (rsT tb dr xs) 0 T (s.1, s.2.1, false) = r at *
    have fr : FR [68, 98] [] [66, 67] [] σ σ1 := FR_trans (FR_mono f1 (by decide) (by decide) (by decide) (by decide)) (FR_mono a3 (by decide) (by decide) (by decide) (by decide))
    cases er : r.2.2 with
    | true =>
      obtain ⟨y, y1, y2, y3⟩ := g4 rfl er
      have c1 := cnt_lt g2 y2 y3 1536 0 (Nat.zero_le _) (by omega)
      have c1 : cnt s.1 0 1536 + 1 ≤ cnt r.1 0 1536 := c1
      obtain ⟨σ2, b1, b2, b3, b4⟩ := ih (g + 1) σ1 r (by omega) (by omega) (RWd_FR hR fr (by decide) (by decide) (by decide)) ((fr.1 14 (by decide)).trans h14) a2 er hsd1 (fun y hy => g2 y (hst y hy)) (fun y hy => g1 y (hcn y hy))
      exact ⟨σ2, b1, b2, b3, FR_trans fr b4⟩
    | false =>
      obtain ⟨_, q2, q3⟩ := g3 er
      have q2 : r.1 = s.1 := q2
      have q3 : ∀ t, 0 ≤ t → t < 0 + T → QT T tb dr xs t s.1 r.2.1 := q3
      obtain ⟨z1, z2⟩ := Rch_of (st := st) (cn := cn) (fun t ht => (hSS t ht).1) hst (fun y hy => g1 y (hcn y hy)) q3
      unfold f_M_reach_60 f_M_reach_96
      rw [Mg98 hm, bs, a2.2.2, er, if_pos (show bI false = 0 from rfl), show nI 1 = bI true from rfl, Mz68 hm, bs]
      refine ⟨_, rfl, ⟨r.1, r.2.1, fun i hi => a2.1 i hi, fun i hi => a2.2.1 i hi, fun x => ⟨hsd1.1 x, fun hx => by rw [q2]; exact z1 x hx⟩, fun i => ⟨hsd1.2 i, z2 i⟩, ⟨r.2.2, a2.2.2⟩⟩, by rw [gI_sI, if_pos rfl], FR_trans fr (FR_mono (FR_I σ1 68 _) (by decide) (by decide) (by decide) (by decide))⟩
theorem q_rc_2 (hm : m ≤ h.length) : ∀ (c k g : Nat) (σ : px_S), k + c = 1536 → c < g → (∀ q, q < k → gA σ 66 q = bI false) → ∃ σ', f_M_reach_2 F g m (nI k) (mh m h σ) = f_M_reach_22 F m (mh m h σ') ∧ (∀ q, q < 1536 → gA σ' 66 q = bI false) ∧ FR [] [] [66] [] σ σ' := by
  intro c
  induction c with
  | zero =>
    intro k g σ hk hg hq
    obtain ⟨g, rfl⟩ : ∃ x, g = x + 1 := ⟨g - 1, by omega⟩
    unfold f_M_reach_2
    rw [if_pos (nI_le (by omega) (by omega))]
    exact ⟨σ, rfl, fun q h1 => hq q (by omega), FR_refl σ⟩
  | succ c ih =>
    intro k g σ hk hg hq
    obtain ⟨g, rfl⟩ : ∃ x, g = x + 1 := ⟨g - 1, by omega⟩
    unfold f_M_reach_2
    rw [if_neg (nI_ge (by omega) (by omega)), Mr66 hm, bs, show nI 0 &&& 1 = bI false from rfl, Ms66 hm (by omega), bs, nI_add]
    obtain ⟨σ2, j1, j2, j3⟩ := ih (k + 1) g (sA σ 66 (upd (gA σ 66) k (bI false))) (by omega) (by omega) (fun q hq2 => by
      show upd (gA σ 66) k (bI false) q = _
      by_cases c1 : q = k
      · rw [c1, upd_eq]
      · rw [upd_ne c1]; exact hq q (by omega))
    exact ⟨σ2, j1, j2, FR_trans (FR_A σ 66 _) j3⟩
theorem q_rc_24 (hm : m ≤ h.length) {N : Nat} (hN : N ≤ 4096) : ∀ (c k g : Nat) (σ : px_S), k + c = N → c < g → gI σ 20 = nI N → (∀ q, q < k → gA σ 67 q = bI false) → ∃ σ', f_M_reach_24 F g m (nI k) (mh m h σ) = f_M_reach_45 F m (mh m h σ') ∧ (∀ q, q < N → gA σ' 67 q = bI false) ∧ FR [] [] [67] [] σ σ' := by
  intro c
  induction c with
  | zero =>
    intro k g σ hk hg h20 hq
    obtain ⟨g, rfl⟩ : ∃ x, g = x + 1 := ⟨g - 1, by omega⟩
    unfold f_M_reach_24
    rw [Mg20 hm, bs, h20, if_pos (nI_le (by omega) (by omega))]
    exact ⟨σ, rfl, fun q h1 => hq q (by omega), FR_refl σ⟩
  | succ c ih =>
    intro k g σ hk hg h20 hq
    obtain ⟨g, rfl⟩ : ∃ x, g = x + 1 := ⟨g - 1, by omega⟩
    unfold f_M_reach_24
    rw [Mg20 hm, bs, h20, if_neg (nI_ge (by omega) (by omega)), Mr67 hm, bs, show nI 0 &&& 1 = bI false from rfl, Ms67 hm (by omega), bs, nI_add]
    obtain ⟨σ2, j1, j2, j3⟩ := ih (k + 1) g (sA σ 67 (upd (gA σ 67) k (bI false))) (by omega) (by omega) h20 (fun q hq2 => by
      show upd (gA σ 67) k (bI false) q = _
      by_cases c1 : q = k
      · rw [c1, upd_eq]
      · rw [upd_ne c1]; exact hq q (by omega))
    exact ⟨σ2, j1, j2, FR_trans (FR_A σ 67 _) j3⟩
/-- where start is defined -/
def stR (tb : Nat → Nat → Nat) (dr : Nat → Bool) (xs : px_NL) : Option Nat := match dfI wST xs with
  | none => none
  | some i => secN tb dr (xs.getD i ([], nr0)).2
def stC (xs : px_NL) : Option Nat := match dfI wST xs with
  | none => none
  | some i => comN xs i
theorem q_reach {σ : px_S} (hm : m ≤ h.length) (hF : 65536 < F) (hW : WP T tb dr xs) (hR : RWd σ T tO tn tb dr xs) (h14 : gI σ 14 = nI T) (hc : RC σ) (hs : (dfI wST xs).isSome = true) (h98 : ∃ ch, gI σ 98 = bI ch) : ∃ σ', f_M_reach F m (mh m h σ) = some ((), mh m h σ') ∧ RRf xs.length T tb dr xs (stR tb dr xs) (stC xs) σ' ∧ gI σ' 68 = nI 1 ∧ FR [68, 98] [] [66, 67] [] σ σ' := by
  have hxl : xs.length ≤ 4096 := by have := hR.2.2.1.2.1; rw [List.length_map] at this; exact this
  have h20 := hR.2.2.1.1
  rw [List.length_map] at h20
  obtain ⟨σ1, a1, a2, a3⟩ := q_rc_2 (F := F) (h := h) hm 1536 0 F σ (by omega) (by omega) (fun q hq => absurd hq (Nat.not_lt_zero q))
  obtain ⟨σ2, b1, b2, b3⟩ := q_rc_24 (F := F) (h := h) (N := xs.length) hm hxl xs.length 0 F σ1 (by omega) (by omega) ((a3.1 20 (by decide)).trans h20) (fun q hq => absurd hq (Nat.not_lt_zero q))
  have f2 : FR [68, 98] [] [66, 67] [] σ σ2 := FR_trans (FR_mono a3 (by decide) (by decide) (by decide) (by decide)) (FR_mono b3 (by decide) (by decide) (by decide) (by decide))
  have hR2 := RWd_FR hR f2 (by decide) (by decide) (by decide)
  have hc2 := RC_FR hc f2 (by decide) (by decide)
  obtain ⟨i, hi⟩ := Option.isSome_iff_exists.mp hs
  have hi2 : i < xs.length := by
    unfold dfI at hi
    split at hi
    · cases hi
    · rename_i ei
      split at hi
      · cases hi
      · have := idx_lt ei
        rw [List.length_map] at this
        have := Option.some.inj hi
        omega
  obtain ⟨x, hx⟩ : ∃ x, xs[i]? = some x := ⟨xs[i], List.getElem?_eq_getElem hi2⟩
  have est : stR tb dr xs = secN tb dr x.2 := by
    unfold stR
    rw [hi]
    show secN tb dr (xs.getD i ([], nr0)).2 = _
    rw [List.getD_eq_getElem?_getD, hx]
    rfl
  have ecn : stC xs = comN xs i := by unfold stC; rw [hi]
  obtain ⟨ch, hch⟩ := h98
  obtain ⟨σ5, d1, d2, d3⟩ := q_reachName (F := F) (σ := σ2) (N := xs.length) (s := (fun _ => false, fun _ => false, ch)) hm (by omega) hW.1 hR2.1 hR2.2.1 hR2.2.2 hW.2.1 hx (hW.2.2.1 i x hx) ⟨fun i hi => by rw [b3.2.2.1 66 (by decide)]; exact a2 i hi, fun i hi => b2 i hi, by rw [b3.1 98 (by decide), a3.1 98 (by decide)]; exact hch⟩
  have hsd : SD T tb dr xs (stR tb dr xs) (stC xs) (rs1 (secN tb dr x.2) (rn1 (comN xs i) (fun _ => false, fun _ => false, ch))) := SD_1 ⟨fun x hx => (nomatch hx), fun n hn => (nomatch hn)⟩ (fun y hy P p1 p2 => p1 y (est.trans hy)) (fun k hk => Or.inl (ecn.trans hk))
  have hin : (∀ y, secN tb dr x.2 = some y → (rs1 (secN tb dr x.2) (rn1 (comN xs i) (fun _ => false, fun _ => false, ch))).1 y = true) ∧ ∀ y, comN xs i = some y → (rs1 (secN tb dr x.2) (rn1 (comN xs i) (fun _ => false, fun _ => false, ch))).2.1 y = true := by
    generalize secN tb dr x.2 = u
    generalize comN xs i = v
    constructor
    · intro y hy
      rw [hy]
      cases v <;> exact bup_e
    · intro y hy
      rw [hy]
      cases u <;> exact bup_e
  generalize rs1 (secN tb dr x.2) (rn1 (comN xs i) (fun _ => false, fun _ => false, ch)) = r at *
  have f6 : FR [68, 98] [] [66, 67] [] σ (sI σ5 98 (bI true)) := FR_trans f2 (FR_trans (FR_mono d3 (by decide) (by decide) (by decide) (by decide)) (FR_mono (FR_I σ5 98 _) (by decide) (by decide) (by decide) (by decide)))
  have d4 : RR xs.length (sI σ5 98 (bI true)) (r.1, r.2.1, true) := ⟨d2.1, d2.2.1, by rw [gI_sI, if_pos rfl]⟩
  have e45 : f_M_reach_45 F m (mh m h σ2) = f_M_reach_60 F F m (mh m h (sI σ5 98 (bI true))) := by
    unfold f_M_reach_45
    rw [e_o hm, bs, q_start hm (by omega) hR2.2.2 hW.2.1 hc2, xb_mk, hi, show tdA (some i) = nI i from rfl, e_o hm, bs, d1, xb_mk, show nI 1 = bI true from rfl, Mz98 hm, bs]
  generalize sI σ5 98 (bI true) = σ6 at *
  obtain ⟨σ7, g1, g2, g3, g4⟩ := q_rc_60 (F := F) (N := xs.length) (st := stR tb dr xs) (cn := stC xs) hm hF hW 1536 F σ6 (r.1, r.2.1, true) (by omega) (by omega) (RWd_FR hR f6 (by decide) (by decide) (by decide)) ((f6.1 14 (by decide)).trans h14) d4 rfl hsd (fun y hy => hin.1 y (est.symm.trans hy)) (fun y hy => hin.2 y (ecn.symm.trans hy))
  refine ⟨σ7, ?_, g2, g3, FR_trans f6 g4⟩
  unfold f_M_reach
  rw [a1]
  unfold f_M_reach_22
  rw [b1, e45]
  exact g1
end MRD
end
section
/-! stays, lay of the reference -/
def RSt (σ : px_S) (on : Bool) (R : Nat → Bool) : Prop := gI σ 68 = bI on ∧ (on = true → ∀ i, i < 1536 → gA σ 66 i = bI (R i))
theorem RSt_FR {σ σ' : px_S} {I J A B : List Nat} {on : Bool} {R : Nat → Bool} (h : RSt σ on R) (f : FR I J A B σ σ') (h1 : 68 ∉ I) (h2 : 66 ∉ A) : RSt σ' on R := ⟨(f.1 68 h1).trans h.1, fun e i hi => by rw [f.2.2.1 66 h2]; exact h.2 e i hi⟩
/-- section i of object t stays -/
def sta (tb : Nat → Nat → Nat) (dr : Nat → Bool) (on : Bool) (R : Nat → Bool) (t i : Nat) : Bool := oK (tb t) i && (!dr (24 * t + i) && (!on || R (24 * t + i)))
/-- the members taken -/
def RQ (σ : px_S) (T : Nat) (tq : Nat → Nat) : Prop := ∀ t, t < T → tq t < 64 ∧ gA σ 17 t = nI (tq t) ∧ ∃ a, gA σ 11 (tq t / 8) = bI a ∧ (a = false → tq t % 8 = 0)
theorem RQ_FR {σ σ' : px_S} {I J A B : List Nat} {T : Nat} {tq : Nat → Nat} (h : RQ σ T tq) (f : FR I J A B σ σ') (h1 : 17 ∉ A) (h2 : 11 ∉ A) : RQ σ' T tq := fun t ht => by rw [f.2.2.1 17 h1, f.2.2.1 11 h2]; exact h t ht
def gOf (u : Nat) : Nat := if u < 2 then u else if u < 4 then u + 2 else u - 2
def lay3 (tb : Nat → Nat → Nat) (sy : Nat → Nat → Bool) (g t i : Nat) (l : List Nat) : List Nat := if sy t i = true ∧ oG (tb t) i = g then l ++ [24 * t + i] else l
def lay2 (tb : Nat → Nat → Nat) (sy : Nat → Nat → Bool) (g t : Nat) (l : List Nat) : List Nat := itr (lay3 tb sy g t) 1 (oS (tb t) - 1) l
def lay1 (T : Nat) (tb : Nat → Nat → Nat) (sy : Nat → Nat → Bool) (u : Nat) (l : List Nat) : List Nat := itr (lay2 tb sy (gOf u)) 0 T l
def layL (T : Nat) (tb : Nat → Nat → Nat) (sy : Nat → Nat → Bool) : List Nat := itr (lay1 T tb sy) 0 6 []
/-- what is laid so far: up to turn u, place p -/
def LI (T : Nat) (tb : Nat → Nat → Nat) (sy : Nat → Nat → Bool) (u p : Nat) (l : List Nat) : Prop := l.Nodup ∧ ∀ x, x ∈ l → (x < 24 * T ∧ 1 ≤ x % 24 ∧ x % 24 < oS (tb (x / 24)) ∧ sy (x / 24) (x % 24) = true) ∧ ((∃ v, v < u ∧ oG (tb (x / 24)) (x % 24) = gOf v) ∨ oG (tb (x / 24)) (x % 24) = gOf u ∧ x < p)
theorem LI_p {T : Nat} {tb : Nat → Nat → Nat} {sy : Nat → Nat → Bool} {u p p' : Nat} {l : List Nat} (h : LI T tb sy u p l) (hp : p ≤ p') : LI T tb sy u p' l := ⟨h.1, fun x hx => ⟨(h.2 x hx).1, (h.2 x hx).2.elim Or.inl (fun q => Or.inr ⟨q.1, by omega⟩)⟩⟩
theorem LI_u {T : Nat} {tb : Nat → Nat → Nat} {sy : Nat → Nat → Bool} {u p p' : Nat} {l : List Nat} (h : LI T tb sy u p l) : LI T tb sy (u + 1) p' l := ⟨h.1, fun x hx => ⟨(h.2 x hx).1, Or.inl ((h.2 x hx).2.elim (fun ⟨v, h1, h2⟩ => ⟨v, by omega, h2⟩) (fun q => ⟨u, Nat.lt_succ_self u, q.1⟩))⟩⟩
theorem LI_3 {T : Nat} {tb : Nat → Nat → Nat} {sy : Nat → Nat → Bool} {u t i : Nat} {l : List Nat} (hu : u < 6) (ht : t < T) (h1 : 1 ≤ i) (hi : i < oS (tb t)) (hS : oS (tb t) ≤ 24) (h : LI T tb sy u (24 * t + i) l) : LI T tb sy u (24 * t + (i + 1)) (lay3 tb sy (gOf u) t i l) := by
  unfold lay3
  by_cases c : sy t i = true ∧ oG (tb t) i = gOf u
  · rw [if_pos c]
    have e1 : (24 * t + i) / 24 = t := by omega
    have e2 : (24 * t + i) % 24 = i := by omega
    have hn : 24 * t + i ∉ l := fun q => by
      have := (h.2 _ q).2
      rw [e1, e2, c.2] at this
      rcases this with ⟨v, v1, v2⟩ | ⟨_, v2⟩
      · unfold gOf at v2
        repeat (first | omega | split at v2)
      · omega
    refine ⟨?_, fun x hx => ?_⟩
    · rw [List.nodup_append]
      exact ⟨h.1, List.nodup_cons.mpr ⟨List.not_mem_nil, List.nodup_nil⟩, fun x hx y hy e => hn (by rw [List.mem_singleton.mp hy] at e; exact e ▸ hx)⟩
    · rcases List.mem_append.mp hx with hx | hx
      · exact (LI_p h (by omega)).2 x hx
      · rw [List.mem_singleton.mp hx, e1, e2]
        exact ⟨⟨by omega, h1, hi, c.1⟩, Or.inr ⟨c.2, by omega⟩⟩
  · rw [if_neg c]
    exact LI_p h (by omega)
theorem LI_len {T : Nat} {tb : Nat → Nat → Nat} {sy : Nat → Nat → Bool} {u p : Nat} {l : List Nat} (hT : T ≤ 64) (h : LI T tb sy u p l) : l.length ≤ 1536 := nodup_le 0 1536 l h.1 (fun x hx => by have := (h.2 x hx).1.1; omega)
/-- the reference's rows of what is laid -/
def RLa (σ : px_S) (tq : Nat → Nat) (tb : Nat → Nat → Nat) (l : List Nat) : Prop := gI σ 50 = nI l.length ∧ ∀ p x, l[p]? = some x → gA σ 51 p = nI (x / 24) ∧ gA σ 52 p = nI (tq (x / 24) / 8) ∧ gA σ 53 p = nI (tq (x / 24) % 8) ∧ gA σ 54 p = nI (x % 24) ∧ gA σ 55 p = nI (oG (tb (x / 24)) (x % 24)) ∧ gA σ 56 p = nI (oZ (tb (x / 24)) (x % 24))
theorem RLa_FR {σ σ' : px_S} {I J A B : List Nat} {tq : Nat → Nat} {tb : Nat → Nat → Nat} {l : List Nat} (h : RLa σ tq tb l) (f : FR I J A B σ σ') (h1 : 50 ∉ I) (hA : ∀ k, k ∈ [51, 52, 53, 54, 55, 56] → k ∉ A) : RLa σ' tq tb l := ⟨(f.1 50 h1).trans h.1, fun p x hx => by rw [f.2.2.1 51 (hA 51 (by decide)), f.2.2.1 52 (hA 52 (by decide)), f.2.2.1 53 (hA 53 (by decide)), f.2.2.1 54 (hA 54 (by decide)), f.2.2.1 55 (hA 55 (by decide)), f.2.2.1 56 (hA 56 (by decide))]; exact h.2 p x hx⟩
abbrev laA : List Nat := [51, 52, 53, 54, 55, 56]
section MLY
variable {F m T t i : Nat} {h : px_H} {σ : px_S} {dr : Nat → Bool} {tb : Nat → Nat → Nat} {tO tn tq : Nat → Nat} {xs : px_NL} {on : Bool} {R : Nat → Bool}
theorem q_stays (hm : m ≤ h.length) (hF : 24 < F) (hb : OB σ t (tO t) (tn t) (tb t)) (hd : RDr σ dr) (hs : RSt σ on R) (hi : i < oS (tb t)) : f_M_stays F m (nI t) (nI i) (mh m h σ) = some (bI (sta tb dr on R t i), mh m h σ) := by
  have ht := hb.1.1
  have hS := (OB_w hb).1.2.1.2
  unfold f_M_stays f_M_stays_52 f_M_stays_48 f_M_stays_53 sta
  rw [e_o hm, bs, O_obj hm hb, xb_mk, e_o hm, bs, O_kept hm hF hb hi, xb_mk, Mr65 hm, bs, pk_mul, nI_add, Ma65 hm (by omega), bs, hd _ (by omega), Mg68 hm, bs, hs.1, Mr66 hm, bs, Ma66 hm (by omega), bs]
  cases oK (tb t) i with
  | false => rw [if_pos (show bI false = 0 from rfl), xz_0]; rfl
  | true =>
    rw [if_neg (show ¬ bI true = 0 by decide)]
    cases dr (24 * t + i) with
    | true => rw [if_neg (show ¬ bI true = 0 by decide), xz_0]; rfl
    | false =>
      rw [if_pos (show bI false = 0 from rfl)]
      cases on with
      | false => rw [if_pos (show bI false = 0 from rfl), xz_1]; rfl
      | true =>
        rw [if_neg (show ¬ bI true = 0 by decide), hs.2 rfl _ (by omega)]
        cases R (24 * t + i) with
        | false => rw [if_pos (show bI false = 0 from rfl), xz_0]; rfl
        | true => rw [if_neg (show ¬ bI true = 0 by decide), xz_1]; rfl
end MLY
section MLZ
variable {F m T t : Nat} {h : px_H} {dr : Nat → Bool} {tb : Nat → Nat → Nat} {tO tn tq : Nat → Nat} {on : Bool} {R : Nat → Bool} {k7 : Nat → Int32 → px_H → Option (Unit × px_H)} {k39 : Nat → Int32 → Int32 → Int32 → px_H → Option (Unit × px_H)}
/-- what lay reads -/
def RWl (σ : px_S) (T : Nat) (tO tn tq : Nat → Nat) (tb : Nat → Nat → Nat) (dr : Nat → Bool) (on : Bool) (R : Nat → Bool) : Prop := (∀ t, t < T → OB σ t (tO t) (tn t) (tb t)) ∧ RDr σ dr ∧ RSt σ on R ∧ RQ σ T tq ∧ gI σ 14 = nI T
theorem RWl_FR {σ σ' : px_S} {I J A B : List Nat} (hh : RWl σ T tO tn tq tb dr on R) (f : FR I J A B σ σ') (hI : 14 ∉ I ∧ 68 ∉ I) (hA : ∀ k, k ∈ [6, 9, 11, 17, 65, 66] → k ∉ A) : RWl σ' T tO tn tq tb dr on R :=
  ⟨fun t ht => OB_FR (hh.1 t ht) f ⟨hA 6 (by decide), hA 9 (by decide), hA 17 (by decide)⟩, fun i hi => by rw [f.2.2.1 65 (hA 65 (by decide))]; exact hh.2.1 i hi, RSt_FR hh.2.2.1 f hI.2 (hA 66 (by decide)), RQ_FR hh.2.2.2.1 f (hA 17 (by decide)) (hA 11 (by decide)), (f.1 14 hI.1).trans hh.2.2.2.2⟩
theorem q_lay_57 {u : Nat} (hm : m ≤ h.length) (hF : 65536 < F) (hT : T ≤ 64) (hu : u < 6) (ht : t < T) : ∀ (c i g : Nat) (σ : px_S) (l : List Nat), 1 ≤ i → i + c = oS (tb t) → c < g → RWl σ T tO tn tq tb dr on R → RLa σ tq tb l → LI T tb (sta tb dr on R) u (24 * t + i) l → ∃ σ', f_M_lay_57 F k7 k39 g m (nI u) (nI (gOf u)) (nI t) (nI (tO t)) (nI i) (mh m h σ) = k39 m (nI u) (nI (gOf u)) (nI (t + 1)) (mh m h σ') ∧ RLa σ' tq tb (itr (lay3 tb (sta tb dr on R) (gOf u) t) i c l) ∧ LI T tb (sta tb dr on R) u (24 * t + oS (tb t)) (itr (lay3 tb (sta tb dr on R) (gOf u) t) i c l) ∧ FR [50] [] laA [] σ σ' := by
  intro c
  induction c with
  | zero =>
    intro i g σ l h1 hi hg hR hL hI
    obtain ⟨g, rfl⟩ : ∃ x, g = x + 1 := ⟨g - 1, by omega⟩
    have hb := hR.1 t ht
    have hS := (OB_w hb).1.2.1.2
    unfold f_M_lay_57 f_M_lay_215
    rw [e_o hm, bs, O_sec hm (by omega) hb, xb_mk, if_pos (nI_le (by omega) (by omega)), nI_add]
    exact ⟨σ, rfl, hL, LI_p hI (by omega), FR_refl σ⟩
  | succ c ih =>
    intro i g σ l h1 hi hg hR hL hI
    obtain ⟨g, rfl⟩ : ∃ x, g = x + 1 := ⟨g - 1, by omega⟩
    have hb := hR.1 t ht
    have hS := (OB_w hb).1.2.1.2
    have hw := OB_w hb
    have hiS : i < oS (tb t) := by omega
    have hI3 := LI_3 hu ht h1 hiS hS hI
    have step : ∀ σ1 l1, FR [50] [] laA [] σ σ1 → RLa σ1 tq tb l1 → lay3 tb (sta tb dr on R) (gOf u) t i l = l1 → ∃ σ', f_M_lay_57 F k7 k39 g m (nI u) (nI (gOf u)) (nI t) (nI (tO t)) (nI (i + 1)) (mh m h σ1) = k39 m (nI u) (nI (gOf u)) (nI (t + 1)) (mh m h σ') ∧ RLa σ' tq tb (itr (lay3 tb (sta tb dr on R) (gOf u) t) i (c + 1) l) ∧ LI T tb (sta tb dr on R) u (24 * t + oS (tb t)) (itr (lay3 tb (sta tb dr on R) (gOf u) t) i (c + 1) l) ∧ FR [50] [] laA [] σ σ' := by
      intro σ1 l1 a1 a2 a3
      rw [a3] at hI3
      obtain ⟨σ', j1, j2, j3, j4⟩ := ih (i + 1) g σ1 l1 (by omega) (by omega) (by omega) (RWl_FR hR a1 (by decide) (by decide)) a2 hI3
      rw [itr_s, a3]
      exact ⟨σ', j1, j2, j3, FR_trans a1 j4⟩
    have hgu : gOf u ≤ 5 := by unfold gOf; repeat (first | omega | split)
    have hG : oG (tb t) i ≤ 5 := by unfold oG; repeat (first | omega | split)
    unfold f_M_lay_57 f_M_lay_209
    rw [e_o hm, bs, O_sec hm (by omega) hb, xb_mk, if_neg (nI_ge (by omega) (by omega)), e_o hm, bs, q_stays hm (by omega) hb hR.2.1 hR.2.2.1 hiS, xb_mk, nI_add]
    cases es : sta tb dr on R t i with
    | false =>
      rw [if_pos (show bI false = 0 from rfl)]
      exact step σ l (FR_refl σ) hL (by unfold lay3; rw [if_neg (fun q => by rw [es] at q; exact nomatch q.1)])
    | true =>
      rw [if_neg (show ¬ bI true = 0 by decide), e_o hm, bs, O_group hm (by omega) hb hiS, xb_mk]
      by_cases cg : oG (tb t) i = gOf u
      · have hst : lay3 tb (sta tb dr on R) (gOf u) t i l = l ++ [24 * t + i] := by unfold lay3; rw [if_pos ⟨es, cg⟩]
        have hll : l.length < 1536 := by
          have hI4 := hI3
          rw [hst] at hI4
          have := LI_len hT hI4
          rw [List.length_append] at this
          have : l.length + 1 ≤ 1536 := this
          omega
        obtain ⟨q1, q2, a, q3, q4⟩ := hR.2.2.2.1 t ht
        have hK : oK (tb t) i = true := by
          have := es
          unfold sta at this
          rw [Bool.and_eq_true] at this
          exact this.1
        have hZ := hw.1.2.2.2.2 i hiS hK
        have hL1 := hL.1
        have h17 := q2
        rw [if_pos (by rw [cg])]
        obtain ⟨σ1, hσ1⟩ : ∃ x, x = sA σ 51 (upd (gA σ 51) l.length (nI t)) := ⟨_, rfl⟩
        have f1 : FR [] [] [51] [] σ σ1 := by rw [hσ1]; exact FR_A σ 51 _
        obtain ⟨σ2, hσ2⟩ : ∃ x, x = sA σ1 52 (upd (gA σ1 52) l.length (nI (tq t / 8))) := ⟨_, rfl⟩
        have f2 : FR [] [] [52] [] σ1 σ2 := by rw [hσ2]; exact FR_A σ1 52 _
        obtain ⟨σ3, hσ3⟩ : ∃ x, x = sA σ2 53 (upd (gA σ2 53) l.length (nI (tq t % 8))) := ⟨_, rfl⟩
        have f3 : FR [] [] [53] [] σ2 σ3 := by rw [hσ3]; exact FR_A σ2 53 _
        obtain ⟨σ4, hσ4⟩ : ∃ x, x = sA σ3 54 (upd (gA σ3 54) l.length (nI i)) := ⟨_, rfl⟩
        have f4 : FR [] [] [54] [] σ3 σ4 := by rw [hσ4]; exact FR_A σ3 54 _
        obtain ⟨σ5, hσ5⟩ : ∃ x, x = sA σ4 55 (upd (gA σ4 55) l.length (nI (gOf u))) := ⟨_, rfl⟩
        have f5 : FR [] [] [55] [] σ4 σ5 := by rw [hσ5]; exact FR_A σ4 55 _
        obtain ⟨σ6, hσ6⟩ : ∃ x, x = sA σ5 56 (upd (gA σ5 56) l.length (nI (oZ (tb t) i))) := ⟨_, rfl⟩
        have f6 : FR [] [] [56] [] σ5 σ6 := by rw [hσ6]; exact FR_A σ5 56 _
        obtain ⟨σ7, hσ7⟩ : ∃ x, x = sI σ6 50 (nI (l.length + 1)) := ⟨_, rfl⟩
        have f7 : FR [50] [] [] [] σ6 σ7 := by rw [hσ7]; exact FR_I σ6 50 _
        have F2 : FR [50] [] laA [] σ σ2 := FR_trans (FR_mono f1 (by decide) (by decide) (by decide) (by decide)) (FR_mono f2 (by decide) (by decide) (by decide) (by decide))
        have F3 : FR [50] [] laA [] σ σ3 := FR_trans F2 (FR_mono f3 (by decide) (by decide) (by decide) (by decide))
        have F5 : FR [50] [] laA [] σ σ5 := FR_trans F3 (FR_trans (FR_mono f4 (by decide) (by decide) (by decide) (by decide)) (FR_mono f5 (by decide) (by decide) (by decide) (by decide)))
        have F7 : FR [50] [] laA [] σ σ7 := FR_trans F5 (FR_trans (FR_mono f6 (by decide) (by decide) (by decide) (by decide)) (FR_mono f7 (by decide) (by decide) (by decide) (by decide)))
        have i1 : gI σ1 50 = nI l.length := (f1.1 50 (by decide)).trans hL1
        have i2 : gI σ2 50 = nI l.length := (f2.1 50 (by decide)).trans i1
        have i3 : gI σ3 50 = nI l.length := (f3.1 50 (by decide)).trans i2
        have i4 : gI σ4 50 = nI l.length := (f4.1 50 (by decide)).trans i3
        have i5 : gI σ5 50 = nI l.length := (f5.1 50 (by decide)).trans i4
        have i6 : gI σ6 50 = nI l.length := (f6.1 50 (by decide)).trans i5
        have g17 : gA σ1 17 t = nI (tq t) := by rw [f1.2.2.1 17 (by decide)]; exact q2
        have g172 : gA σ2 17 t = nI (tq t) := by rw [f2.2.2.1 17 (by decide)]; exact g17
        have g52 : gA σ2 52 l.length = nI (tq t / 8) := by rw [hσ2, gA_sA, if_pos rfl, upd_eq]
        have g11 : gA σ2 11 (tq t / 8) = bI a := by rw [F2.2.2.1 11 (by decide)]; exact q3
        have b5 := OB_FR hb F5 (by decide)
        have e159 : f_M_lay_159 F k7 k39 (f_M_lay_57 F k7 k39 g) m (nI u) (nI (gOf u)) (nI t) (nI (tO t)) (nI i) (m + 39) (nI l.length) (nI (tq t % 8)) (mh m h σ2) = f_M_lay_57 F k7 k39 g m (nI u) (nI (gOf u)) (nI t) (nI (tO t)) (nI (i + 1)) (mh m h σ7) := by
          unfold f_M_lay_159 f_M_lay_209
          rw [Ms53 hm hll, bs, ← hσ3, Mr54 hm, bs, Mg50 hm, bs, i3, Ms54 hm hll, bs, ← hσ4, Mr55 hm, bs, Mg50 hm, bs, i4, Ms55 hm hll, bs, ← hσ5, Mr56 hm, bs, Mg50 hm, bs, i5, e_o hm, bs, O_size hm (by omega) b5 hiS, xb_mk, lN_i, Ms56 hm hll, bs, ← hσ6, Mg50 hm, bs, i6, nI_add, Mp50 hm, bs, ← hσ7, nI_add]
        have ht64 := hb.1.1
        rw [Mr51 hm, bs, Mg50 hm, bs, hL1, Ms51 hm hll, bs, ← hσ1, Mr52 hm, bs, Mg50 hm, bs, i1, Mr17 hm, bs, Ma17 hm (by omega), bs, g17, pk_div (by omega) (by decide) (by decide), Ms52 hm hll, bs, ← hσ2, Mr53 hm, bs, Mg50 hm, bs, i2, Mr11 hm, bs, Mr52 hm, bs, bs, Ma52 hm hll, bs, g52, Ma11 hm (by omega), bs, g11]
        have g6' : ∀ k, k ∈ laA → k ≠ 56 → gA σ7 k = gA σ6 k := fun k _ _ => f7.2.2.1 k List.not_mem_nil
        have hl7 : RLa σ7 tq tb (l ++ [24 * t + i]) := by
          refine ⟨by rw [hσ7, gI_sI, if_pos rfl, List.length_append]; rfl, fun p x hx => ?_⟩
          have g51 : gA σ7 51 = upd (gA σ 51) l.length (nI t) := by rw [f7.2.2.1 51 (by decide), f6.2.2.1 51 (by decide), f5.2.2.1 51 (by decide), f4.2.2.1 51 (by decide), f3.2.2.1 51 (by decide), f2.2.2.1 51 (by decide), hσ1, gA_sA, if_pos rfl]
          have g52 : gA σ7 52 = upd (gA σ 52) l.length (nI (tq t / 8)) := by rw [f7.2.2.1 52 (by decide), f6.2.2.1 52 (by decide), f5.2.2.1 52 (by decide), f4.2.2.1 52 (by decide), f3.2.2.1 52 (by decide), hσ2, gA_sA, if_pos rfl, f1.2.2.1 52 (by decide)]
          have g53 : gA σ7 53 = upd (gA σ 53) l.length (nI (tq t % 8)) := by rw [f7.2.2.1 53 (by decide), f6.2.2.1 53 (by decide), f5.2.2.1 53 (by decide), f4.2.2.1 53 (by decide), hσ3, gA_sA, if_pos rfl, f2.2.2.1 53 (by decide), f1.2.2.1 53 (by decide)]
          have g54 : gA σ7 54 = upd (gA σ 54) l.length (nI i) := by rw [f7.2.2.1 54 (by decide), f6.2.2.1 54 (by decide), f5.2.2.1 54 (by decide), hσ4, gA_sA, if_pos rfl, f3.2.2.1 54 (by decide), f2.2.2.1 54 (by decide), f1.2.2.1 54 (by decide)]
          have g55 : gA σ7 55 = upd (gA σ 55) l.length (nI (gOf u)) := by rw [f7.2.2.1 55 (by decide), f6.2.2.1 55 (by decide), hσ5, gA_sA, if_pos rfl, f4.2.2.1 55 (by decide), f3.2.2.1 55 (by decide), f2.2.2.1 55 (by decide), f1.2.2.1 55 (by decide)]
          have g56 : gA σ7 56 = upd (gA σ 56) l.length (nI (oZ (tb t) i)) := by rw [f7.2.2.1 56 (by decide), hσ6, gA_sA, if_pos rfl, f5.2.2.1 56 (by decide), f4.2.2.1 56 (by decide), f3.2.2.1 56 (by decide), f2.2.2.1 56 (by decide), f1.2.2.1 56 (by decide)]
          rw [g51, g52, g53, g54, g55, g56]
          by_cases cp : p < l.length
          · rw [List.getElem?_append_left cp] at hx
            rw [upd_ne (by omega), upd_ne (by omega), upd_ne (by omega), upd_ne (by omega), upd_ne (by omega), upd_ne (by omega)]
            exact hL.2 p x hx
          · have hl := (List.getElem?_eq_some_iff.mp hx).1
            rw [List.length_append] at hl
            have hl : p < l.length + 1 := hl
            have e : p = l.length := by omega
            rw [e, List.getElem?_append_right (Nat.le_refl _), Nat.sub_self] at hx
            have hx : 24 * t + i = x := Option.some.inj hx
            rw [e, ← hx, show (24 * t + i) / 24 = t by omega, show (24 * t + i) % 24 = i by omega, upd_eq, upd_eq, upd_eq, upd_eq, upd_eq, upd_eq, cg]
            exact ⟨rfl, rfl, rfl, rfl, rfl, rfl⟩
        cases a with
        | false =>
          rw [if_pos (show bI false = 0 from rfl)]
          have e8 := q4 rfl
          rw [e8] at e159
          rw [e159]
          exact step σ7 _ F7 hl7 hst
        | true =>
          rw [if_neg (show ¬ bI true = 0 by decide), Mr17 hm, bs, Ma17 hm (by omega), bs, g172, pk_rem (by omega) (by decide) (by decide), e159]
          exact step σ7 _ F7 hl7 hst
      · rw [if_neg (fun q => cg ((nI_eq (by omega) (by omega)).mp q))]
        exact step σ l (FR_refl σ) hL (by unfold lay3; rw [if_neg (fun q => cg q.2)])
theorem q_lay_39 {u : Nat} (hm : m ≤ h.length) (hF : 65536 < F) (hT : T ≤ 64) (hu : u < 6) : ∀ (c t g : Nat) (σ : px_S) (l : List Nat), t + c = T → c < g → RWl σ T tO tn tq tb dr on R → RLa σ tq tb l → LI T tb (sta tb dr on R) u (24 * t) l → ∃ σ', f_M_lay_39 F k7 g m (nI u) (nI (gOf u)) (nI t) (mh m h σ) = k7 m (nI (u + 1)) (mh m h σ') ∧ RLa σ' tq tb (itr (lay2 tb (sta tb dr on R) (gOf u)) t c l) ∧ LI T tb (sta tb dr on R) (u + 1) 0 (itr (lay2 tb (sta tb dr on R) (gOf u)) t c l) ∧ FR [50] [] laA [] σ σ' := by
  intro c
  induction c with
  | zero =>
    intro t g σ l ht hg hR hL hI
    obtain ⟨g, rfl⟩ : ∃ x, g = x + 1 := ⟨g - 1, by omega⟩
    unfold f_M_lay_39 f_M_lay_221
    rw [Mg14 hm, bs, hR.2.2.2.2, if_pos (nI_le (by omega) (by omega)), nI_add]
    exact ⟨σ, rfl, hL, LI_u hI, FR_refl σ⟩
  | succ c ih =>
    intro t g σ l ht hg hR hL hI
    obtain ⟨g, rfl⟩ : ∃ x, g = x + 1 := ⟨g - 1, by omega⟩
    have hb := hR.1 t (by omega)
    have hS := (OB_w hb).1.2.1
    obtain ⟨σ1, a1, a2, a3, a4⟩ := q_lay_57 (F := F) (k7 := k7) (k39 := f_M_lay_39 F k7 g) (u := u) (t := t) hm hF hT hu (by omega) (oS (tb t) - 1) 1 F σ l (by omega) (by omega) (by omega) hR hL (LI_p hI (by omega))
    unfold f_M_lay_39
    rw [Mg14 hm, bs, hR.2.2.2.2, if_neg (nI_ge (by omega) (by omega)), e_o hm, bs, O_obj hm hb, xb_mk, a1, itr_s]
    obtain ⟨σ2, b1, b2, b3, b4⟩ := ih (t + 1) g σ1 _ (by omega) (by omega) (RWl_FR hR a4 (by decide) (by decide)) a2 (LI_p a3 (by omega))
    exact ⟨σ2, b1, b2, b3, FR_trans a4 b4⟩
theorem q_lay_7 (hm : m ≤ h.length) (hF : 65536 < F) (hT : T ≤ 64) : ∀ (c u g : Nat) (σ : px_S) (l : List Nat), u + c = 6 → c < g → RWl σ T tO tn tq tb dr on R → RLa σ tq tb l → LI T tb (sta tb dr on R) u 0 l → ∃ σ', f_M_lay_7 F g m (nI u) (mh m h σ) = some ((), mh m h σ') ∧ RLa σ' tq tb (itr (lay1 T tb (sta tb dr on R)) u c l) ∧ LI T tb (sta tb dr on R) 6 0 (itr (lay1 T tb (sta tb dr on R)) u c l) ∧ FR [50] [] laA [] σ σ' := by
  intro c
  induction c with
  | zero =>
    intro u g σ l hu hg hR hL hI
    obtain ⟨g, rfl⟩ : ∃ x, g = x + 1 := ⟨g - 1, by omega⟩
    have e : u = 6 := by omega
    rw [e] at hI ⊢
    unfold f_M_lay_7 f_M_lay_227
    rw [if_pos (by decide)]
    exact ⟨σ, rfl, hL, hI, FR_refl σ⟩
  | succ c ih =>
    intro u g σ l hu hg hR hL hI
    obtain ⟨g, rfl⟩ : ∃ x, g = x + 1 := ⟨g - 1, by omega⟩
    obtain ⟨σ1, a1, a2, a3, a4⟩ := q_lay_39 (F := F) (k7 := f_M_lay_7 F g) (u := u) hm hF hT (by omega) T 0 F σ l (by omega) (by omega) hR hL hI
    obtain ⟨σ2, b1, b2, b3, b4⟩ := ih (u + 1) g σ1 _ (by omega) (by omega) (RWl_FR hR a4 (by decide) (by decide)) a2 a3
    rw [itr_s]
    refine ⟨σ2, ?_, b2, b3, FR_trans a4 b4⟩
    unfold f_M_lay_7 f_M_lay_36
    rw [if_neg (nI_ge (by omega) (by omega))]
    by_cases c1 : u < 2
    · have e : gOf u = u := by unfold gOf; rw [if_pos c1]
      rw [e] at a1
      rw [if_neg (nI_ge (by omega) (by omega)), a1, b1]
    · rw [if_pos (nI_le (by omega) (by omega))]
      by_cases c2 : u < 4
      · have e : gOf u = u + 2 := by unfold gOf; rw [if_neg c1, if_pos c2]
        rw [e] at a1
        rw [if_neg (nI_ge (by omega) (by omega)), nI_add, a1, b1]
      · have e : gOf u = u - 2 := by unfold gOf; rw [if_neg c1, if_neg c2]
        rw [e] at a1
        rw [if_pos (nI_le (by omega) (by omega)), pk_sub (by omega), a1, b1]
theorem q_lay {σ : px_S} (hm : m ≤ h.length) (hF : 65536 < F) (hT : T ≤ 64) (hR : RWl σ T tO tn tq tb dr on R) : ∃ σ', f_M_lay F m (mh m h σ) = some ((), mh m h σ') ∧ RLa σ' tq tb (layL T tb (sta tb dr on R)) ∧ LI T tb (sta tb dr on R) 6 0 (layL T tb (sta tb dr on R)) ∧ FR [50] [] laA [] σ σ' := by
  have f1 := FR_I σ 50 (nI 0)
  obtain ⟨σ1, a1, a2, a3, a4⟩ := q_lay_7 (F := F) (h := h) hm hF hT 6 0 F (sI σ 50 (nI 0)) [] (by omega) (by omega) (RWl_FR hR f1 (by decide) (by decide)) ⟨by rw [gI_sI, if_pos rfl]; rfl, fun p x hx => by rw [List.getElem?_nil] at hx; cases hx⟩ ⟨List.nodup_nil, fun x hx => absurd hx List.not_mem_nil⟩
  refine ⟨σ1, ?_, a2, a3, FR_trans (FR_mono f1 (by decide) (by decide) (by decide) (by decide)) a4⟩
  unfold f_M_lay
  rw [Mp50 hm, bs, a1]
end MLZ
end
section
/-! isSectionNow, isInside, shortKind, isStrings of the reference -/
def isN (tb : Nat → Nat → Nat) (t w : Nat) : Bool := decide (0 < w ∧ w < oS (tb t)) && oK (tb t) w
def inN (tb : Nat → Nat → Nat) (dr : Nat → Bool) (r : px_NR) : Bool := if r.1 = 2 then true else match r.2.2.2.1 with
  | none => false
  | some q => decide (r.1 = 1 ∨ r.1 = 3) && isN tb q.1 (wNo dr q.1 (tb q.1) q.2)
def inY (tb : Nat → Nat → Nat) (dr : Nat → Bool) (xs : px_NL) (t k : Nat) : Bool := if k = 0 then false else if yB (tb t) k = 0 then isN tb t (wNo dr t (tb t) k) else match xs[plc (yT (tb t) k) (xs.map Prod.fst)]? with
  | none => false
  | some x => inN tb dr x.2
def skB (x y how : Nat) : Nat := if x = 139 ∧ (y ^^^ 5) &&& 199 = 0 then 1 else if how = 41 ∧ x = 255 then (if y = 21 then 2 else if y = 37 then 3 else 0) else 0
def skY (tb : Nat → Nat → Nat) (dr : Nat → Bool) (xs : px_NL) (t i j : Nat) : Nat := if (sH (tb t) i j = 41 ∨ sH (tb t) i j = 42) ∧ sD (tb t) i j = 18446744073709551612 ∧ 2 ≤ sL (tb t) i j ∧ inY tb dr xs t (sY (tb t) i j) = true then skB (tb t (oP (tb t) (oI (tb t) i) + sL (tb t) i j - 2)) (tb t (oP (tb t) (oI (tb t) i) + sL (tb t) i j - 1)) (sH (tb t) i j) else 0
theorem skB_3 {x y w : Nat} : skB x y w ≤ 3 := by unfold skB; repeat (first | omega | split)
theorem skY_3 {tb : Nat → Nat → Nat} {dr : Nat → Bool} {xs : px_NL} {t i j : Nat} : skY tb dr xs t i j ≤ 3 := by
  unfold skY
  split
  · exact skB_3
  · omega
section MSH
variable {F m T t o n i j w k x : Nat} {h : px_H} {σ : px_S} {b : Nat → Nat} {dr : Nat → Bool} {tb : Nat → Nat → Nat} {tO tn : Nat → Nat} {xs : px_NL}
theorem O_byte (hm : m ≤ h.length) (hb : OB σ t o n b) (hx : x < n) : xaI (mh m h σ) 0 (m + 3) (nI (o + x)) = some (gA σ 6 (o + x)) := Ma6 hm (by have := hb.2.2.1; omega)
theorem O_b8 (hb : OB σ t o n b) (hx : x < n) : b8 (gA σ 6 (o + x)) = b x := by rw [← hb.2.1, cb_at hx]
theorem O_b0 (hb : OB σ t o n b) (hx : x < n) : gA σ 6 (o + x) = 0 ↔ b x = 0 := by
  rw [← O_b8 hb hx]
  exact isB_eq (hb.2.2.2.2 _) (c := 0) (by decide)
theorem O_b255 (hb : OB σ t o n b) (hx : x < n) : gA σ 6 (o + x) &&& nI 255 = nI (b x) := by
  rw [← O_b8 hb hx]
  exact pk_and _ 8 (by decide)
theorem q_isSectionNow (hm : m ≤ h.length) (hF : 24 < F) (hb : OB σ t o n (tb t)) (hw : w < 2 ^ 31) : f_M_isSectionNow F m (nI t) (nI w) (mh m h σ) = some (bI (isN tb t w), mh m h σ) := by
  have hS := (OB_w hb).1.2.1.2
  unfold f_M_isSectionNow f_M_isSectionNow_34 f_M_isSectionNow_35 isN
  by_cases c1 : w = 0
  · rw [if_pos (by rw [c1]; decide), xz_0, decide_eq_false (by omega)] <;> rfl
  · rw [if_neg (show ¬ nI w ≤ 0 from nI_ge (a := 0) (by omega) (by omega)), e_o hm, bs, O_obj hm hb, xb_mk, e_o hm, bs, O_sec hm hF hb, xb_mk]
    by_cases c2 : oS (tb t) ≤ w
    · rw [if_pos (nI_le (by omega) (by omega)), xz_0, decide_eq_false (by omega)] <;> rfl
    · rw [if_neg (nI_ge (by omega) (by omega)), e_o hm, bs, O_obj hm hb, xb_mk, e_o hm, bs, O_kept hm hF hb (by omega), xb_mk, decide_eq_true (by omega), Bool.true_and]
      cases oK (tb t) w with
      | false => rw [if_pos (show bI false = 0 from rfl), xz_0] <;> rfl
      | true => rw [if_neg (show ¬ bI true = 0 by decide), xz_1] <;> rfl
theorem q_isInside_85 {x : List Nat × px_NR} {q : Nat × Nat} (hm : m ≤ h.length) (hF : 4096 < F) (hB : ∀ t, t < T → OB σ t (tO t) (tn t) (tb t)) (hd : RDr σ dr) (hr : RL σ xs) (hx : xs[i]? = some x) (hby : byP T tb dr x) (hq : x.2.2.2.2.1 = some q) : f_M_isInside_85 F m (nI i) (mh m h σ) = some (bI (isN tb q.1 (wNo dr q.1 (tb q.1) q.2)), mh m h σ) := by
  have hxl : xs.length ≤ 4096 := by have := hr.1.2.1; rw [List.length_map] at this; exact this
  have hi := (List.getElem?_eq_some_iff.mp hx).1
  have rr := hr.2 i x hx
  unfold byP at hby
  rw [hq] at hby
  obtain ⟨b1, b2, b3, b4, b5, b6⟩ := hby
  have hy := rr.2.2.2.1
  rw [hq] at hy
  have hy : gA σ 24 i = nI q.1 ∧ gA σ 25 i = nI q.2 := hy
  have hb := hB q.1 b1
  unfold f_M_isInside_85 f_M_isInside_121 f_M_isInside_122
  simp only [bs, Mr24 hm, Ma24 hm (show i < 4096 by omega), Mr25 hm, Ma25 hm (show i < 4096 by omega), hy.1, hy.2, e_o hm, O_wNo hm (show 24 < F by omega) hb hd b2.2, xb_mk, q_isSectionNow hm (show 24 < F by omega) hb (show wNo dr q.1 (tb q.1) q.2 < 2 ^ 31 by have := wNo_lt (k := q.2) (dr := dr) hb; omega)]
  cases isN tb q.1 (wNo dr q.1 (tb q.1) q.2) with
  | false => rw [if_pos (show bI false = 0 from rfl), xz_0] <;> rfl
  | true => rw [if_neg (show ¬ bI true = 0 by decide), xz_1] <;> rfl
theorem q_isInside (hm : m ≤ h.length) (hF : 4096 < F) (hW : WP T tb dr xs) (hR : RWd σ T tO tn tb dr xs) (ht : t < T) (hk : k < oM (tb t)) : f_M_isInside F m (nI t) (nI k) (mh m h σ) = some (bI (inY tb dr xs t k), mh m h σ) := by
  have hb := hR.1 t ht
  have hB16 := OB_yB (k := k) hb
  have hM := w2_M (OB_w hb)
  unfold f_M_isInside f_M_isInside_121 f_M_isInside_122 inY
  by_cases c0 : k = 0
  · rw [if_pos (by rw [c0]; rfl), if_pos c0]; rfl
  · rw [if_neg (show ¬ nI k = 0 from fun q => c0 ((nI_eq (b := 0) (by omega) (by decide)).mp q)), if_neg c0, e_o hm, bs, O_obj hm hb, xb_mk, e_o hm, bs, O_bind hm (by omega) hb hk, xb_mk]
    by_cases c1 : yB (tb t) k = 0
    · rw [if_pos (by rw [c1]; rfl), if_pos c1, e_o hm, bs, O_wNo hm (by omega) hb hR.2.1 hk, xb_mk, e_o hm, bs, q_isSectionNow hm (by omega) hb (by have := wNo_lt (k := k) (dr := dr) hb; omega), xb_mk]
      cases isN tb t (wNo dr t (tb t) k) with
      | false => rw [show bI false = nI 0 from rfl, xz_0] <;> rfl
      | true => rw [show bI true = nI 1 from rfl, xz_1] <;> rfl
    · obtain ⟨x, x1, x2, x3⟩ := plc_ix (hW.2.2.2.1 t k ht (by omega) hk c1)
      rw [if_neg (show ¬ nI (yB (tb t) k) = 0 from fun q => c1 ((nI_eq (b := 0) (by omega) (by decide)).mp q)), if_neg c1, e_o hm, bs, O_name hm hF hb hR.2.2 (by omega) hk c1, xb_mk, x3, x1]
      generalize plc (yT (tb t) k) (xs.map Prod.fst) = i at *
      have hxl : xs.length ≤ 4096 := by have := hR.2.2.1.2.1; rw [List.length_map] at this; exact this
      have hi := (List.getElem?_eq_some_iff.mp x1).1
      have h4 := (hW.2.1 i x x1).1
      have rr := hR.2.2.2 i x x1
      have hby := hW.2.2.1 i x x1
      have gv := q_isGiven (F := F) (σ := σ) hm hR.2.2 hW.2.1 x1 (fun q hq => by
        have := hby
        unfold byP at this
        rw [hq] at this
        have := this.1
        have := hW.1
        omega)
      show _ = some (bI (inN tb dr x.2), mh m h σ)
      rw [show tdA (some i) = nI i from rfl]
      unfold inN
      simp only [bs, Mr23 hm, Ma23 hm (show i < 4096 by omega), rr.1]
      by_cases c2 : x.2.1 = 2
      · rw [if_pos (by rw [c2]), if_pos c2]; rfl
      · rw [if_neg (fun q => c2 ((nI_eq (by omega) (by decide)).mp q)), if_neg c2]
        cases eq : x.2.2.2.2.1 with
        | none =>
          have hb0 := hby
          unfold byP at hb0
          rw [eq] at hb0
          have hb0 : x.2.1 = 0 ∨ x.2.1 = 3 ∨ x.2.1 = 4 := hb0
          rw [if_neg (fun q => by have := (nI_eq (by omega) (by decide)).mp q; omega)]
          by_cases c3 : x.2.1 = 3
          · rw [if_pos (by rw [c3]), e_o hm, bs, gv, xb_mk, eq, decide_eq_true c3, if_neg (by decide), xz_0] <;> rfl
          · rw [if_neg (fun q => c3 ((nI_eq (by omega) (by decide)).mp q)), xz_0] <;> rfl
        | some q =>
          have e85 := q_isInside_85 (F := F) hm hF hR.1 hR.2.1 hR.2.2 x1 hby eq
          by_cases c1 : x.2.1 = 1
          · rw [if_pos (by rw [c1]), e85]
            show _ = some (bI (decide (x.2.1 = 1 ∨ x.2.1 = 3) && isN tb q.1 (wNo dr q.1 (tb q.1) q.2)), _)
            rw [decide_eq_true (Or.inl c1), Bool.true_and]
          · rw [if_neg (fun q => c1 ((nI_eq (by omega) (by decide)).mp q))]
            by_cases c3 : x.2.1 = 3
            · rw [if_pos (by rw [c3]), e_o hm, bs, gv, xb_mk, eq, decide_eq_true c3, if_pos (by rfl), e85]
              show _ = some (bI (decide (x.2.1 = 1 ∨ x.2.1 = 3) && isN tb q.1 (wNo dr q.1 (tb q.1) q.2)), _)
              rw [decide_eq_true (Or.inr c3), Bool.true_and]
            · rw [if_neg (fun q => c3 ((nI_eq (by omega) (by decide)).mp q)), xz_0]
              show _ = some (bI (decide (x.2.1 = 1 ∨ x.2.1 = 3) && isN tb q.1 (wNo dr q.1 (tb q.1) q.2)), _)
              rw [decide_eq_false (fun q => q.elim c1 c3), Bool.false_and]
theorem y199 : ∀ y, y < 256 → (((nI y ^^^ nI 5) &&& nI 199 = 0) ↔ (y ^^^ 5) &&& 199 = 0) := by decide +kernel
theorem q_shortKind (hm : m ≤ h.length) (hF : 4096 < F) (hW : WP T tb dr xs) (hR : RWd σ T tO tn tb dr xs) (ht : t < T) (h1 : 1 ≤ i) (hi : i < oS (tb t)) (hs : isS (tb t) i = true) (hj : j < sN (tb t) i) : f_M_shortKind F m (nI t) (nI i) (nI j) (mh m h σ) = some (nI (skY tb dr xs t i j), mh m h σ) := by
  have hb := hR.1 t ht
  have hp := OB_sP hb h1 hi hs hj
  have he := eSit_0 hb.2.2.2.1 h1 hi hs
  have hok := sOK_0w (he.2.2.2.2.2 j hj)
  have hw := OB_w hb
  have hsH : sH (tb t) i j < 2 ^ 32 := le_lt (OB_lt hb) _ 4
  have hsD : sD (tb t) i j < 2 ^ 64 := le_lt (OB_lt hb) _ 8
  have hsL : sL (tb t) i j < 2 ^ 64 := le_lt (OB_lt hb) _ 8
  have hn := hb.2.2.1
  have e57 : (sH (tb t) i j = 41 ∨ sH (tb t) i j = 42) → f_M_shortKind_57 F m (nI t) (nI i) (nI (tO t)) (nI (tO t + sP (tb t) i j)) (lN (sH (tb t) i j)) (lN (sL (tb t) i j)) (mh m h σ) = some (nI (skY tb dr xs t i j), mh m h σ) := by
    intro c
    have hwd : wd (sH (tb t) i j) = 4 := by rcases c with c | c <;> rw [c] <;> rfl
    have h8 := hok.2.2
    rw [hwd] at h8
    obtain ⟨z1, z2⟩ : oT (tb t) (oI (tb t) i) ≠ 8 ∧ sL (tb t) i j + 4 ≤ oZ (tb t) (oI (tb t) i) := h8.elim (fun q => by omega) id
    have hK := he.2.1
    have hT0 : oT (tb t) (oI (tb t) i) ≠ 0 := by
      unfold oK at hK
      have := of_decide_eq_true hK
      omega
    have hPZ := hw.1.2.2.2.1 _ he.1 hT0 z1
    have hZ := hw.1.2.2.2.2 _ he.1 hK
    have hM := w2_M hw
    unfold f_M_shortKind_57 f_M_shortKind_103
    rw [e_o hm, bs, nI_add, O_sD hm (by omega) hb hp, xb_mk]
    unfold skY
    by_cases d1 : sD (tb t) i j = 18446744073709551612
    · rw [if_pos (show lN (sD (tb t) i j) = (-4 : Int64) by rw [d1]; decide)]
      by_cases d2 : 2 ≤ sL (tb t) i j
      · rw [if_neg (fun q => by have := (pk_lLT (a := sL (tb t) i j) (b := 2) (by omega) (by decide)).mp q; omega), e_o hm, bs, nI_add, O_sY hm (by omega) hb hp, xb_mk, lN_i, e_o hm, bs, q_isInside hm hF hW hR ht hok.2.1, xb_mk]
        cases d3 : inY tb dr xs t (sY (tb t) i j) with
        | false =>
          rw [if_pos (show bI false = 0 from rfl), if_neg (fun q => by exact nomatch q.2.2.2)]
        | true =>
          have hx1 : oP (tb t) (oI (tb t) i) + sL (tb t) i j - 2 < tn t := by omega
          have hx2 : oP (tb t) (oI (tb t) i) + sL (tb t) i j - 1 < tn t := by omega
          have l1 := OB_lt hb (oP (tb t) (oI (tb t) i) + sL (tb t) i j - 2)
          have l2 := OB_lt hb (oP (tb t) (oI (tb t) i) + sL (tb t) i j - 1)
          rw [if_neg (show ¬ bI true = 0 by decide), if_pos ⟨c, d1, d2, rfl⟩, e_o hm, bs, O_info hm (by omega) hb hi, xb_mk, lN_i, e_o hm, bs, O_beg hm (by omega) hb he.1, xb_mk, lN_i, lN_i, Mr6 hm, bs, nI_add, nI_add, pk_sub (by omega), show tO t + oP (tb t) (oI (tb t) i) + sL (tb t) i j - 2 = tO t + (oP (tb t) (oI (tb t) i) + sL (tb t) i j - 2) by omega, O_byte hm hb hx1, bs, bs, pk_sub (by omega), show tO t + oP (tb t) (oI (tb t) i) + sL (tb t) i j - 1 = tO t + (oP (tb t) (oI (tb t) i) + sL (tb t) i j - 1) by omega, O_byte hm hb hx2, bs, O_b255 hb hx1, O_b255 hb hx2]
          unfold f_M_shortKind_180 f_M_shortKind_197 f_M_shortKind_224
          generalize tb t (oP (tb t) (oI (tb t) i) + sL (tb t) i j - 2) = X at *
          generalize tb t (oP (tb t) (oI (tb t) i) + sL (tb t) i j - 1) = Y at *
          have q1 : nI X = nI 139 ↔ X = 139 := nI_eq (by omega) (by decide)
          have q2 : nI X = nI 255 ↔ X = 255 := nI_eq (by omega) (by decide)
          have q3 : nI Y = nI 21 ↔ Y = 21 := nI_eq (by omega) (by decide)
          have q4 : nI Y = nI 37 ↔ Y = 37 := nI_eq (by omega) (by decide)
          have q5 : lN (sH (tb t) i j) = (41 : Int64) ↔ sH (tb t) i j = 41 := lEQ (b := 41) (by omega) (by decide)
          have q6 := y199 Y l2
          generalize sH (tb t) i j = H at *
          unfold skB
          simp only [q1, q2, q3, q4, q5, q6]
          by_cases u1 : X = 139 <;> by_cases u2 : (Y ^^^ 5) &&& 199 = 0 <;> by_cases u3 : H = 41 <;> by_cases u4 : X = 255 <;> by_cases u5 : Y = 21 <;> by_cases u6 : Y = 37 <;> simp [u1, u2, u3, u4, u5, u6] <;> omega
      · rw [if_pos (show lN (sL (tb t) i j) < (2 : Int64) from (pk_lLT (a := sL (tb t) i j) (b := 2) (by omega) (by decide)).mpr (by omega)), if_neg (fun q => d2 q.2.2.1)]
    · rw [if_neg (show ¬ lN (sD (tb t) i j) = (-4 : Int64) from fun q => d1 ((lEQ (b := 18446744073709551612) hsD (by decide)).mp (q.trans (by decide)))), if_neg (fun q => d1 q.2.1)]
  unfold f_M_shortKind f_M_shortKind_103
  rw [e_o hm, bs, O_obj hm hb, xb_mk, e_o hm, bs, O_site hm (by omega) hb hi, xb_mk, e_o hm, bs, nI_add, O_sH hm (by omega) hb hp, xb_mk, e_o hm, bs, O_sL hm (by omega) hb hp, xb_mk]
  by_cases c1 : sH (tb t) i j = 41
  · rw [if_pos (show lN (sH (tb t) i j) = (41 : Int64) by rw [c1]; rfl), e57 (Or.inl c1)]
  · rw [if_neg (show ¬ lN (sH (tb t) i j) = (41 : Int64) from fun q => c1 ((lEQ (b := 41) (by omega) (by decide)).mp q))]
    by_cases c2 : sH (tb t) i j = 42
    · rw [if_pos (show lN (sH (tb t) i j) = (42 : Int64) by rw [c2]; rfl), e57 (Or.inr c2)]
    · rw [if_neg (show ¬ lN (sH (tb t) i j) = (42 : Int64) from fun q => c2 ((lEQ (b := 42) (by omega) (by decide)).mp q))]
      unfold skY
      rw [if_neg (fun q => q.1.elim c1 c2)]
theorem q_isShort (hm : m ≤ h.length) (hF : 4096 < F) (hW : WP T tb dr xs) (hR : RWd σ T tO tn tb dr xs) (ht : t < T) (h1 : 1 ≤ i) (hi : i < oS (tb t)) (hs : isS (tb t) i = true) (hj : j < sN (tb t) i) : f_M_isShort F m (nI t) (nI i) (nI j) (mh m h σ) = some (bI (decide (0 < skY tb dr xs t i j)), mh m h σ) := by
  have h3 := skY_3 (tb := tb) (dr := dr) (xs := xs) (t := t) (i := i) (j := j)
  unfold f_M_isShort f_M_isShort_15
  rw [e_o hm, bs, q_shortKind hm hF hW hR ht h1 hi hs hj, xb_mk]
  generalize skY tb dr xs t i j = s at *
  by_cases c : s = 0
  · rw [if_pos (by rw [c]; decide), xz_0, decide_eq_false (by omega)] <;> rfl
  · rw [if_neg (show ¬ nI s ≤ 0 from nI_ge (a := 0) (by omega) (by omega)), xz_1, decide_eq_true (by omega)] <;> rfl
end MSH
end
section
/-! slotOf, findSlots of the reference -/
def nmZ (tb : Nat → Nat → Nat) (xs : px_NL) (z : Nat) : Option Nat := if z / 2 % 64 = 0 ∨ yB (tb (z / 2 / 64)) (z / 2 % 64) = 0 then none else some (plc (yT (tb (z / 2 / 64)) (z / 2 % 64)) (xs.map Prod.fst))
/-- one slot serves both -/
def skE (tb : Nat → Nat → Nat) (xs : px_NL) (z y : Nat) : Bool := decide (y % 2 = z % 2) && (decide (nmZ tb xs y = nmZ tb xs z) && ((nmZ tb xs z).isSome || decide (y / 2 = z / 2)))
def ixB (p : Nat → Bool) : Nat → List Nat → Option Nat
  | _, [] => none
  | k, y :: l => if p y = true then some k else ixB p (k + 1) l
theorem ixB_s {p : Nat → Bool} {k y : Nat} {l : List Nat} : ixB p k (y :: l) = if p y = true then some k else ixB p (k + 1) l := rfl
theorem ixB_lt {p : Nat → Bool} : ∀ {l : List Nat} {k i : Nat}, ixB p k l = some i → k ≤ i ∧ i < k + l.length ∧ ∃ y, l[i - k]? = some y ∧ p y = true := by
  intro l
  induction l with
  | nil => intro k i h; exact nomatch h
  | cons y l ih =>
    intro k i h
    rw [ixB_s] at h
    by_cases c : p y = true
    · rw [if_pos c] at h
      have := Option.some.inj h
      rw [List.length_cons]
      refine ⟨by omega, by omega, y, ?_, c⟩
      rw [show i - k = 0 by omega]; rfl
    · rw [if_neg c] at h
      obtain ⟨h1, h2, z, h3, h4⟩ := ih h
      rw [List.length_cons]
      refine ⟨by omega, by omega, z, ?_, h4⟩
      rw [show i - k = (i - (k + 1)) + 1 by omega]; exact h3
theorem ixB_none {p : Nat → Bool} : ∀ {l : List Nat} {k : Nat}, ixB p k l = none → ∀ y, y ∈ l → p y = false := by
  intro l
  induction l with
  | nil => intro k h y hy; exact absurd hy List.not_mem_nil
  | cons x l ih =>
    intro k h y hy
    rw [ixB_s] at h
    by_cases c : p x = true
    · rw [if_pos c] at h; cases h
    · rw [if_neg c] at h
      rcases List.mem_cons.mp hy with e | e
      · rw [e]; exact Bool.eq_false_iff.mpr c
      · exact ih h y e
def sl1 (tb : Nat → Nat → Nat) (xs : px_NL) (z : Nat) (sl : List Nat) : List Nat := if (ixB (skE tb xs z) 0 sl).isSome = true then sl else sl ++ [z]
theorem skE_refl {tb : Nat → Nat → Nat} {xs : px_NL} {z : Nat} : skE tb xs z z = true := by
  unfold skE
  rw [decide_eq_true rfl, decide_eq_true rfl, decide_eq_true rfl, Bool.or_true]; rfl
def SLI (T : Nat) (tb : Nat → Nat → Nat) (sl : List Nat) : Prop := sl.Nodup ∧ ∀ z, z ∈ sl → z / 2 / 64 < T ∧ z / 2 % 64 < oM (tb (z / 2 / 64))
/-- the slots have room -/
def SLN (T : Nat) (tb : Nat → Nat → Nat) : Prop := ∀ l, SLI T tb l → l.length ≤ 2800
theorem SLI_1 {T : Nat} {tb : Nat → Nat → Nat} {xs : px_NL} {sl : List Nat} {z : Nat} (h : SLI T tb sl) (hz : z / 2 / 64 < T ∧ z / 2 % 64 < oM (tb (z / 2 / 64))) : SLI T tb (sl1 tb xs z sl) ∧ (ixB (skE tb xs z) 0 sl = none → SLI T tb (sl ++ [z])) := by
  have h2 : ixB (skE tb xs z) 0 sl = none → SLI T tb (sl ++ [z]) := fun e => by
    refine ⟨?_, fun y hy => ?_⟩
    · rw [List.nodup_append]
      exact ⟨h.1, List.nodup_cons.mpr ⟨List.not_mem_nil, List.nodup_nil⟩, fun x hx y hy e2 => by
        rw [List.mem_singleton.mp hy] at e2
        have := ixB_none e x hx
        rw [e2, skE_refl] at this
        cases this⟩
    · rcases List.mem_append.mp hy with hy | hy
      · exact h.2 y hy
      · rw [List.mem_singleton.mp hy]; exact hz
  refine ⟨?_, h2⟩
  unfold sl1
  cases e : ixB (skE tb xs z) 0 sl with
  | none => rw [if_neg (by decide)]; exact h2 e
  | some i => rw [if_pos (show (some i).isSome = true from rfl)]; exact h
def RSr (tb : Nat → Nat → Nat) (xs : px_NL) (σ : px_S) (p z : Nat) : Prop := gA σ 78 p = bI (decide (z % 2 = 1)) ∧ gA σ 75 p = tdA (nmZ tb xs z) ∧ gA σ 76 p = nI (z / 2 / 64) ∧ gA σ 77 p = nI (z / 2 % 64)
def RSl (tb : Nat → Nat → Nat) (xs : px_NL) (σ : px_S) (sl : List Nat) : Prop := gI σ 74 = nI sl.length ∧ ∀ p z, sl[p]? = some z → RSr tb xs σ p z
abbrev slA : List Nat := [75, 76, 77, 78]
theorem bI_eq {a b : Bool} : bI a = bI b ↔ a = b := by cases a <;> cases b <;> decide
theorem tdA_eq {a b : Option Nat} (ha : ∀ x, a = some x → x < 2 ^ 31) (hb : ∀ x, b = some x → x < 2 ^ 31) : tdA a = tdA b ↔ a = b := by
  constructor
  · intro e
    cases a with
    | none =>
      cases b with
      | none => rfl
      | some y =>
        have h1 : Int32.ofInt (-1) = nI y := e
        have h2 := nI_0le (hb y rfl)
        rw [← h1] at h2
        exact absurd h2 (by decide)
    | some x =>
      cases b with
      | none =>
        have h1 : nI x = Int32.ofInt (-1) := e
        have h2 := nI_0le (ha x rfl)
        rw [h1] at h2
        exact absurd h2 (by decide)
      | some y =>
        have h1 : nI x = nI y := e
        rw [(nI_eq (ha x rfl) (hb y rfl)).mp h1]
  · intro e; rw [e]
section MSL
variable {F m T t k : Nat} {h : px_H} {σ : px_S} {dr : Nat → Bool} {tb : Nat → Nat → Nat} {tO tn : Nat → Nat} {xs : px_NL} {sl : List Nat}
theorem q_slotOf_48 (hm : m ≤ h.length) (hT : T ≤ 64) (hN : SLN T tb) {z : Nat} {nm : Option Nat} (hnm : nmZ tb xs z = nm) (hz : z / 2 / 64 < T) (hxl : ∀ y x, nmZ tb xs y = some x → x < 2 ^ 31) (hs : RSl tb xs σ sl) (hI : SLI T tb sl) : ∀ (c p g : Nat), p + c = sl.length → c < g → f_M_slotOf_48 F g m (nI (z / 2 / 64)) (nI (z / 2 % 64)) (bI (decide (z % 2 = 1))) (tdA nm) (nI p) (mh m h σ) = match ixB (skE tb xs z) p (sl.drop p) with
    | some i => some (nI i, mh m h σ)
    | none => f_M_slotOf_116 F m (nI (z / 2 / 64)) (nI (z / 2 % 64)) (bI (decide (z % 2 = 1))) (tdA nm) (mh m h σ) := by
  have hl := hN sl hI
  intro c
  induction c with
  | zero =>
    intro p g hp hg
    obtain ⟨g, rfl⟩ : ∃ x, g = x + 1 := ⟨g - 1, by omega⟩
    unfold f_M_slotOf_48
    rw [Mg74 hm, bs, hs.1, if_pos (nI_le (by omega) (by omega)), List.drop_eq_nil_of_le (by omega)]
    rfl
  | succ c ih =>
    intro p g hp hg
    obtain ⟨g, rfl⟩ : ∃ x, g = x + 1 := ⟨g - 1, by omega⟩
    have hpl : p < sl.length := by omega
    have hy : sl[p]? = some sl[p] := List.getElem?_eq_getElem hpl
    rw [List.drop_eq_getElem_cons hpl, ixB_s]
    have hr := hs.2 p _ hy
    have hyI := hI.2 _ (List.getElem_mem hpl)
    generalize sl[p] = y at *
    obtain ⟨r1, r2, r3, r4⟩ := hr
    have ih := ih (p + 1) g (by omega) (by omega)
    unfold f_M_slotOf_48 f_M_slotOf_110 f_M_slotOf_107
    rw [Mg74 hm, bs, hs.1, if_neg (nI_ge (by omega) (by omega)), Mr78 hm, bs, Ma78 hm (by omega), bs, r1, nI_add, ih, Mr75 hm, bs, Ma75 hm (by omega), bs, r2, Mr76 hm, bs, Ma76 hm (by omega), bs, r3, Mr77 hm, bs, Ma77 hm (by omega), bs, r4]
    have nx : skE tb xs z y = false → (match (if skE tb xs z y = true then some p else ixB (skE tb xs z) (p + 1) (List.drop (p + 1) sl)) with
      | some i => some (nI i, mh m h σ)
      | none => f_M_slotOf_116 F m (nI (z / 2 / 64)) (nI (z / 2 % 64)) (bI (decide (z % 2 = 1))) (tdA nm) (mh m h σ)) = (match ixB (skE tb xs z) (p + 1) (List.drop (p + 1) sl) with
      | some i => some (nI i, mh m h σ)
      | none => f_M_slotOf_116 F m (nI (z / 2 / 64)) (nI (z / 2 % 64)) (bI (decide (z % 2 = 1))) (tdA nm) (mh m h σ)) := fun e => by rw [e, if_neg (by decide)]
    have yes : skE tb xs z y = true → (match (if skE tb xs z y = true then some p else ixB (skE tb xs z) (p + 1) (List.drop (p + 1) sl)) with
      | some i => some (nI i, mh m h σ)
      | none => f_M_slotOf_116 F m (nI (z / 2 / 64)) (nI (z / 2 % 64)) (bI (decide (z % 2 = 1))) (tdA nm) (mh m h σ)) = some (nI p, mh m h σ) := fun e => by rw [e, if_pos rfl]
    have es : skE tb xs z y = (decide (y % 2 = z % 2) && (decide (nmZ tb xs y = nm) && (nm.isSome || decide (y / 2 = z / 2)))) := by unfold skE; rw [hnm]
    by_cases c1 : y % 2 = z % 2
    · rw [if_pos (by rw [c1])]
      by_cases c2 : nmZ tb xs y = nm
      · rw [if_pos (by rw [c2])]
        cases nm with
        | some x =>
          rw [if_pos (show (0 : Int32) ≤ tdA (some x) from nI_0le (hxl z x hnm)), yes (by rw [es, decide_eq_true c1, decide_eq_true c2]; rfl)]
        | none =>
          rw [if_neg (show ¬ (0 : Int32) ≤ tdA none by decide)]
          by_cases c3 : y / 2 = z / 2
          · rw [if_pos (by rw [c3]), if_pos (by rw [c3]), yes (by rw [es, decide_eq_true c1, decide_eq_true c2, decide_eq_true c3]; rfl)]
          · have c4 : ¬ (y / 2 / 64 = z / 2 / 64 ∧ y / 2 % 64 = z / 2 % 64) := by omega
            rw [nx (by rw [es, decide_eq_true c1, decide_eq_true c2, decide_eq_false c3]; rfl)]
            by_cases c5 : y / 2 / 64 = z / 2 / 64
            · rw [if_pos (by rw [c5]), if_neg (fun q => c4 ⟨c5, (nI_eq (by omega) (by omega)).mp q⟩)]
            · rw [if_neg (fun q => c5 ((nI_eq (by omega) (by omega)).mp q))]
      · rw [if_neg (fun q => c2 ((tdA_eq (hxl y) (fun x hx => hxl z x (hnm.trans hx))).mp q)), nx (by rw [es, decide_eq_false c2, Bool.false_and, Bool.and_false])]
    · rw [if_neg (fun q => c1 (by have := decide_eq_decide.mp (bI_eq.mp q); omega)), nx (by rw [es, decide_eq_false c1, Bool.false_and])]
theorem q_slotOf_116 (hm : m ≤ h.length) {z : Nat} (hl : sl.length < 2800) (hs : RSl tb xs σ sl) : ∃ σ', f_M_slotOf_116 F m (nI (z / 2 / 64)) (nI (z / 2 % 64)) (bI (decide (z % 2 = 1))) (tdA (nmZ tb xs z)) (mh m h σ) = some (nI sl.length, mh m h σ') ∧ RSl tb xs σ' sl ∧ RSr tb xs σ' sl.length z ∧ FR [] [] slA [] σ σ' := by
  obtain ⟨σ1, hσ1⟩ : ∃ x, x = sA σ 78 (upd (gA σ 78) sl.length (bI (decide (z % 2 = 1)))) := ⟨_, rfl⟩
  have f1 : FR [] [] [78] [] σ σ1 := by rw [hσ1]; exact FR_A σ 78 _
  obtain ⟨σ2, hσ2⟩ : ∃ x, x = sA σ1 75 (upd (gA σ1 75) sl.length (tdA (nmZ tb xs z))) := ⟨_, rfl⟩
  have f2 : FR [] [] [75] [] σ1 σ2 := by rw [hσ2]; exact FR_A σ1 75 _
  obtain ⟨σ3, hσ3⟩ : ∃ x, x = sA σ2 76 (upd (gA σ2 76) sl.length (nI (z / 2 / 64))) := ⟨_, rfl⟩
  have f3 : FR [] [] [76] [] σ2 σ3 := by rw [hσ3]; exact FR_A σ2 76 _
  obtain ⟨σ4, hσ4⟩ : ∃ x, x = sA σ3 77 (upd (gA σ3 77) sl.length (nI (z / 2 % 64))) := ⟨_, rfl⟩
  have f4 : FR [] [] [77] [] σ3 σ4 := by rw [hσ4]; exact FR_A σ3 77 _
  have i0 := hs.1
  have i1 : gI σ1 74 = nI sl.length := (f1.1 74 (by decide)).trans i0
  have i2 : gI σ2 74 = nI sl.length := (f2.1 74 (by decide)).trans i1
  have i3 : gI σ3 74 = nI sl.length := (f3.1 74 (by decide)).trans i2
  have i4 : gI σ4 74 = nI sl.length := (f4.1 74 (by decide)).trans i3
  have g78 : gA σ4 78 = upd (gA σ 78) sl.length (bI (decide (z % 2 = 1))) := by rw [f4.2.2.1 78 (by decide), f3.2.2.1 78 (by decide), f2.2.2.1 78 (by decide), hσ1, gA_sA, if_pos rfl]
  have g75 : gA σ4 75 = upd (gA σ 75) sl.length (tdA (nmZ tb xs z)) := by rw [f4.2.2.1 75 (by decide), f3.2.2.1 75 (by decide), hσ2, gA_sA, if_pos rfl, f1.2.2.1 75 (by decide)]
  have g76 : gA σ4 76 = upd (gA σ 76) sl.length (nI (z / 2 / 64)) := by rw [f4.2.2.1 76 (by decide), hσ3, gA_sA, if_pos rfl, f2.2.2.1 76 (by decide), f1.2.2.1 76 (by decide)]
  have g77 : gA σ4 77 = upd (gA σ 77) sl.length (nI (z / 2 % 64)) := by rw [hσ4, gA_sA, if_pos rfl, f3.2.2.1 77 (by decide), f2.2.2.1 77 (by decide), f1.2.2.1 77 (by decide)]
  refine ⟨σ4, ?_, ⟨i4, fun p y hy => ?_⟩, ?_, FR_trans (FR_mono f1 (by decide) (by decide) (by decide) (by decide)) (FR_trans (FR_mono f2 (by decide) (by decide) (by decide) (by decide)) (FR_trans (FR_mono f3 (by decide) (by decide) (by decide) (by decide)) (FR_mono f4 (by decide) (by decide) (by decide) (by decide))))⟩
  · unfold f_M_slotOf_116
    rw [Mr78 hm, bs, Mg74 hm, bs, i0, show bI (decide (z % 2 = 1)) &&& 1 = bI (decide (z % 2 = 1)) by cases decide (z % 2 = 1) <;> rfl, Ms78 hm hl, bs, ← hσ1, Mr75 hm, bs, Mg74 hm, bs, i1, Ms75 hm hl, bs, ← hσ2, Mr76 hm, bs, Mg74 hm, bs, i2, Ms76 hm hl, bs, ← hσ3, Mr77 hm, bs, Mg74 hm, bs, i3, Ms77 hm hl, bs, ← hσ4, Mg74 hm, bs, i4]
  · have := (List.getElem?_eq_some_iff.mp hy).1
    unfold RSr
    rw [g78, g75, g76, g77, upd_ne (by omega), upd_ne (by omega), upd_ne (by omega), upd_ne (by omega)]
    exact hs.2 p y hy
  · unfold RSr
    rw [g78, g75, g76, g77, upd_eq, upd_eq, upd_eq, upd_eq]
    exact ⟨rfl, rfl, rfl, rfl⟩
theorem nmZ_lt (hW : WP T tb dr xs) (hR : RWd σ T tO tn tb dr xs) (y x : Nat) (h : nmZ tb xs y = some x) : x < 2 ^ 31 := by
  have hxl : xs.length ≤ 4096 := by have := hR.2.2.1.2.1; rw [List.length_map] at this; exact this
  unfold nmZ at h
  split at h
  · cases h
  · have := Option.some.inj h
    have h2 : ∀ w, plc w (xs.map Prod.fst) ≤ xs.length := by
      intro w
      unfold plc
      cases e : idx w 0 (xs.map Prod.fst) with
      | none => show (xs.map Prod.fst).length ≤ _; rw [List.length_map]; exact Nat.le_refl _
      | some i =>
        have := idx_lt e
        rw [List.length_map] at this
        show i ≤ _
        omega
    have := h2 (yT (tb (y / 2 / 64)) (y / 2 % 64))
    omega
theorem q_slotOf (hm : m ≤ h.length) (hF : 65536 < F) (hN : SLN T tb) (hW : WP T tb dr xs) (hR : RWd σ T tO tn tb dr xs) {z : Nat} (hz : z / 2 / 64 < T ∧ z / 2 % 64 < oM (tb (z / 2 / 64))) (hs : RSl tb xs σ sl) (hI : SLI T tb sl) : ∃ σ', f_M_slotOf F m (nI (z / 2 / 64)) (nI (z / 2 % 64)) (bI (decide (z % 2 = 1))) (mh m h σ) = some (nI ((ixB (skE tb xs z) 0 sl).getD sl.length), mh m h σ') ∧ RSl tb xs σ' sl ∧ (ixB (skE tb xs z) 0 sl = none → RSr tb xs σ' sl.length z) ∧ ((ixB (skE tb xs z) 0 sl).isSome = true → σ' = σ) ∧ FR [] [] slA [] σ σ' := by
  have hb := hR.1 _ hz.1
  have hM := w2_M (OB_w hb)
  have hB16 := OB_yB (k := z / 2 % 64) hb
  have e48 := q_slotOf_48 (F := F) hm hW.1 hN (nm := nmZ tb xs z) rfl hz.1 (nmZ_lt hW hR) hs hI sl.length 0 F (by omega) (by have := hN sl hI; omega)
  have e0 : f_M_slotOf F m (nI (z / 2 / 64)) (nI (z / 2 % 64)) (bI (decide (z % 2 = 1))) (mh m h σ) = f_M_slotOf_48 F F m (nI (z / 2 / 64)) (nI (z / 2 % 64)) (bI (decide (z % 2 = 1))) (tdA (nmZ tb xs z)) (nI 0) (mh m h σ) := by
    unfold f_M_slotOf f_M_slotOf_17 f_M_slotOf_22 f_M_slotOf_43 nmZ
    generalize z / 2 / 64 = t at *
    generalize z / 2 % 64 = k at *
    by_cases c0 : k = 0
    · rw [if_pos (by rw [c0]; rfl), if_neg (show ¬ nI 1 = 0 by decide), if_pos (Or.inl c0)]; rfl
    · rw [if_neg (show ¬ nI k = 0 from fun q => c0 ((nI_eq (b := 0) (by omega) (by decide)).mp q)), e_o hm, bs, O_obj hm hb, xb_mk, e_o hm, bs, O_bind hm (by omega) hb hz.2, xb_mk]
      by_cases c1 : yB (tb t) k = 0
      · rw [if_pos (by rw [c1]; rfl), if_neg (show ¬ nI 1 = 0 by decide), if_pos (Or.inr c1)]; rfl
      · obtain ⟨x, x1, x2, x3⟩ := plc_ix (hW.2.2.2.1 t k hz.1 (by omega) hz.2 c1)
        rw [if_neg (show ¬ nI (yB (tb t) k) = 0 from fun q => c1 ((nI_eq (b := 0) (by omega) (by decide)).mp q)), if_pos (show nI 0 = 0 from rfl), e_o hm, bs, O_obj hm hb, xb_mk, e_o hm, bs, O_name hm (by omega) hb hR.2.2 (by omega) hz.2 c1, xb_mk, x3, if_neg (fun q => q.elim c0 c1)]
  rw [e0, e48, List.drop_zero]
  cases e : ixB (skE tb xs z) 0 sl with
  | some i => exact ⟨σ, rfl, hs, fun q => (nomatch q), fun _ => rfl, FR_refl σ⟩
  | none =>
    have hl : sl.length < 2800 := by
      have := hN _ ((SLI_1 (xs := xs) hI hz).2 e)
      rw [List.length_append] at this
      have : sl.length + 1 ≤ 2800 := this
      omega
    obtain ⟨σ', a1, a2, a3, a4⟩ := q_slotOf_116 (F := F) (z := z) hm hl hs
    exact ⟨σ', a1, a2, fun _ => a3, fun q => (nomatch q), a4⟩
end MSL
end
section
/-! findSlots of the reference -/
def RWz (σ : px_S) (T : Nat) (tO tn : Nat → Nat) (tb : Nat → Nat → Nat) (dr : Nat → Bool) (xs : px_NL) (on : Bool) (R : Nat → Bool) : Prop := RWd σ T tO tn tb dr xs ∧ RSt σ on R ∧ gI σ 14 = nI T
theorem RWz_FR {σ σ' : px_S} {I J A B : List Nat} {T : Nat} {tO tn : Nat → Nat} {tb : Nat → Nat → Nat} {dr : Nat → Bool} {xs : px_NL} {on : Bool} {R : Nat → Bool} (h : RWz σ T tO tn tb dr xs on R) (f : FR I J A B σ σ') (hI : 20 ∉ I ∧ 14 ∉ I ∧ 68 ∉ I) (hA : ∀ k, k ∈ [6, 9, 17, 21, 22, 23, 24, 25, 26, 27, 28, 65, 66, 73] → k ∉ A) (hB : 30 ∉ B) : RWz σ' T tO tn tb dr xs on R :=
  ⟨RWd_FR h.1 f hI.1 (fun k hk => hA k (by revert k; decide)) hB, RSt_FR h.2.1 f hI.2.2 (hA 66 (by decide)), (f.1 14 hI.2.1).trans h.2.2⟩
def zOf (t k how : Nat) : Nat := 2 * (64 * t + k) + (if how = 22 then 1 else 0)
theorem zOf_2 {t k how : Nat} : zOf t k how / 2 = 64 * t + k := by unfold zOf; split <;> omega
theorem zOf_1 {t k how : Nat} : decide (zOf t k how % 2 = 1) = decide (how = 22) := by
  unfold zOf
  by_cases c : how = 22
  · rw [if_pos c]; exact decide_eq_decide.mpr ⟨fun _ => c, fun _ => by omega⟩
  · rw [if_neg c]; exact decide_eq_decide.mpr ⟨fun q => by omega, fun q => absurd q c⟩
def isSl (x : Nat) : Bool := decide (x = 9 ∨ x = 22 ∨ x = 41 ∨ x = 42)
def fsJ (tb : Nat → Nat → Nat) (dr : Nat → Bool) (xs : px_NL) (t i j : Nat) (sl : List Nat) : List Nat := if isSl (sH (tb t) i j) = true ∧ skY tb dr xs t i j = 0 then sl1 tb xs (zOf t (sY (tb t) i j) (sH (tb t) i j)) sl else sl
def fsI (tb : Nat → Nat → Nat) (dr : Nat → Bool) (xs : px_NL) (sy : Nat → Nat → Bool) (t i : Nat) (sl : List Nat) : List Nat := if isS (tb t) i = true ∧ sy t (oI (tb t) i) = true then itr (fsJ tb dr xs t i) 0 (sN (tb t) i) sl else sl
def fsT (tb : Nat → Nat → Nat) (dr : Nat → Bool) (xs : px_NL) (sy : Nat → Nat → Bool) (t : Nat) (sl : List Nat) : List Nat := itr (fsI tb dr xs sy t) 1 (oS (tb t) - 1) sl
def slL (T : Nat) (tb : Nat → Nat → Nat) (dr : Nat → Bool) (xs : px_NL) (sy : Nat → Nat → Bool) : List Nat := itr (fsT tb dr xs sy) 0 T []
section MFS
variable {F m T t i : Nat} {h : px_H} {dr : Nat → Bool} {tb : Nat → Nat → Nat} {tO tn : Nat → Nat} {xs : px_NL} {on : Bool} {R : Nat → Bool} {k2 : Nat → Int32 → px_H → Option (Unit × px_H)} {k18 : Nat → Int32 → Int32 → Int32 → px_H → Option (Unit × px_H)}
theorem q_fS_57 (hm : m ≤ h.length) (hF : 65536 < F) (hN : SLN T tb) (hW : WP T tb dr xs) (ht : t < T) (h1 : 1 ≤ i) (hi : i < oS (tb t)) (hs : isS (tb t) i = true) : ∀ (c j g : Nat) (σ : px_S) (sl : List Nat), j + c = sN (tb t) i → c < g → RWz σ T tO tn tb dr xs on R → RSl tb xs σ sl → SLI T tb sl → ∃ σ', f_M_findSlots_57 F k2 k18 g m (nI t) (nI (tO t)) (nI i) (nI j) (mh m h σ) = k18 m (nI t) (nI (tO t)) (nI (i + 1)) (mh m h σ') ∧ RSl tb xs σ' (itr (fsJ tb dr xs t i) j c sl) ∧ SLI T tb (itr (fsJ tb dr xs t i) j c sl) ∧ FR [74] [] slA [] σ σ' := by
  intro c
  induction c with
  | zero =>
    intro j g σ sl hj hg hR hS hI
    obtain ⟨g, rfl⟩ : ∃ x, g = x + 1 := ⟨g - 1, by omega⟩
    have hb := hR.1.1 t ht
    have hz := (eSit_0 hb.2.2.2.1 h1 hi hs).2.2.2.1
    have hn := hb.2.2.1
    have hsz : sN (tb t) i < 2 ^ 30 := by unfold sN; omega
    unfold f_M_findSlots_57 f_M_findSlots_175
    rw [e_o hm, bs, O_sN hm (by omega) hb h1 hi hs, xb_mk, if_pos (nI_le (by omega) (by omega)), nI_add]
    exact ⟨σ, rfl, hS, hI, FR_refl σ⟩
  | succ c ih =>
    intro j g σ sl hj hg hR hS hI
    obtain ⟨g, rfl⟩ : ∃ x, g = x + 1 := ⟨g - 1, by omega⟩
    have hb := hR.1.1 t ht
    have he := eSit_0 hb.2.2.2.1 h1 hi hs
    have hz := he.2.2.2.1
    have hn := hb.2.2.1
    have hsz : sN (tb t) i < 2 ^ 30 := by unfold sN; omega
    have hjN : j < sN (tb t) i := by omega
    have hp := OB_sP hb h1 hi hs hjN
    have hok := sOK_0w (he.2.2.2.2.2 j hjN)
    have hM := w2_M (OB_w hb)
    have hsH : sH (tb t) i j < 2 ^ 32 := le_lt (OB_lt hb) _ 4
    have step : ∀ σ1 s1, FR [74] [] slA [] σ σ1 → RSl tb xs σ1 s1 → SLI T tb s1 → fsJ tb dr xs t i j sl = s1 → ∃ σ', f_M_findSlots_57 F k2 k18 g m (nI t) (nI (tO t)) (nI i) (nI (j + 1)) (mh m h σ1) = k18 m (nI t) (nI (tO t)) (nI (i + 1)) (mh m h σ') ∧ RSl tb xs σ' (itr (fsJ tb dr xs t i) j (c + 1) sl) ∧ SLI T tb (itr (fsJ tb dr xs t i) j (c + 1) sl) ∧ FR [74] [] slA [] σ σ' := by
      intro σ1 s1 a1 a2 a3 a4
      obtain ⟨σ', j1, j2, j3, j4⟩ := ih (j + 1) g σ1 s1 (by omega) (by omega) (RWz_FR hR a1 (by decide) (by decide) (by decide)) a2 a3
      rw [itr_s, a4]
      exact ⟨σ', j1, j2, j3, FR_trans a1 j4⟩
    unfold f_M_findSlots_57 f_M_findSlots_169
    rw [e_o hm, bs, O_sN hm (by omega) hb h1 hi hs, xb_mk, if_neg (nI_ge (by omega) (by omega)), e_o hm, bs, O_site hm (by omega) hb hi, xb_mk, e_o hm, bs, nI_add, O_sH hm (by omega) hb hp, xb_mk, q_isSlotted (by omega), xb_mk, nI_add]
    have eis : isSl (sH (tb t) i j) = decide (sH (tb t) i j = 9 ∨ sH (tb t) i j = 22 ∨ sH (tb t) i j = 41 ∨ sH (tb t) i j = 42) := rfl
    rw [← eis]
    cases ei : isSl (sH (tb t) i j) with
    | false =>
      rw [if_pos (show bI false = 0 from rfl)]
      exact step σ sl (FR_refl σ) hS hI (by unfold fsJ; rw [if_neg (fun q => by rw [ei] at q; exact nomatch q.1)])
    | true =>
      rw [if_neg (show ¬ bI true = 0 by decide), e_o hm, bs, q_isShort hm (by omega) hW hR.1 ht h1 hi hs hjN, xb_mk]
      by_cases c2 : skY tb dr xs t i j = 0
      · rw [decide_eq_false (by omega), if_pos (show bI false = 0 from rfl), e_o hm, bs, O_site hm (by omega) hb hi, xb_mk, e_o hm, bs, nI_add, O_sY hm (by omega) hb hp, xb_mk, lN_i]
        have hst : fsJ tb dr xs t i j sl = sl1 tb xs (zOf t (sY (tb t) i j) (sH (tb t) i j)) sl := by unfold fsJ; rw [if_pos ⟨ei, c2⟩]
        have ez1 : zOf t (sY (tb t) i j) (sH (tb t) i j) / 2 / 64 = t := by rw [zOf_2]; omega
        have ez2 : zOf t (sY (tb t) i j) (sH (tb t) i j) / 2 % 64 = sY (tb t) i j := by rw [zOf_2]; omega
        have ez3 := zOf_1 (t := t) (k := sY (tb t) i j) (how := sH (tb t) i j)
        have hzz : zOf t (sY (tb t) i j) (sH (tb t) i j) / 2 / 64 < T ∧ zOf t (sY (tb t) i j) (sH (tb t) i j) / 2 % 64 < oM (tb (zOf t (sY (tb t) i j) (sH (tb t) i j) / 2 / 64)) := by rw [ez1, ez2]; exact ⟨ht, hok.2.1⟩
        obtain ⟨σ1, a1, a2, a3, a4, a5⟩ := q_slotOf (F := F) (h := h) (z := zOf t (sY (tb t) i j) (sH (tb t) i j)) hm hF hN hW hR.1 hzz hS hI
        rw [ez1, ez2, ez3] at a1
        have hI1 := SLI_1 (xs := xs) hI hzz
        have hl := hN sl hI
        have e141 : ∃ σ2, f_M_findSlots_141 F k2 k18 (f_M_findSlots_57 F k2 k18 g) m (nI t) (nI (tO t)) (nI i) (nI j) m (nI t) (nI (sY (tb t) i j)) (bI (decide (sH (tb t) i j = 22))) (mh m h σ) = f_M_findSlots_57 F k2 k18 g m (nI t) (nI (tO t)) (nI i) (nI (j + 1)) (mh m h σ2) ∧ RSl tb xs σ2 (sl1 tb xs (zOf t (sY (tb t) i j) (sH (tb t) i j)) sl) ∧ FR [74] [] slA [] σ σ2 := by
          unfold f_M_findSlots_141 f_M_findSlots_165 f_M_findSlots_169 sl1
          rw [e_o hm, bs, a1, xb_mk, Mg74 hm, bs, bs, a2.1, nI_add j 1]
          generalize zOf t (sY (tb t) i j) (sH (tb t) i j) = z at *
          cases e : ixB (skE tb xs z) 0 sl with
          | some p =>
            have hp := ixB_lt e
            rw [if_neg (show ¬ nI ((some p).getD sl.length) = nI sl.length from fun q => by have := (nI_eq (show p < 2 ^ 31 by omega) (by omega)).mp q; omega), nI_add sl.length 0, Mp74 hm, bs, if_pos (show (some p).isSome = true from rfl)]
            exact ⟨sI σ1 74 (nI (sl.length + 0)), rfl, ⟨by rw [gI_sI, if_pos rfl]; rfl, fun p z hz => a2.2 p z hz⟩, FR_trans (FR_mono a5 (by decide) (by decide) (by decide) (by decide)) (FR_mono (FR_I σ1 74 _) (by decide) (by decide) (by decide) (by decide))⟩
          | none =>
            rw [if_pos (show nI ((none : Option Nat).getD sl.length) = nI sl.length from rfl), nI_add sl.length 1, Mp74 hm, bs, if_neg (by decide)]
            refine ⟨sI σ1 74 (nI (sl.length + 1)), rfl, ⟨by rw [gI_sI, if_pos rfl, List.length_append]; rfl, fun p y hy => ?_⟩, FR_trans (FR_mono a5 (by decide) (by decide) (by decide) (by decide)) (FR_mono (FR_I σ1 74 _) (by decide) (by decide) (by decide) (by decide))⟩
            by_cases cp : p < sl.length
            · rw [List.getElem?_append_left cp] at hy
              exact a2.2 p y hy
            · have hl2 := (List.getElem?_eq_some_iff.mp hy).1
              rw [List.length_append] at hl2
              have hl2 : p < sl.length + 1 := hl2
              have ep : p = sl.length := by omega
              rw [ep, List.getElem?_append_right (Nat.le_refl _), Nat.sub_self] at hy
              have hy : z = y := Option.some.inj hy
              rw [ep, ← hy]
              exact a3 e
        obtain ⟨σ2, b1, b2, b3⟩ := e141
        have eif : (if lN (sH (tb t) i j) = (22 : Int64) then f_M_findSlots_141 F k2 k18 (f_M_findSlots_57 F k2 k18 g) m (nI t) (nI (tO t)) (nI i) (nI j) m (nI t) (nI (sY (tb t) i j)) (nI 1) (mh m h σ) else f_M_findSlots_141 F k2 k18 (f_M_findSlots_57 F k2 k18 g) m (nI t) (nI (tO t)) (nI i) (nI j) m (nI t) (nI (sY (tb t) i j)) (nI 0) (mh m h σ)) = f_M_findSlots_141 F k2 k18 (f_M_findSlots_57 F k2 k18 g) m (nI t) (nI (tO t)) (nI i) (nI j) m (nI t) (nI (sY (tb t) i j)) (bI (decide (sH (tb t) i j = 22))) (mh m h σ) := by
          by_cases c22 : sH (tb t) i j = 22
          · rw [if_pos (show lN (sH (tb t) i j) = (22 : Int64) by rw [c22]; rfl), decide_eq_true c22]; rfl
          · rw [if_neg (show ¬ lN (sH (tb t) i j) = (22 : Int64) from fun q => c22 ((lEQ (b := 22) (by omega) (by decide)).mp q)), decide_eq_false c22]; rfl
        rw [eif, b1]
        exact step σ2 _ b3 b2 hI1.1 hst
      · rw [decide_eq_true (by omega), if_neg (show ¬ bI true = 0 by decide)]
        exact step σ sl (FR_refl σ) hS hI (by unfold fsJ; rw [if_neg (fun q => c2 q.2)])
theorem q_fS_18 (hm : m ≤ h.length) (hF : 65536 < F) (hN : SLN T tb) (hW : WP T tb dr xs) (ht : t < T) : ∀ (c i g : Nat) (σ : px_S) (sl : List Nat), 1 ≤ i → i + c = oS (tb t) → c < g → RWz σ T tO tn tb dr xs on R → RSl tb xs σ sl → SLI T tb sl → ∃ σ', f_M_findSlots_18 F k2 g m (nI t) (nI (tO t)) (nI i) (mh m h σ) = k2 m (nI (t + 1)) (mh m h σ') ∧ RSl tb xs σ' (itr (fsI tb dr xs (sta tb dr on R) t) i c sl) ∧ SLI T tb (itr (fsI tb dr xs (sta tb dr on R) t) i c sl) ∧ FR [74] [] slA [] σ σ' := by
  intro c
  induction c with
  | zero =>
    intro i g σ sl h1 hi hg hR hS hI
    obtain ⟨g, rfl⟩ : ∃ x, g = x + 1 := ⟨g - 1, by omega⟩
    have hb := hR.1.1 t ht
    have hs24 := (OB_w hb).1.2.1.2
    unfold f_M_findSlots_18 f_M_findSlots_181
    rw [e_o hm, bs, O_sec hm (by omega) hb, xb_mk, if_pos (nI_le (by omega) (by omega)), nI_add]
    exact ⟨σ, rfl, hS, hI, FR_refl σ⟩
  | succ c ih =>
    intro i g σ sl h1 hi hg hR hS hI
    obtain ⟨g, rfl⟩ : ∃ x, g = x + 1 := ⟨g - 1, by omega⟩
    have hb := hR.1.1 t ht
    have hs24 := (OB_w hb).1.2.1.2
    have hiS : i < oS (tb t) := by omega
    have step : ∀ σ1 s1, FR [74] [] slA [] σ σ1 → RSl tb xs σ1 s1 → SLI T tb s1 → fsI tb dr xs (sta tb dr on R) t i sl = s1 → ∃ σ', f_M_findSlots_18 F k2 g m (nI t) (nI (tO t)) (nI (i + 1)) (mh m h σ1) = k2 m (nI (t + 1)) (mh m h σ') ∧ RSl tb xs σ' (itr (fsI tb dr xs (sta tb dr on R) t) i (c + 1) sl) ∧ SLI T tb (itr (fsI tb dr xs (sta tb dr on R) t) i (c + 1) sl) ∧ FR [74] [] slA [] σ σ' := by
      intro σ1 s1 a1 a2 a3 a4
      obtain ⟨σ', j1, j2, j3, j4⟩ := ih (i + 1) g σ1 s1 (by omega) (by omega) (by omega) (RWz_FR hR a1 (by decide) (by decide) (by decide)) a2 a3
      rw [itr_s, a4]
      exact ⟨σ', j1, j2, j3, FR_trans a1 j4⟩
    unfold f_M_findSlots_18 f_M_findSlots_175
    rw [e_o hm, bs, O_sec hm (by omega) hb, xb_mk, if_neg (nI_ge (by omega) (by omega)), e_o hm, bs, O_isS hm (by omega) hb hiS, xb_mk, nI_add]
    cases es : isS (tb t) i with
    | false =>
      rw [if_pos (show bI false = 0 from rfl)]
      exact step σ sl (FR_refl σ) hS hI (by unfold fsI; rw [if_neg (fun q => by rw [es] at q; exact nomatch q.1)])
    | true =>
      have he := eSit_0 hb.2.2.2.1 h1 hiS es
      rw [if_neg (show ¬ bI true = 0 by decide), e_o hm, bs, O_info hm (by omega) hb hiS, xb_mk, lN_i, e_o hm, bs, q_stays hm (by omega) hb hR.1.2.1 hR.2.1 he.1, xb_mk]
      cases er : sta tb dr on R t (oI (tb t) i) with
      | false =>
        rw [if_pos (show bI false = 0 from rfl)]
        exact step σ sl (FR_refl σ) hS hI (by unfold fsI; rw [if_neg (fun q => by rw [er] at q; exact nomatch q.2)])
      | true =>
        rw [if_neg (show ¬ bI true = 0 by decide)]
        have hz := he.2.2.2.1
        have hn := hb.2.2.1
        have hsz : sN (tb t) i < 65536 := by unfold sN; omega
        obtain ⟨σ1, b1, b2, b3, b4⟩ := q_fS_57 (F := F) (k2 := k2) (k18 := f_M_findSlots_18 F k2 g) (σ := σ) (sl := sl) hm hF hN hW ht h1 hiS es (sN (tb t) i) 0 F (by omega) (by omega) hR hS hI
        rw [b1]
        exact step σ1 _ b4 b2 b3 (by unfold fsI; rw [if_pos ⟨es, er⟩])
theorem q_fS_2 (hm : m ≤ h.length) (hF : 65536 < F) (hN : SLN T tb) (hW : WP T tb dr xs) : ∀ (c t g : Nat) (σ : px_S) (sl : List Nat), t + c = T → c < g → RWz σ T tO tn tb dr xs on R → RSl tb xs σ sl → SLI T tb sl → ∃ σ', f_M_findSlots_2 F g m (nI t) (mh m h σ) = some ((), mh m h σ') ∧ RSl tb xs σ' (itr (fsT tb dr xs (sta tb dr on R)) t c sl) ∧ SLI T tb (itr (fsT tb dr xs (sta tb dr on R)) t c sl) ∧ FR [74] [] slA [] σ σ' := by
  have hT := hW.1
  intro c
  induction c with
  | zero =>
    intro t g σ sl ht hg hR hS hI
    obtain ⟨g, rfl⟩ : ∃ x, g = x + 1 := ⟨g - 1, by omega⟩
    unfold f_M_findSlots_2 f_M_findSlots_187
    rw [Mg14 hm, bs, hR.2.2, if_pos (nI_le (by omega) (by omega))]
    exact ⟨σ, rfl, hS, hI, FR_refl σ⟩
  | succ c ih =>
    intro t g σ sl ht hg hR hS hI
    obtain ⟨g, rfl⟩ : ∃ x, g = x + 1 := ⟨g - 1, by omega⟩
    have hb := hR.1.1 t (by omega)
    have hs24 := (OB_w hb).1.2.1
    obtain ⟨σ1, a1, a2, a3, a4⟩ := q_fS_18 (F := F) (k2 := f_M_findSlots_2 F g) (t := t) hm hF hN hW (by omega) (oS (tb t) - 1) 1 F σ sl (by omega) (by omega) (by omega) hR hS hI
    unfold f_M_findSlots_2
    rw [Mg14 hm, bs, hR.2.2, if_neg (nI_ge (by omega) (by omega)), e_o hm, bs, O_obj hm hb, xb_mk, a1, itr_s]
    obtain ⟨σ2, b1, b2, b3, b4⟩ := ih (t + 1) g σ1 _ (by omega) (by omega) (RWz_FR hR a4 (by decide) (by decide) (by decide)) a2 a3
    exact ⟨σ2, b1, b2, b3, FR_trans a4 b4⟩
theorem q_findSlots {σ : px_S} (hm : m ≤ h.length) (hF : 65536 < F) (hN : SLN T tb) (hW : WP T tb dr xs) (hR : RWz σ T tO tn tb dr xs on R) (h74 : gI σ 74 = nI 0) : ∃ σ', f_M_findSlots F m (mh m h σ) = some ((), mh m h σ') ∧ RSl tb xs σ' (slL T tb dr xs (sta tb dr on R)) ∧ SLI T tb (slL T tb dr xs (sta tb dr on R)) ∧ FR [74] [] slA [] σ σ' := by
  have hT := hW.1
  exact q_fS_2 hm hF hN hW T 0 F σ [] (by omega) (by omega) hR ⟨h74, fun p z hz => by rw [List.getElem?_nil] at hz; cases hz⟩ ⟨List.nodup_nil, fun z hz => absurd hz List.not_mem_nil⟩
end MFS
end
section
/-! isStrings of the reference -/
/-- sites are for section i -/
def sFor (b : Nat → Nat) (i a : Nat) : Bool := decide (oT b a = 4 ∧ oI b a = i)
/-- a strings' section -/
def oStw (b : Nat → Nat) (i : Nat) : Bool := decide (oK b i = true ∧ oG b i = 1 ∧ oF b i &&& 48 = 48 ∧ oA b i < 2 ∧ 0 < oZ b i ∧ b (oP b i + oZ b i - 1) = 0) && !ex1 (sFor b i) 1 (oS b - 1)
theorem oStw_k {b : Nat → Nat} {i : Nat} (h : oStw b i = true) : oK b i = true ∧ oG b i = 1 ∧ 0 < oZ b i ∧ b (oP b i + oZ b i - 1) = 0 := by
  unfold oStw at h
  rw [Bool.and_eq_true] at h
  have := of_decide_eq_true h.1
  exact ⟨this.1, this.2.1, this.2.2.2.2.1, this.2.2.2.2.2⟩
theorem oK_in {b : Nat → Nat} {n i : Nat} (hw : w1 b n) (hi : i < oS b) (hk : oK b i = true) (hg : oG b i = 1) : oP b i + oZ b i ≤ n ∧ oZ b i ≤ 16384 := by
  have h8 : oT b i ≠ 8 := fun e => by
    unfold oG at hg
    rw [if_pos e] at hg
    split at hg
    · cases hg
    · cases hg
  have h0 : oT b i ≠ 0 := fun e => by
    unfold oK at hk
    have := of_decide_eq_true hk
    omega
  exact ⟨hw.2.2.2.1 i hi h0 h8, hw.2.2.2.2 i hi hk⟩
section MIS
variable {F m t o n i : Nat} {h : px_H} {σ : px_S} {b : Nat → Nat}
theorem q_iS_113 (hm : m ≤ h.length) (hF : 24 < F) (hb : OB σ t o n b) (hi : i < oS b) : ∀ (c a g : Nat), 1 ≤ a → a + c = oS b → c < g → f_M_isStrings_113 F g m (nI o) (nI i) (nI a) (mh m h σ) = some (bI (!ex1 (sFor b i) a c), mh m h σ) := by
  have hS := (OB_w hb).1.2.1.2
  intro c
  induction c with
  | zero =>
    intro a g h1 ha hg
    obtain ⟨g, rfl⟩ : ∃ x, g = x + 1 := ⟨g - 1, by omega⟩
    unfold f_M_isStrings_113 f_M_isStrings_158
    rw [e_o hm, bs, O_sec hm hF hb, xb_mk, if_pos (nI_le (by omega) (by omega))]
    rfl
  | succ c ih =>
    intro a g h1 ha hg
    obtain ⟨g, rfl⟩ : ∃ x, g = x + 1 := ⟨g - 1, by omega⟩
    have haS : a < oS b := by omega
    have eT : oT b a < 2 ^ 32 := le_lt (OB_lt hb) _ 4
    have eI : oI b a < 2 ^ 32 := le_lt (OB_lt hb) _ 4
    have ih := ih (a + 1) g (by omega) (by omega) (by omega)
    unfold f_M_isStrings_113 f_M_isStrings_152 f_M_isStrings_150
    rw [e_o hm, bs, O_sec hm hF hb, xb_mk, if_neg (nI_ge (by omega) (by omega)), e_o hm, bs, O_type hm hF hb haS, xb_mk, nI_add, ex1_s]
    by_cases c1 : oT b a = 4
    · rw [if_pos (show lN (oT b a) = (4 : Int64) by rw [c1]; rfl), e_o hm, bs, O_info hm hF hb haS, xb_mk, nI_l (by omega)]
      by_cases c2 : oI b a = i
      · rw [if_pos (by rw [c2]), show sFor b i a = true from decide_eq_true ⟨c1, c2⟩]; rfl
      · rw [if_neg (fun q => c2 ((lEQ (by omega) (by omega)).mp q)), show sFor b i a = false from decide_eq_false (fun q => c2 q.2), Bool.false_or, ih]
    · rw [if_neg (show ¬ lN (oT b a) = (4 : Int64) from fun q => c1 ((lEQ (b := 4) (by omega) (by decide)).mp q)), show sFor b i a = false from decide_eq_false (fun q => c1 q.1), Bool.false_or, ih]
theorem eObj_T0 {b : Nat → Nat} {n : Nat} (h : eObj b n = 0) : oT b 0 = 0 := by
  unfold eObj at h
  split at h
  · cases h
  · split at h
    · cases h
    · rename_i c
      by_cases e : 1 ≤ oS b ∧ oS b ≤ 24 ∧ oR b + 64 * oS b ≤ n ∧ oT b 0 = 0
      · exact e.2.2.2
      · exact absurd e c
theorem oStw_eq {b : Nat → Nat} {n i : Nat} (h : eObj b n = 0) (hi : i < oS b) : oStw b i = oStr b i := by
  have e1 : decide (oK b i = true ∧ oG b i = 1 ∧ oF b i &&& 48 = 48 ∧ oA b i < 2 ∧ 0 < oZ b i ∧ b (oP b i + oZ b i - 1) = 0) = oStr0 b i := by
    unfold oStr0
    refine decide_eq_decide.mpr ⟨fun q => ⟨q.1, q.2.1, q.2.2.1, by have := q.2.2.2.1; omega, q.2.2.2.2.1, q.2.2.2.2.2⟩, fun q => ⟨q.1, q.2.1, q.2.2.1, by have := q.2.2.2.1; omega, q.2.2.2.2.1, q.2.2.2.2.2⟩⟩
  unfold oStw oStr
  rw [e1]
  cases e0 : oStr0 b i with
  | false => rfl
  | true =>
    rw [Bool.true_and, Bool.true_and]
    have hk : oK b i = true := by
      unfold oStr0 at e0
      exact (of_decide_eq_true e0).1
    have h0 := eObj_T0 h
    have key : ex1 (sFor b i) 1 (oS b - 1) = false ↔ al (fun a => !(isS b a && decide (oI b a = i))) 0 (oS b) = true := by
      rw [Bool.eq_false_iff, al_iffw, ne_eq, ex1_iff]
      constructor
      · intro hh a _ ha
        by_cases c : isS b a = true ∧ oI b a = i
        · exfalso
          apply hh
          have c1 := c.1
          unfold isS at c1
          have c1 := of_decide_eq_true c1
          refine ⟨a, ?_, by omega, decide_eq_true ⟨c1.1, c.2⟩⟩
          by_cases ca : a = 0
          · rw [ca, h0] at c1; exact absurd c1.1 (by decide)
          · omega
        · by_cases c3 : isS b a = true
          · rw [c3, decide_eq_false (fun q => c ⟨c3, q⟩)]; rfl
          · rw [Bool.eq_false_iff.mpr c3]; rfl
      · rintro hh ⟨a, a1, a2, a3⟩
        have a3 := of_decide_eq_true a3
        have := hh a (Nat.zero_le _) (by omega)
        have hs : isS b a = true := decide_eq_true ⟨a3.1, by rw [a3.2]; exact hi, by rw [a3.2]; exact hk⟩
        rw [hs, decide_eq_true a3.2] at this
        cases this
    cases e2 : ex1 (sFor b i) 1 (oS b - 1) with
    | false => rw [key.mp e2]; rfl
    | true =>
      cases e3 : al (fun a => !(isS b a && decide (oI b a = i))) 0 (oS b) with
      | false => rfl
      | true => rw [key.mpr e3] at e2; cases e2
theorem q_isStringw (hm : m ≤ h.length) (hF : 24 < F) (hb : OB σ t o n b) (hi : i < oS b) : f_M_isStrings F m (nI o) (nI i) (mh m h σ) = some (bI (oStw b i), mh m h σ) := by
  have hw := OB_w hb
  have hS := hw.1.2.1.2
  have eF : oF b i < 2 ^ 64 := le_lt (OB_lt hb) _ 8
  have eA : oA b i < 2 ^ 64 := le_lt (OB_lt hb) _ 8
  have eZ : oZ b i < 2 ^ 64 := le_lt (OB_lt hb) _ 8
  have eG : oG b i ≤ 5 := by unfold oG; repeat (first | omega | split)
  have hn := hb.2.2.1
  have no : ¬ (oK b i = true ∧ oG b i = 1 ∧ oF b i &&& 48 = 48 ∧ oA b i < 2 ∧ 0 < oZ b i ∧ b (oP b i + oZ b i - 1) = 0) → (some (nI 0, mh m h σ) : Option (Int32 × px_H)) = some (bI (oStw b i), mh m h σ) := fun c => by unfold oStw; rw [decide_eq_false c]; rfl
  have e76 : f_M_isStrings_76 F m (nI o) (nI i) (nI 0) (mh m h σ) = some (nI 0, mh m h σ) := by
    unfold f_M_isStrings_76 f_M_isStrings_108
    rw [if_pos (show nI 0 = 0 from rfl)]
  unfold f_M_isStrings f_M_isStrings_75
  rw [e_o hm, bs, O_kept hm hF hb hi, xb_mk, e76]
  cases ek : oK b i with
  | false => rw [if_pos (show bI false = 0 from rfl)]; exact no (fun q => by rw [ek] at q; exact nomatch q.1)
  | true =>
    rw [if_neg (show ¬ bI true = 0 by decide), e_o hm, bs, O_group hm hF hb hi, xb_mk]
    by_cases c1 : oG b i = 1
    · rw [if_pos (by rw [c1]), e_o hm, bs, O_flags hm hF hb hi, xb_mk, show (48 : Int64) = lN 48 from rfl, wb_and eF (show 48 < 2 ^ 64 by decide)]
      by_cases c2 : oF b i &&& 48 = 48
      · rw [if_pos (by rw [c2]), e_o hm, bs, O_align hm hF hb hi, xb_mk]
        have hPZ := oK_in hw.1 hi ek c1
        by_cases c3 : oA b i < 2
        · rw [if_neg (show ¬ (2 : Int64) ≤ lN (oA b i) from fun q => by have := (pk_lLE (a := 2) (b := oA b i) (by decide) (by omega)).mp q; omega), e_o hm, bs, O_align hm hF hb hi, xb_mk, if_neg (show ¬ lN (oA b i) < lN 0 from fun q => by have := (pk_lLT (a := oA b i) (b := 0) (by omega) (by decide)).mp q; omega), e_o hm, bs, O_size hm hF hb hi, xb_mk]
          by_cases c4 : 0 < oZ b i
          · rw [if_neg (show ¬ lN (oZ b i) ≤ lN 0 from fun q => by have := (pk_lLE (a := oZ b i) (b := 0) (by omega) (by decide)).mp q; omega)]
            unfold f_M_isStrings_76 f_M_isStrings_108
            have hx : oP b i + oZ b i - 1 < n := by omega
            rw [if_neg (show ¬ nI 1 = 0 by decide), Mr6 hm, bs, e_o hm, bs, O_beg hm hF hb hi, xb_mk, e_o hm, bs, O_size hm hF hb hi, xb_mk, lN_i, lN_i, nI_add, nI_add, pk_sub (by omega), show o + oP b i + oZ b i - 1 = o + (oP b i + oZ b i - 1) by omega, O_byte hm hb hx, bs]
            by_cases c5 : b (oP b i + oZ b i - 1) = 0
            · rw [if_pos ((O_b0 hb hx).mpr c5), q_iS_113 hm hF hb hi (oS b - 1) 1 F (by omega) (by omega) (by omega)]
              unfold oStw
              rw [decide_eq_true ⟨ek, c1, c2, c3, c4, c5⟩, Bool.true_and]
            · rw [if_neg (fun q => c5 ((O_b0 hb hx).mp q))]
              exact no (fun q => c5 q.2.2.2.2.2)
          · rw [if_pos (show lN (oZ b i) ≤ lN 0 by rw [show oZ b i = 0 by omega]; decide)]
            exact no (fun q => c4 q.2.2.2.2.1)
        · have nn := no (fun q => c3 q.2.2.2.1)
          by_cases c6 : (2 : Int64) ≤ lN (oA b i)
          · rw [if_pos c6]; exact nn
          · rw [if_neg c6, e_o hm, bs, O_align hm hF hb hi, xb_mk, if_pos (show lN (oA b i) < lN 0 by
              have hA : ¬ oA b i < 2 ^ 63 := fun q => c6 ((pk_lLE (a := 2) (b := oA b i) (by decide) q).mpr (by omega))
              rw [Int64.lt_iff_toInt_lt, lN_ti eA, lN_ti (show 0 < 2 ^ 64 by decide), if_neg hA, if_pos (by decide)]
              omega)]
            exact nn
      · rw [if_neg (fun q => c2 ((lEQ (Nat.lt_of_le_of_lt Nat.and_le_right (by decide)) (by decide)).mp q))]
        exact no (fun q => c2 q.2.2.1)
    · rw [if_neg (fun q => c1 ((nI_eq (by omega) (by decide)).mp q))]
      exact no (fun q => c1 q.2.1)
theorem q_isStrings (hm : m ≤ h.length) (hF : 24 < F) (hb : OB σ t o n b) (hi : i < oS b) : f_M_isStrings F m (nI o) (nI i) (mh m h σ) = some (bI (oStr b i), mh m h σ) := by
  rw [q_isStringw hm hF hb hi, oStw_eq hb.2.2.2.1 hi]
end MIS
end
section
/-! the reference's tree of strings' ends -/
def byt (c : Nat) : Int32 := (nI c).toInt8.toInt32
theorem byt_eq {a b : Nat} (ha : a < 256) (hb : b < 256) : byt a = byt b ↔ a = b := byte_inj ha hb
def hdT (u : List Nat) : Option (List Nat) → Bool
  | some (_ :: v) => decide (v = u)
  | _ => false
/-- node k is a child of the node of u -/
def chB (nd : List (List Nat)) (u : List Nat) : Nat → Bool
  | 0 => false
  | k + 1 => hdT u nd[k]?
theorem chB_s {nd : List (List Nat)} {u : List Nat} {k : Nat} : chB nd u (k + 1) = hdT u nd[k]? := rfl
theorem chB_iff {nd : List (List Nat)} {u : List Nat} {k : Nat} : chB nd u (k + 1) = true ↔ ∃ c, nd[k]? = some (c :: u) := by
  rw [chB_s]
  cases e : nd[k]? with
  | none => exact ⟨fun q => (nomatch q), fun ⟨c, q⟩ => (nomatch q)⟩
  | some w =>
    cases w with
    | nil => exact ⟨fun q => (nomatch q), fun ⟨c, q⟩ => by have := Option.some.inj q; cases this⟩
    | cons c v =>
      show decide (v = u) = true ↔ _
      rw [decide_eq_true_iff]
      exact ⟨fun q => ⟨c, by rw [q]⟩, fun ⟨c', q⟩ => by have := Option.some.inj q; injection this⟩
/-- the last child of u below lim -/
def lst (nd : List (List Nat)) (u : List Nat) : Nat → Nat
  | 0 => 0
  | lim + 1 => if chB nd u lim = true then lim else lst nd u lim
theorem lst_s {nd : List (List Nat)} {u : List Nat} {lim : Nat} : lst nd u (lim + 1) = if chB nd u lim = true then lim else lst nd u lim := rfl
theorem lst_le {nd : List (List Nat)} {u : List Nat} : ∀ lim, lst nd u lim ≤ lim := by
  intro lim
  induction lim with
  | zero => exact Nat.le_refl _
  | succ n ih => rw [lst_s]; split <;> omega
theorem lst_app {nd : List (List Nat)} {u w : List Nat} : ∀ lim, lim ≤ nd.length + 1 → lst (nd ++ [w]) u lim = lst nd u lim := by
  intro lim
  induction lim with
  | zero => intro _; rfl
  | succ n ih =>
    intro h
    rw [lst_s, lst_s, ih (by omega)]
    have e : chB (nd ++ [w]) u n = chB nd u n := by
      cases n with
      | zero => rfl
      | succ n =>
        rw [chB_s, chB_s, List.getElem?_append_left (by omega)]
    rw [e]
/-- the node of w, 0 without one -/
def nIx (nd : List (List Nat)) (w : List Nat) : Nat := match idx w 0 nd with
  | none => 0
  | some i => i + 1
theorem idx_nd {nd : List (List Nat)} {w : List Nat} {i : Nat} (hd : nd.Nodup) (h : nd[i]? = some w) : idx w 0 nd = some i := by
  obtain ⟨j, hj⟩ := Option.isSome_iff_exists.mp (idx_mem (k := 0) h)
  have h1 := idx_some hj
  rw [Nat.sub_zero] at h1
  have l1 := (List.getElem?_eq_some_iff.mp h).1
  have l2 := (List.getElem?_eq_some_iff.mp h1).1
  have e1 := (List.getElem?_eq_some_iff.mp h).2
  have e2 := (List.getElem?_eq_some_iff.mp h1).2
  have : j = i := (List.getElem_inj hd (h₀ := l2) (h₁ := l1)).mp (e2.trans e1.symm)
  rw [hj, this]
/-- the tree, as the reference's rows have it -/
def TR (σ : px_S) (nd : List (List Nat)) : Prop := gI σ 89 = nI (nd.length + 1) ∧ nd[0]? = some [] ∧ nd.Nodup ∧ (∀ s, s ∈ nd → ∀ x, x ∈ s → x < 256) ∧ (∀ c v, c :: v ∈ nd → v ∈ nd) ∧ ∀ k u, nd[k]? = some u → gA σ 92 (k + 1) = nI (lst nd u (nd.length + 1)) ∧ ∀ c v, u = c :: v → gA σ 95 (k + 1) = byt c ∧ gA σ 93 (k + 1) = nI (lst nd v (k + 1))
abbrev trA : List Nat := [92, 93, 94, 95]
section MTR
variable {F m : Nat} {h : px_H} {σ : px_S} {nd : List (List Nat)} {u : List Nat} {c0 node : Nat} {mk : Int32}
theorem q_cO_8 (hm : m ≤ h.length) (ht : TR σ nd) (hN : nd.length ≤ 65538) (hc : c0 < 256) : ∀ (lim g : Nat), lim ≤ nd.length + 1 → lim < g → f_M_childOf_8 F g m (nI node) (byt c0) mk (nI (lst nd u lim)) (mh m h σ) = f_M_childOf_36 F m (nI node) (byt c0) mk (nI (if nIx nd (c0 :: u) < lim then nIx nd (c0 :: u) else 0)) (mh m h σ) := by
  obtain ⟨t1, t2, t3, t4, t5, t6⟩ := ht
  intro lim
  induction lim with
  | zero =>
    intro g _ hg
    obtain ⟨g, rfl⟩ : ∃ x, g = x + 1 := ⟨g - 1, by omega⟩
    unfold f_M_childOf_8
    rw [if_neg (Nat.not_lt_zero _)]
    exact if_pos (show nI 0 ≤ 0 by decide)
  | succ k ih =>
    intro g hl hg
    rw [lst_s]
    by_cases c1 : chB nd u k = true
    · rw [if_pos c1]
      cases k with
      | zero => exact nomatch c1
      | succ k =>
        obtain ⟨c, hk⟩ := chB_iff.mp c1
        obtain ⟨g, rfl⟩ : ∃ x, g = x + 1 := ⟨g - 1, by omega⟩
        have hkl := (List.getElem?_eq_some_iff.mp hk).1
        have r := (t6 k _ hk).2 c u rfl
        have hc2 : c < 256 := t4 _ (List.mem_of_getElem? hk) c List.mem_cons_self
        unfold f_M_childOf_8
        rw [if_neg (show ¬ nI (k + 1) ≤ 0 from nI_ge (a := 0) (by omega) (by omega)), Mr95 hm, bs, Ma95 hm (by omega), bs, r.1]
        by_cases c2 : c = c0
        · rw [if_pos (by rw [c2])]
          have e : nIx nd (c0 :: u) = k + 1 := by unfold nIx; rw [idx_nd t3 (by rw [← c2]; exact hk)]
          rw [e, if_pos (by omega)]
        · rw [if_neg (fun q => c2 ((byt_eq hc2 hc).mp q)), Mr93 hm, bs, Ma93 hm (by omega), bs, r.2, ih g (by omega) (by omega)]
          have e : (nIx nd (c0 :: u) < k + 1) ↔ (nIx nd (c0 :: u) < k + 1 + 1) := by
            constructor
            · intro q; omega
            · intro q
              have : nIx nd (c0 :: u) ≠ k + 1 := fun e => by
                unfold nIx at e
                cases e2 : idx (c0 :: u) 0 nd with
                | none => rw [e2] at e; exact absurd e (by show ¬ (0 = k + 1); omega)
                | some i =>
                  rw [e2] at e
                  have e : i + 1 = k + 1 := e
                  have e3 := idx_some e2
                  rw [Nat.sub_zero, show i = k by omega, hk] at e3
                  have := Option.some.inj e3
                  injection this with e4
                  exact c2 e4
              omega
          by_cases c3 : nIx nd (c0 :: u) < k + 1
          · rw [if_pos c3, if_pos (e.mp c3)]
          · rw [if_neg c3, if_neg (fun q => c3 (e.mpr q))]
    · rw [if_neg c1, ih g (by omega) (by omega)]
      have : nIx nd (c0 :: u) ≠ k ∨ nIx nd (c0 :: u) = 0 := by
        by_cases e : nIx nd (c0 :: u) = k
        · right
          unfold nIx at e ⊢
          cases e2 : idx (c0 :: u) 0 nd with
          | none => rfl
          | some i =>
            rw [e2] at e
            have e : i + 1 = k := e
            have e3 := idx_some e2
            rw [Nat.sub_zero] at e3
            exact absurd (by rw [← e]; exact chB_iff.mpr ⟨c0, e3⟩) c1
        · exact Or.inl e
      by_cases c3 : nIx nd (c0 :: u) < k
      · rw [if_pos c3, if_pos (by omega)]
      · rw [if_neg c3]
        by_cases c4 : nIx nd (c0 :: u) < k + 1
        · rw [if_pos c4]
          rcases this with e | e
          · omega
          · rw [e]
        · rw [if_neg c4]
theorem nIx_lt {w : List Nat} : nIx nd w < nd.length + 1 := by
  unfold nIx
  cases e : idx w 0 nd with
  | none => exact Nat.zero_lt_succ _
  | some i => have := idx_lt e; show i + 1 < _; omega
/-- what a new node needs -/
theorem q_childOf (hm : m ≤ h.length) (hF : 65540 < F) (ht : TR σ nd) (hN : nd.length ≤ 65536) (hc : c0 < 256) {k : Nat} (hk : nd[k]? = some u) (hmk : mk = nI 1 ∨ (mk = nI 0 ∧ c0 :: u ∈ nd)) : ∃ σ', f_M_childOf F m (nI (k + 1)) (byt c0) mk (mh m h σ) = some (nI (plc (c0 :: u) nd + 1), mh m h σ') ∧ TR σ' (ent (c0 :: u) nd) ∧ (c0 :: u ∈ nd → σ' = σ) ∧ (c0 :: u ∉ nd → gA σ' 94 = upd (gA σ 94) (nd.length + 1) (Int32.ofInt (-1))) ∧ FR [89] [] trA [] σ σ' := by
  have ht0 := ht
  obtain ⟨t1, t2, t3, t4, t5, t6⟩ := ht
  have hkl := (List.getElem?_eq_some_iff.mp hk).1
  have e8 := q_cO_8 (F := F) (h := h) (u := u) (node := k + 1) (mk := mk) hm ht0 (by omega) hc (nd.length + 1) F (Nat.le_refl _) (by omega)
  unfold f_M_childOf
  rw [Mr92 hm, bs, Ma92 hm (by omega), bs, (t6 k u hk).1, e8, if_pos nIx_lt]
  by_cases c1 : c0 :: u ∈ nd
  · obtain ⟨i, hi⟩ := Option.isSome_iff_exists.mp (idx_iff.mpr c1)
    have e1 : nIx nd (c0 :: u) = i + 1 := by unfold nIx; rw [hi]
    have e2 : plc (c0 :: u) nd = i := by unfold plc; rw [hi]; rfl
    have e3 : ent (c0 :: u) nd = nd := by unfold ent; rw [if_pos (idx_iff.mpr c1)]
    have := idx_lt hi
    unfold f_M_childOf_36 f_M_childOf_45
    rw [e1, e2, e3, if_pos (show (0 : Int32) < nI (i + 1) from nI_lt (a := 0) (by omega) (by omega))]
    exact ⟨σ, rfl, ht0, fun _ => rfl, fun q => absurd c1 q, FR_refl σ⟩
  · have hi : idx (c0 :: u) 0 nd = none := by
      cases e : idx (c0 :: u) 0 nd with
      | none => rfl
      | some i => exact absurd (idx_iff.mp (by rw [e]; rfl)) c1
    have e1 : nIx nd (c0 :: u) = 0 := by unfold nIx; rw [hi]
    have e2 : plc (c0 :: u) nd = nd.length := by unfold plc; rw [hi]; rfl
    have e3 : ent (c0 :: u) nd = nd ++ [c0 :: u] := by unfold ent; rw [if_neg (by rw [hi]; decide)]
    have hmk1 : mk = nI 1 := hmk.elim id (fun q => absurd q.2 c1)
    have hcB : isB (byt c0) := isB_n8 c0 hc
    rw [e1, e2, e3, hmk1]
    obtain ⟨σ1, hσ1⟩ : ∃ x, x = sA σ 95 (upd (gA σ 95) (nd.length + 1) (byt c0)) := ⟨_, rfl⟩
    have f1 : FR [] [] [95] [] σ σ1 := by rw [hσ1]; exact FR_A σ 95 _
    obtain ⟨σ2, hσ2⟩ : ∃ x, x = sA σ1 92 (upd (gA σ1 92) (nd.length + 1) (nI 0)) := ⟨_, rfl⟩
    have f2 : FR [] [] [92] [] σ1 σ2 := by rw [hσ2]; exact FR_A σ1 92 _
    obtain ⟨σ3, hσ3⟩ : ∃ x, x = sA σ2 94 (upd (gA σ2 94) (nd.length + 1) (Int32.ofInt (-1))) := ⟨_, rfl⟩
    have f3 : FR [] [] [94] [] σ2 σ3 := by rw [hσ3]; exact FR_A σ2 94 _
    have g92a : gA σ3 92 = upd (gA σ 92) (nd.length + 1) (nI 0) := by rw [f3.2.2.1 92 (by decide), hσ2, gA_sA, if_pos rfl, f1.2.2.1 92 (by decide)]
    have r92 : gA σ3 92 (k + 1) = nI (lst nd u (nd.length + 1)) := by rw [g92a, upd_ne (by omega)]; exact (t6 k u hk).1
    obtain ⟨σ4, hσ4⟩ : ∃ x, x = sA σ3 93 (upd (gA σ3 93) (nd.length + 1) (nI (lst nd u (nd.length + 1)))) := ⟨_, rfl⟩
    have f4 : FR [] [] [93] [] σ3 σ4 := by rw [hσ4]; exact FR_A σ3 93 _
    obtain ⟨σ5, hσ5⟩ : ∃ x, x = sA σ4 92 (upd (gA σ4 92) (k + 1) (nI (nd.length + 1))) := ⟨_, rfl⟩
    have f5 : FR [] [] [92] [] σ4 σ5 := by rw [hσ5]; exact FR_A σ4 92 _
    obtain ⟨σ6, hσ6⟩ : ∃ x, x = sI σ5 89 (nI (nd.length + 2)) := ⟨_, rfl⟩
    have f6 : FR [89] [] [] [] σ5 σ6 := by rw [hσ6]; exact FR_I σ5 89 _
    have i5 : gI σ5 89 = nI (nd.length + 1) := by rw [f5.1 89 (by decide), f4.1 89 (by decide), f3.1 89 (by decide), f2.1 89 (by decide), f1.1 89 (by decide)]; exact t1
    have g92 : gA σ6 92 = upd (upd (gA σ 92) (nd.length + 1) (nI 0)) (k + 1) (nI (nd.length + 1)) := by rw [f6.2.2.1 92 (by decide), hσ5, gA_sA, if_pos rfl, f4.2.2.1 92 (by decide), g92a]
    have g93 : gA σ6 93 = upd (gA σ 93) (nd.length + 1) (nI (lst nd u (nd.length + 1))) := by rw [f6.2.2.1 93 (by decide), f5.2.2.1 93 (by decide), hσ4, gA_sA, if_pos rfl, f3.2.2.1 93 (by decide), f2.2.2.1 93 (by decide), f1.2.2.1 93 (by decide)]
    have g94 : gA σ6 94 = upd (gA σ 94) (nd.length + 1) (Int32.ofInt (-1)) := by rw [f6.2.2.1 94 (by decide), f5.2.2.1 94 (by decide), f4.2.2.1 94 (by decide), hσ3, gA_sA, if_pos rfl, f2.2.2.1 94 (by decide), f1.2.2.1 94 (by decide)]
    have g95 : gA σ6 95 = upd (gA σ 95) (nd.length + 1) (byt c0) := by rw [f6.2.2.1 95 (by decide), f5.2.2.1 95 (by decide), f4.2.2.1 95 (by decide), f3.2.2.1 95 (by decide), f2.2.2.1 95 (by decide), hσ1, gA_sA, if_pos rfl]
    have hmm : c0 :: u ∉ nd := c1
    have hum : u ∈ nd := List.mem_of_getElem? hk
    refine ⟨σ6, ?_, ⟨?_, ?_, ?_, ?_, ?_, ?_⟩, fun q => absurd q c1, fun _ => g94, ?_⟩
    · unfold f_M_childOf_36
      rw [if_neg (show ¬ (0 : Int32) < nI 0 by decide), if_neg (show ¬ nI 1 = 0 by decide), Mg89 hm, bs, t1, Mr95 hm, bs, isB_n hcB, Ms95 hm (by omega), bs, ← hσ1, Mr92 hm, bs, Ms92 hm (by omega), bs, ← hσ2, Mr94 hm, bs, Ms94 hm (by omega), bs, ← hσ3, Mr93 hm, bs, Mr92 hm, bs, Ma92 hm (by omega), bs, r92, Ms93 hm (by omega), bs, ← hσ4, Mr92 hm, bs, Ms92 hm (by omega), bs, ← hσ5, Mg89 hm, bs, i5, nI_add, Mp89 hm, bs, ← hσ6]
    · rw [hσ6, gI_sI, if_pos rfl, List.length_append]; rfl
    · rw [List.getElem?_append_left (by omega)]; exact t2
    · rw [List.nodup_append]
      exact ⟨t3, List.nodup_cons.mpr ⟨List.not_mem_nil, List.nodup_nil⟩, fun x hx y hy e => c1 (by rw [List.mem_singleton.mp hy] at e; exact e ▸ hx)⟩
    · intro s hs x hx
      rcases List.mem_append.mp hs with hs | hs
      · exact t4 s hs x hx
      · rw [List.mem_singleton.mp hs] at hx
        rcases List.mem_cons.mp hx with e | e
        · rw [e]; exact hc
        · exact t4 u hum x e
    · intro c v hv
      rcases List.mem_append.mp hv with hv | hv
      · exact List.mem_append_left _ (t5 c v hv)
      · have := List.mem_singleton.mp hv
        injection this with e1 e2
        rw [e2]; exact List.mem_append_left _ hum
    · intro j w hw
      rw [List.length_append]
      show gA σ6 92 (j + 1) = nI (lst (nd ++ [c0 :: u]) w (nd.length + 1 + 1)) ∧ _
      rw [g92, g93, g95]
      by_cases cj : j < nd.length
      · rw [List.getElem?_append_left cj] at hw
        have hr := t6 j w hw
        constructor
        · by_cases cjk : j = k
          · have ew : w = u := by rw [cjk, hk] at hw; exact (Option.some.inj hw).symm
            rw [cjk, upd_eq, ew, lst_s, if_pos]
            exact chB_iff.mpr ⟨c0, by rw [List.getElem?_append_right (Nat.le_refl _), Nat.sub_self]; rfl⟩
          · have ew : w ≠ u := fun e => by
              rw [e] at hw
              have h1 := idx_nd t3 hw
              have h2 := idx_nd t3 hk
              rw [h1] at h2
              exact cjk (Option.some.inj h2)
            rw [upd_ne (by omega), upd_ne (by omega), hr.1, lst_s (lim := nd.length + 1) (nd := nd ++ [c0 :: u]), if_neg, lst_app _ (Nat.le_refl _)]
            intro q
            obtain ⟨c, hq⟩ := chB_iff.mp q
            rw [List.getElem?_append_right (Nat.le_refl _), Nat.sub_self] at hq
            have hq : c0 :: u = c :: w := Option.some.inj hq
            injection hq with _ hq2
            exact ew hq2.symm
        · intro c v hv
          rw [upd_ne (by omega), upd_ne (by omega), lst_app _ (by omega)]
          exact hr.2 c v hv
      · have hl := (List.getElem?_eq_some_iff.mp hw).1
        rw [List.length_append] at hl
        have hl : j < nd.length + 1 := hl
        have ej : j = nd.length := by omega
        rw [ej, List.getElem?_append_right (Nat.le_refl _), Nat.sub_self] at hw
        have hw : c0 :: u = w := Option.some.inj hw
        rw [ej, upd_ne (by omega), upd_eq, upd_eq, upd_eq]
        constructor
        · have e0 : ∀ lim, lst (nd ++ [c0 :: u]) w lim = 0 := by
            intro lim
            induction lim with
            | zero => rfl
            | succ n ih =>
              rw [lst_s, ih, if_neg]
              intro q
              cases n with
              | zero => exact nomatch q
              | succ n =>
                obtain ⟨c, hq⟩ := chB_iff.mp q
                have hm2 := List.mem_of_getElem? hq
                rcases List.mem_append.mp hm2 with hm2 | hm2
                · have := t5 c w hm2
                  rw [← hw] at this
                  exact c1 this
                · have := List.mem_singleton.mp hm2
                  rw [← hw] at this
                  injection this with _ e5
                  have := congrArg List.length e5
                  rw [List.length_cons] at this
                  omega
          rw [e0]
        · intro c v hv
          rw [← hw] at hv
          injection hv with e5 e6
          rw [← e5, ← e6, lst_app _ (Nat.le_refl _)]
          exact ⟨rfl, rfl⟩
    · exact FR_trans (FR_mono f1 (by decide) (by decide) (by decide) (by decide)) (FR_trans (FR_mono f2 (by decide) (by decide) (by decide) (by decide)) (FR_trans (FR_mono f3 (by decide) (by decide) (by decide) (by decide)) (FR_trans (FR_mono f4 (by decide) (by decide) (by decide) (by decide)) (FR_trans (FR_mono f5 (by decide) (by decide) (by decide) (by decide)) (FR_mono f6 (by decide) (by decide) (by decide) (by decide))))))
theorem q_childOf7 (hm : m ≤ h.length) (hF : 65540 < F) (ht : TR σ nd) (hN : nd.length ≤ 65538) (hc : c0 < 256) {k : Nat} (hk : nd[k]? = some u) (c1 : c0 :: u ∈ nd) : ∃ σ', f_M_childOf F m (nI (k + 1)) (byt c0) mk (mh m h σ) = some (nI (plc (c0 :: u) nd + 1), mh m h σ') ∧ TR σ' (ent (c0 :: u) nd) ∧ (c0 :: u ∈ nd → σ' = σ) ∧ (c0 :: u ∉ nd → gA σ' 94 = upd (gA σ 94) (nd.length + 1) (Int32.ofInt (-1))) ∧ FR [89] [] trA [] σ σ' := by
  have ht0 := ht
  obtain ⟨t1, t2, t3, t4, t5, t6⟩ := ht
  have hkl := (List.getElem?_eq_some_iff.mp hk).1
  have e8 := q_cO_8 (F := F) (h := h) (u := u) (node := k + 1) (mk := mk) hm ht0 (by omega) hc (nd.length + 1) F (Nat.le_refl _) (by omega)
  unfold f_M_childOf
  rw [Mr92 hm, bs, Ma92 hm (by omega), bs, (t6 k u hk).1, e8, if_pos nIx_lt]
  obtain ⟨i, hi⟩ := Option.isSome_iff_exists.mp (idx_iff.mpr c1)
  have e1 : nIx nd (c0 :: u) = i + 1 := by unfold nIx; rw [hi]
  have e2 : plc (c0 :: u) nd = i := by unfold plc; rw [hi]; rfl
  have e3 : ent (c0 :: u) nd = nd := by unfold ent; rw [if_pos (idx_iff.mpr c1)]
  have := idx_lt hi
  unfold f_M_childOf_36 f_M_childOf_45
  rw [e1, e2, e3, if_pos (show (0 : Int32) < nI (i + 1) from nI_lt (a := 0) (by omega) (by omega))]
  exact ⟨σ, rfl, ht0, fun _ => rfl, fun q => absurd c1 q, FR_refl σ⟩
end MTR
end
section
/-! nodeOf of the reference -/
def rst (B : Nat → Nat) : Nat → Nat → List Nat
  | _, 0 => []
  | x, c + 1 => if B x = 0 then [] else B x :: rst B (x + 1) c
/-- the bytes from x on, up to a byte 0 -/
def st (B : Nat → Nat) (x : Nat) : List Nat := rst B x (65536 - x)
theorem st_s {B : Nat → Nat} {x : Nat} (h : x < 65536) : st B x = if B x = 0 then [] else B x :: st B (x + 1) := by
  unfold st
  rw [show 65536 - x = (65536 - (x + 1)) + 1 by omega]
  rfl
theorem st_0 {B : Nat → Nat} {x : Nat} (h : x < 65536) (h0 : B x = 0) : st B x = [] := by rw [st_s h, if_pos h0]
theorem st_n {B : Nat → Nat} {x : Nat} (h : x < 65536) (h0 : B x ≠ 0) : st B x = B x :: st B (x + 1) := by rw [st_s h, if_neg h0]
/-- where the string that ends at p + d begins -/
def frm (B : Nat → Nat) (p : Nat) : Nat → Nat
  | 0 => p
  | d + 1 => if B (p + d) = 0 then p + d + 1 else frm B p d
theorem frm_s {B : Nat → Nat} {p d : Nat} : frm B p (d + 1) = if B (p + d) = 0 then p + d + 1 else frm B p d := rfl
theorem frm_le {B : Nat → Nat} {p : Nat} : ∀ d, p ≤ frm B p d ∧ frm B p d ≤ p + d ∧ ∀ x, frm B p d ≤ x → x < p + d → B x ≠ 0 := by
  intro d
  induction d with
  | zero => exact ⟨Nat.le_refl _, Nat.le_refl _, fun x h1 h2 => by have : p ≤ x := h1; omega⟩
  | succ d ih =>
    rw [frm_s]
    by_cases c : B (p + d) = 0
    · rw [if_pos c]; exact ⟨by omega, by omega, fun x h1 h2 => by omega⟩
    · rw [if_neg c]
      refine ⟨ih.1, by omega, fun x h1 h2 => ?_⟩
      by_cases e : x = p + d
      · rw [e]; exact c
      · exact ih.2.2 x h1 (by omega)
theorem nodup_img {f : Nat → List Nat} : ∀ (N : Nat) (l : List (List Nat)), l.Nodup → (∀ s, s ∈ l → ∃ x, x < N ∧ s = f x) → l.length ≤ N := by
  intro N
  induction N with
  | zero =>
    intro l _ h
    cases l with
    | nil => exact Nat.le_refl _
    | cons y l =>
      obtain ⟨x, hx, _⟩ := h y List.mem_cons_self
      omega
  | succ N ih =>
    intro l hd h
    by_cases c : f N ∈ l
    · have e := List.length_erase_of_mem c
      have hp : 0 < l.length := List.length_pos_of_mem c
      have := ih (l.erase (f N)) (hd.erase (f N)) (fun s hs => by
        have hm := (List.Nodup.mem_erase_iff hd).mp hs
        obtain ⟨x, h1, h2⟩ := h s hm.2
        have : x ≠ N := fun q => hm.1 (by rw [h2, q])
        exact ⟨x, by omega, h2⟩)
      omega
    · have := ih l hd (fun s hs => by
        obtain ⟨x, h1, h2⟩ := h s hs
        have : x ≠ N := fun q => c (by rw [← q, ← h2]; exact hs)
        exact ⟨x, by omega, h2⟩)
      omega
/-- every node is a string of the bytes -/
def ndB (B : Nat → Nat) (nd : List (List Nat)) : Prop := ∀ s, s ∈ nd → ∃ x, x < 65537 ∧ s = st B x
theorem ndB_ent {B : Nat → Nat} {nd : List (List Nat)} {x : Nat} (h : ndB B nd) (hx : x < 65537) : ndB B (ent (st B x) nd) := fun s hs => by
  rcases ent_mem.mp hs with e | e
  · exact ⟨x, hx, e⟩
  · exact h s e
/-- where the pool's strings with these ends end -/
def RPe (σ : px_S) (nd : List (List Nat)) (pe : List Nat → Option Nat) : Prop := (∀ k u, nd[k]? = some u → gA σ 94 (k + 1) = tdA (pe u)) ∧ ∀ u, u ∉ nd → pe u = none
/-- the nodes of a string's ends -/
def ndS (B : Nat → Nat) (p : Nat) : Nat → List (List Nat) → List (List Nat)
  | 0, nd => nd
  | d + 1, nd => if B (p + d) = 0 then nd else ndS B p d (ent (st B (p + d)) nd)
theorem ndS_s {B : Nat → Nat} {p d : Nat} {nd : List (List Nat)} : ndS B p (d + 1) nd = if B (p + d) = 0 then nd else ndS B p d (ent (st B (p + d)) nd) := rfl
theorem ndS_mem {B : Nat → Nat} {p : Nat} {w : List Nat} : ∀ (d : Nat) (nd : List (List Nat)), w ∈ ndS B p d nd ↔ w ∈ nd ∨ ∃ x, frm B p d ≤ x ∧ x < p + d ∧ w = st B x := by
  intro d
  induction d with
  | zero => intro nd; exact ⟨Or.inl, fun q => q.elim id (fun ⟨x, h1, h2, _⟩ => by have : p ≤ x := h1; omega)⟩
  | succ d ih =>
    intro nd
    rw [ndS_s, frm_s]
    by_cases c : B (p + d) = 0
    · rw [if_pos c, if_pos c]
      exact ⟨Or.inl, fun q => q.elim id (fun ⟨x, h1, h2, _⟩ => by omega)⟩
    · rw [if_neg c, if_neg c, ih, ent_mem]
      have hf := frm_le (B := B) (p := p) d
      constructor
      · rintro ((e | e) | ⟨x, h1, h2, h3⟩)
        · exact Or.inr ⟨p + d, hf.2.1, by omega, e⟩
        · exact Or.inl e
        · exact Or.inr ⟨x, h1, by omega, h3⟩
      · rintro (e | ⟨x, h1, h2, h3⟩)
        · exact Or.inl (Or.inr e)
        · by_cases e : x = p + d
          · exact Or.inl (Or.inl (by rw [h3, e]))
          · exact Or.inr ⟨x, h1, by omega, h3⟩
section MND
variable {F m p : Nat} {h : px_H} {B : Nat → Nat} {pe : List Nat → Option Nat}
/-- the files' bytes are B -/
def RB (σ : px_S) (B : Nat → Nat) : Prop := (∀ k, isB (gA σ 6 k)) ∧ ∀ x, B x = b8 (gA σ 6 x)
theorem RB_byt {σ : px_S} (hb : RB σ B) (x : Nat) : gA σ 6 x = byt (B x) := by rw [hb.2 x]; exact hb.1 x
theorem RB_0 {σ : px_S} (hb : RB σ B) (x : Nat) : gA σ 6 x = 0 ↔ B x = 0 := by rw [hb.2 x]; exact isB_eq (hb.1 x) (c := 0) (by decide)
theorem RB_lt {σ : px_S} (hb : RB σ B) (x : Nat) : B x < 256 := by rw [hb.2 x]; exact b8_lt _
theorem RB_FR {σ σ' : px_S} {I J A Bs : List Nat} (hb : RB σ B) (f : FR I J A Bs σ σ') (h6 : 6 ∉ A) : RB σ' B := by
  unfold RB
  rw [f.2.2.1 6 h6]; exact hb
theorem back_lt {a : Nat} (ha : a < 2 ^ 30) : nI a - nI 1 < nI a := by
  rw [Int32.lt_iff_toInt_lt, nI_subI ha (by decide), nI_toInt (by omega)]
  omega
theorem q_nO_8 (hm : m ≤ h.length) (hF : 65540 < F) : ∀ (d k g : Nat) (σ : px_S) (nd : List (List Nat)), d < g → p + d ≤ 65535 → RB σ B → TR σ nd → ndB B nd → RPe σ nd pe → nd[k]? = some (st B (p + d)) → ∃ σ' k', f_M_nodeOf_8 F g m (nI p) (nI 1) (nI (k + 1)) (nI (p + d) - nI 1) (mh m h σ) = some (nI (k' + 1), mh m h σ') ∧ (ndS B p d nd)[k']? = some (st B (frm B p d)) ∧ TR σ' (ndS B p d nd) ∧ ndB B (ndS B p d nd) ∧ RPe σ' (ndS B p d nd) pe ∧ ((∀ x, frm B p d ≤ x → x < p + d → st B x ∈ nd) → σ' = σ) ∧ FR [89] [] trA [] σ σ' := by
  intro d
  induction d with
  | zero =>
    intro k g σ nd hg hp hb ht hn hpe hk
    obtain ⟨g, rfl⟩ : ∃ x, g = x + 1 := ⟨g - 1, by omega⟩
    unfold f_M_nodeOf_8 f_M_nodeOf_46
    rw [if_pos (by rw [Nat.add_zero]; exact back_lt (by omega))]
    exact ⟨σ, k, rfl, hk, ht, hn, hpe, fun _ => rfl, FR_refl σ⟩
  | succ d ih =>
    intro k g σ nd hg hp hb ht hn hpe hk
    obtain ⟨g, rfl⟩ : ∃ x, g = x + 1 := ⟨g - 1, by omega⟩
    have e1 : nI (p + (d + 1)) - nI 1 = nI (p + d) := by rw [pk_sub (by omega)]; rfl
    unfold f_M_nodeOf_8 f_M_nodeOf_46
    rw [e1, if_neg (nI_nlt (by omega) (by omega)), Mr6 hm, bs, Ma6 hm (by omega), bs, bs, ndS_s, frm_s]
    by_cases c : B (p + d) = 0
    · rw [if_pos ((RB_0 hb _).mpr c), if_pos c, if_pos c]
      exact ⟨σ, k, rfl, hk, ht, hn, hpe, fun _ => rfl, FR_refl σ⟩
    · have es : st B (p + d) = B (p + d) :: st B (p + (d + 1)) := st_n (by omega) c
      have hlen : nd.length ≤ 65536 ∨ B (p + d) :: st B (p + (d + 1)) ∈ nd := by
        by_cases q : B (p + d) :: st B (p + (d + 1)) ∈ nd
        · exact Or.inr q
        · left
          have h1 : (nd ++ [st B (p + d)]).Nodup := by
            rw [List.nodup_append]
            exact ⟨ht.2.2.1, List.nodup_cons.mpr ⟨List.not_mem_nil, List.nodup_nil⟩, fun x hx y hy e => q (by rw [List.mem_singleton.mp hy, es] at e; exact e ▸ hx)⟩
          have := nodup_img (f := st B) 65537 _ h1 (fun s hs => by
            rcases List.mem_append.mp hs with hs | hs
            · exact hn s hs
            · exact ⟨p + d, by omega, List.mem_singleton.mp hs⟩)
          rw [List.length_append] at this
          have : nd.length + 1 ≤ 65537 := this
          omega
      rw [if_neg (fun q => c ((RB_0 hb _).mp q)), if_neg c, if_neg c, e_o hm, Ma6 hm (by omega), bs, bs, RB_byt hb]
      have hl2 : nd.length ≤ 65537 := nodup_img (f := st B) 65537 _ ht.2.2.1 hn
      have hkl := (List.getElem?_eq_some_iff.mp hk).1
      have key : ∃ σ1, f_M_childOf F m (nI (k + 1)) (byt (B (p + d))) (nI 1) (mh m h σ) = some (nI (plc (B (p + d) :: st B (p + (d + 1))) nd + 1), mh m h σ1) ∧ TR σ1 (ent (B (p + d) :: st B (p + (d + 1))) nd) ∧ (B (p + d) :: st B (p + (d + 1)) ∈ nd → σ1 = σ) ∧ (B (p + d) :: st B (p + (d + 1)) ∉ nd → gA σ1 94 = upd (gA σ 94) (nd.length + 1) (Int32.ofInt (-1))) ∧ FR [89] [] trA [] σ σ1 := by
        by_cases q : nd.length ≤ 65536
        · exact q_childOf hm hF ht q (RB_lt hb _) hk (Or.inl rfl)
        · exact q_childOf7 hm hF ht (by omega) (RB_lt hb _) hk (hlen.elim (fun z => absurd z q) id)
      obtain ⟨σ1, a1, a2, a3, a4, a5⟩ := key
      rw [a1, xb_mk, nI_back]
      have hp1 : (ent (B (p + d) :: st B (p + (d + 1))) nd)[plc (B (p + d) :: st B (p + (d + 1))) nd]? = some (st B (p + d)) := by
        rw [es]
        unfold ent plc
        cases e : idx (B (p + d) :: st B (p + (d + 1))) 0 nd with
        | none => rw [if_neg (by decide)]; show (nd ++ _)[nd.length]? = _; rw [List.getElem?_append_right (Nat.le_refl _), Nat.sub_self]; rfl
        | some i =>
          rw [if_pos (show (some i).isSome = true from rfl)]
          have := idx_some e
          rw [Nat.sub_zero] at this
          exact this
      have hpe1 : RPe σ1 (ent (B (p + d) :: st B (p + (d + 1))) nd) pe := by
        by_cases q : B (p + d) :: st B (p + (d + 1)) ∈ nd
        · have e3 : ent (B (p + d) :: st B (p + (d + 1))) nd = nd := by unfold ent; rw [if_pos (idx_iff.mpr q)]
          rw [e3, a3 q]; exact hpe
        · have e3 : ent (B (p + d) :: st B (p + (d + 1))) nd = nd ++ [B (p + d) :: st B (p + (d + 1))] := by unfold ent; rw [if_neg (fun z => q (idx_iff.mp z))]
          rw [e3]
          refine ⟨fun j u hu => ?_, fun u hu => hpe.2 u (fun z => hu (List.mem_append_left _ z))⟩
          rw [a4 q]
          by_cases cj : j < nd.length
          · rw [List.getElem?_append_left cj] at hu
            rw [upd_ne (by omega)]; exact hpe.1 j u hu
          · have hl := (List.getElem?_eq_some_iff.mp hu).1
            rw [List.length_append] at hl
            have hl : j < nd.length + 1 := hl
            have ej : j = nd.length := by omega
            rw [ej, List.getElem?_append_right (Nat.le_refl _), Nat.sub_self] at hu
            have hu : B (p + d) :: st B (p + (d + 1)) = u := Option.some.inj hu
            rw [ej, upd_eq, ← hu, hpe.2 _ q]
            rfl
      have hn1 : ndB B (ent (B (p + d) :: st B (p + (d + 1))) nd) := by rw [← es]; exact ndB_ent hn (by omega)
      rw [← es] at a2 hp1 hpe1 hn1 a3
      rw [← es]
      obtain ⟨σ2, k2, b1, b2, b3, b4, b5, b6, b7⟩ := ih (plc (st B (p + d)) nd) g σ1 _ (by omega) (by omega) (RB_FR hb a5 (by decide)) a2 hn1 hpe1 hp1
      refine ⟨σ2, k2, b1, b2, b3, b4, b5, fun hh => ?_, FR_trans a5 b7⟩
      have hf := frm_le (B := B) (p := p) d
      rw [b6 (fun x h1 h2 => ent_mem.mpr (Or.inr (hh x h1 (by omega)))), a3 (hh (p + d) hf.2.1 (by omega))]
end MND
end
section
/-! toPool of the reference -/
def sufB (u : List Nat) : List Nat → Bool
  | [] => decide (u = [])
  | c :: s => decide (u = c :: s) || sufB u s
theorem sufB_len {u : List Nat} : ∀ {s : List Nat}, sufB u s = true → u.length ≤ s.length := by
  intro s
  induction s with
  | nil => intro h; rw [of_decide_eq_true h]; exact Nat.le_refl _
  | cons c s ih =>
    intro h
    rw [show sufB u (c :: s) = (decide (u = c :: s) || sufB u s) from rfl, Bool.or_eq_true] at h
    rcases h with h | h
    · rw [of_decide_eq_true h]; exact Nat.le_refl _
    · have := ih h; rw [List.length_cons]; omega
theorem sufB_refl {u : List Nat} : sufB u u = true := by
  cases u with
  | nil => rfl
  | cons c s =>
    show (decide (c :: s = c :: s) || sufB (c :: s) s) = true
    rw [decide_eq_true rfl]; rfl
/-- the ends of s that end nowhere end at v -/
def pset (pe : List Nat → Option Nat) (v : Nat) (s u : List Nat) : Option Nat := match pe u with
  | some y => some y
  | none => if sufB u s = true then some v else none
theorem pset_s {pe : List Nat → Option Nat} {v c : Nat} {s u : List Nat} (h : u ≠ c :: s) : pset pe v (c :: s) u = pset pe v s u := by
  unfold pset
  rw [show sufB u (c :: s) = (decide (u = c :: s) || sufB u s) from rfl, decide_eq_false h, Bool.false_or]
theorem pset_e {pe : List Nat → Option Nat} {v c : Nat} {s : List Nat} : pset pe v (c :: s) (c :: s) = match pset pe v s (c :: s) with
    | some y => some y
    | none => some v := by
  unfold pset
  cases pe (c :: s) with
  | some y => rfl
  | none =>
    have h1 : sufB (c :: s) s = false := Bool.eq_false_iff.mpr (fun q => by have := sufB_len q; rw [List.length_cons] at this; omega)
    show (if sufB (c :: s) (c :: s) = true then some v else none) = _
    rw [sufB_refl, if_pos rfl, h1]
    rfl
theorem sufB_nd {nd : List (List Nat)} (h : ∀ c v, c :: v ∈ nd → v ∈ nd) {u : List Nat} : ∀ {s : List Nat}, s ∈ nd → sufB u s = true → u ∈ nd := by
  intro s
  induction s with
  | nil => intro hs hu; rw [of_decide_eq_true hu]; exact hs
  | cons c s ih =>
    intro hs hu
    rw [show sufB u (c :: s) = (decide (u = c :: s) || sufB u s) from rfl, Bool.or_eq_true] at hu
    rcases hu with hu | hu
    · rw [of_decide_eq_true hu]; exact hs
    · exact ih (h c s hs) hu
section MTP
variable {F m p e fr v : Nat} {h : px_H} {B : Nat → Nat}
theorem q_tP_2 {σ : px_S} (hm : m ≤ h.length) (hb : RB σ B) (hp : p + e ≤ 65536) : ∀ (d g : Nat), d ≤ e → d < g → f_M_toPool_2 F g m (nI p) (nI (p + e)) (nI (p + d)) (mh m h σ) = f_M_toPool_24 F m (nI (p + e)) (nI (frm B p d)) (mh m h σ) := by
  intro d
  induction d with
  | zero =>
    intro g _ hg
    obtain ⟨g, rfl⟩ : ∃ x, g = x + 1 := ⟨g - 1, by omega⟩
    unfold f_M_toPool_2
    exact if_pos (nI_le (by omega) (by omega))
  | succ d ih =>
    intro g hd hg
    obtain ⟨g, rfl⟩ : ∃ x, g = x + 1 := ⟨g - 1, by omega⟩
    unfold f_M_toPool_2
    rw [if_neg (nI_ge (by omega) (by omega)), Mr6 hm, bs, pk_sub (by omega), show p + (d + 1) - 1 = p + d by omega, Ma6 hm (by omega), bs, frm_s]
    by_cases c : B (p + d) = 0
    · rw [if_pos ((RB_0 hb _).mpr c), if_pos c]; rfl
    · rw [if_neg (fun q => c ((RB_0 hb _).mp q)), if_neg c, nI_back, pk_sub (by omega), show p + (d + 1) - 1 = p + d by omega, ih g (by omega) (by omega)]
theorem q_tP_27 (hm : m ≤ h.length) : ∀ (c k g ps : Nat) (σ : px_S), k + c = e + 1 → e ≤ 65535 → c < g → ps + c ≤ 65536 → gI σ 88 = nI ps → (∀ k, isB (gA σ 91 k)) → ∃ σ', f_M_toPool_27 F g m (nI e) (nI fr) (nI k) (mh m h σ) = f_M_toPool_65 F m (nI e) (nI fr) (mh m h σ') ∧ gI σ' 88 = nI (ps + c) ∧ (∀ k, isB (gA σ' 91 k)) ∧ FR [88] [] [91] [] σ σ' := by
  intro c
  induction c with
  | zero =>
    intro k g ps σ hk he hg hps h88 h91
    obtain ⟨g, rfl⟩ : ∃ x, g = x + 1 := ⟨g - 1, by omega⟩
    unfold f_M_toPool_27
    rw [if_pos (nI_lt (by omega) (by omega))]
    exact ⟨σ, rfl, h88, h91, FR_refl σ⟩
  | succ c ih =>
    intro k g ps σ hk he hg hps h88 h91
    obtain ⟨g, rfl⟩ : ∃ x, g = x + 1 := ⟨g - 1, by omega⟩
    unfold f_M_toPool_27
    rw [if_neg (nI_nlt (by omega) (by omega)), Mr91 hm, bs, Mg88 hm, bs, h88, Mr6 hm, bs, Ma6 hm (by omega), bs, Ms91 hm (by omega), bs, Mg88 hm, bs, gI_sA, h88, nI_add, Mp88 hm, bs, nI_add]
    obtain ⟨σ1, hσ1⟩ : ∃ x, x = sI (sA σ 91 (upd (gA σ 91) ps (gA σ 6 k).toInt8.toInt32)) 88 (nI (ps + 1)) := ⟨_, rfl⟩
    rw [← hσ1]
    have f1 : FR [88] [] [91] [] σ σ1 := by
      rw [hσ1]
      exact FR_trans (FR_mono (FR_A σ 91 _) (by decide) (by decide) (by decide) (by decide)) (FR_mono (FR_I _ 88 _) (by decide) (by decide) (by decide) (by decide))
    obtain ⟨σ2, a1, a2, a3, a4⟩ := ih (k + 1) g (ps + 1) σ1 (by omega) he (by omega) (by omega) (by rw [hσ1, gI_sI, if_pos rfl]) (fun q => by
      rw [hσ1]
      show isB (upd (gA σ 91) ps _ q)
      by_cases cq : q = ps
      · rw [cq, upd_eq]; exact isB_8 _
      · rw [upd_ne cq]; exact h91 q)
    exact ⟨σ2, a1, by rw [a2]; congr 1; omega, a3, FR_trans f1 a4⟩
theorem RPe_set {σ σ' : px_S} {nd : List (List Nat)} {pe pe' : List Nat → Option Nat} {k : Nat} {w : List Nat} (hr : RPe σ nd pe) (hd : nd.Nodup) (hk : nd[k]? = some w) {x : Int32} (h94 : gA σ' 94 = upd (gA σ 94) (k + 1) x) (hx : x = tdA (pe' w)) (ho : ∀ u, u ≠ w → pe' u = pe u) : RPe σ' nd pe' := by
  refine ⟨fun j u hu => ?_, fun u hu => ?_⟩
  · rw [h94]
    by_cases c : j = k
    · have : u = w := by rw [c, hk] at hu; exact (Option.some.inj hu).symm
      rw [c, upd_eq, this, hx]
    · have : u ≠ w := fun q => by
        rw [q] at hu
        have h1 := idx_nd hd hu
        have h2 := idx_nd hd hk
        rw [h1] at h2
        exact c (Option.some.inj h2)
      rw [upd_ne (by omega), ho u this]
      exact hr.1 j u hu
  · have : u ≠ w := fun q => hu (by rw [q]; exact List.mem_of_getElem? hk)
    rw [ho u this]
    exact hr.2 u hu
theorem TR_FR {σ σ' : px_S} {I J A Bs : List Nat} {nd : List (List Nat)} (ht : TR σ nd) (f : FR I J A Bs σ σ') (h1 : 89 ∉ I) (hA : 92 ∉ A ∧ 93 ∉ A ∧ 95 ∉ A) : TR σ' nd := by
  obtain ⟨t1, t2, t3, t4, t5, t6⟩ := ht
  refine ⟨(f.1 89 h1).trans t1, t2, t3, t4, t5, fun k u hu => ?_⟩
  rw [f.2.2.1 92 hA.1, f.2.2.1 93 hA.2.1, f.2.2.1 95 hA.2.2]
  exact t6 k u hu
theorem q_tP_101 {nd : List (List Nat)} {pe : List Nat → Option Nat} (hm : m ≤ h.length) (hF : 65540 < F) (hv : v < 2 ^ 31) (hN : nd.length ≤ 65538) (hpv : ∀ u y, pe u = some y → y < 2 ^ 31) : ∀ (d k g : Nat) (σ : px_S), d < g → fr + d ≤ 65535 → RB σ B → TR σ nd → (∀ x, fr ≤ x → x < fr + d → B x ≠ 0 ∧ st B x ∈ nd) → gI σ 88 = nI v → nd[k]? = some (st B (fr + d)) → RPe σ nd (pset pe v (st B (fr + d))) → ∃ σ', f_M_toPool_101 F g m (nI fr) (nI (k + 1)) (nI (fr + d) - nI 1) (mh m h σ) = some ((), mh m h σ') ∧ RPe σ' nd (pset pe v (st B fr)) ∧ FR [] [] [94] [] σ σ' := by
  intro d
  induction d with
  | zero =>
    intro k g σ hg hp hb ht hx h88 hk hpe
    obtain ⟨g, rfl⟩ : ∃ x, g = x + 1 := ⟨g - 1, by omega⟩
    unfold f_M_toPool_101 f_M_toPool_160
    rw [if_pos (by rw [Nat.add_zero]; exact back_lt (by omega))]
    exact ⟨σ, rfl, hpe, FR_refl σ⟩
  | succ d ih =>
    intro k g σ hg hp hb ht hx h88 hk hpe
    obtain ⟨g, rfl⟩ : ∃ x, g = x + 1 := ⟨g - 1, by omega⟩
    have e1 : nI (fr + (d + 1)) - nI 1 = nI (fr + d) := by rw [pk_sub (by omega)]; rfl
    obtain ⟨c, hin⟩ := hx (fr + d) (by omega) (by omega)
    have es : st B (fr + d) = B (fr + d) :: st B (fr + (d + 1)) := st_n (by omega) c
    obtain ⟨σ1, a1, a2, a3, a4, a5⟩ := q_childOf7 (F := F) (mk := nI 0) (h := h) hm hF ht hN (RB_lt hb (fr + d)) hk (by rw [← es]; exact hin)
    rw [← es] at a1 a3
    have e3 := a3 hin
    rw [e3] at a1
    obtain ⟨i, hi⟩ := Option.isSome_iff_exists.mp (idx_iff.mpr hin)
    have hip : plc (st B (fr + d)) nd = i := by unfold plc; rw [hi]; rfl
    have hil := idx_lt hi
    have hin2 : nd[i]? = some (st B (fr + d)) := by have := idx_some hi; rw [Nat.sub_zero] at this; exact this
    rw [hip] at a1
    have r94 := hpe.1 i _ hin2
    unfold f_M_toPool_101 f_M_toPool_153
    rw [e1, if_neg (nI_nlt (by omega) (by omega)), Mr6 hm, bs, Ma6 hm (by omega), bs, RB_byt hb, e_o hm, bs, a1, xb_mk, Mr94 hm, bs, bs, Ma94 hm (by omega), bs, r94]
    have fin : ∀ x, x = tdA (pset pe v (st B (fr + d)) (st B (fr + d))) → ∃ σ', (((xsI (mh m h σ) 1 (m + 63) (nI (i + 1)) x).bind fun ph1 => f_M_toPool_101 F g m (nI fr) (nI (i + 1)) (nI (fr + d) + Int32.ofInt (-1)) ph1) = some ((), mh m h σ')) ∧ RPe σ' nd (pset pe v (st B fr)) ∧ FR [] [] [94] [] σ σ' := by
      intro x hx2
      rw [Ms94 hm (by omega), bs, nI_back]
      have f1 := FR_A σ 94 (upd (gA σ 94) (i + 1) x)
      obtain ⟨σ2, b1, b2, b3⟩ := ih i g (sA σ 94 (upd (gA σ 94) (i + 1) x)) (by omega) (by omega) (RB_FR hb f1 (by decide)) (TR_FR ht f1 (by decide) (by decide)) (fun y h1 h2 => hx y h1 (by omega)) h88 hin2 (RPe_set (pe' := pset pe v (st B (fr + d))) hpe ht.2.2.1 hin2 rfl hx2 (fun u hu => by rw [es] at hu ⊢; exact pset_s hu))
      exact ⟨σ2, b1, b2, FR_trans f1 b3⟩
    have hpe2 := pset_e (pe := pe) (v := v) (c := B (fr + d)) (s := st B (fr + (d + 1)))
    rw [← es] at hpe2
    cases eq : pset pe v (st B (fr + (d + 1))) (st B (fr + d)) with
    | some y =>
      rw [eq] at hpe2
      have hy : y < 2 ^ 31 := by
        unfold pset at eq
        cases e5 : pe (st B (fr + d)) with
        | some z => rw [e5] at eq; rw [← Option.some.inj eq]; exact hpv _ _ e5
        | none =>
          rw [e5] at eq
          have eq : (if sufB (st B (fr + d)) (st B (fr + (d + 1))) = true then some v else none) = some y := eq
          split at eq
          · rw [← Option.some.inj eq]; exact hv
          · cases eq
      rw [if_pos (show (0 : Int32) ≤ tdA (some y) from nI_0le hy), bs, Ma94 hm (by omega), bs, r94, eq]
      exact fin _ (by rw [hpe2])
    | none =>
      rw [eq] at hpe2
      rw [if_neg (show ¬ (0 : Int32) ≤ tdA none by decide), Mg88 hm, bs, h88]
      exact fin _ (by rw [hpe2]; rfl)
end MTP
end
