section
/-! the head and the rows of the file that a link writes, as numbers; the class's -/
/-- a number of k bytes stands at p -/
def vAt (g : Nat → Int32) (p k x : Nat) : Prop := ∀ j, j < k → g (p + j) = nB x j
theorem vAt_le {g : Nat → Int32} {b : Nat → Nat} {p k x : Nat} (h : vAt g p k x) (hb : ∀ i, p ≤ i → i < p + k → b i = b8 (g i)) : le b p k = x % 256 ^ k := le_w k (fun j hj => by rw [hb (p + j) (by omega) (by omega), h j hj, nB_b])
theorem vAt_lo {g g' : Nat → Int32} {p k x H : Nat} (h : vAt g p k x) (hH : p + k ≤ H) (e : ∀ i, i < H → g' i = g i) : vAt g' p k x := fun j hj => (e (p + j) (by omega)).trans (h j hj)
/-- TYPE, FLAGS, PLACE, ADDRESS, FILE, MEMORY, ALIGN -/
abbrev px_R7 : Type := Nat × Nat × Nat × Nat × Nat × Nat × Nat
def RW7 (g : Nat → Int32) (p : Nat) (r : px_R7) : Prop := (vAt g p 4 r.1 ∧ r.1 < 256) ∧ (r.1 = 1 → vAt g (p + 4) 4 r.2.1 ∧ vAt g (p + 8) 8 r.2.2.1 ∧ vAt g (p + 16) 8 r.2.2.2.1 ∧ vAt g (p + 32) 8 r.2.2.2.2.1 ∧ vAt g (p + 40) 8 r.2.2.2.2.2.1 ∧ vAt g (p + 48) 8 r.2.2.2.2.2.2)
def HD7 (g : Nat → Int32) (en n : Nat) : Prop := vAt g 0 7 282584257676671 ∧ vAt g 16 2 2 ∧ vAt g 18 2 62 ∧ vAt g 20 4 1 ∧ vAt g 24 8 en ∧ vAt g 32 8 64 ∧ vAt g 54 2 56 ∧ vAt g 56 2 n
/-- the head, and rows -/
def EX7 (g : Nat → Int32) (en n : Nat) (l : List px_R7) : Prop := HD7 g en n ∧ ∀ (k : Nat) (r : px_R7), l[k]? = some r → RW7 g (64 + 56 * k) r
theorem RW7_lo {g g' : Nat → Int32} {p H : Nat} {r : px_R7} (h : RW7 g p r) (hH : p + 56 ≤ H) (e : ∀ i, i < H → g' i = g i) : RW7 g' p r := ⟨⟨vAt_lo h.1.1 (by omega) e, h.1.2⟩, fun h1 => by
  obtain ⟨a1, a2, a3, a4, a5, a6⟩ := h.2 h1
  exact ⟨vAt_lo a1 (by omega) e, vAt_lo a2 (by omega) e, vAt_lo a3 (by omega) e, vAt_lo a4 (by omega) e, vAt_lo a5 (by omega) e, vAt_lo a6 (by omega) e⟩⟩
theorem HD7_lo {g g' : Nat → Int32} {en n H : Nat} (h : HD7 g en n) (hH : 64 ≤ H) (e : ∀ i, i < H → g' i = g i) : HD7 g' en n := by
  obtain ⟨a1, a2, a3, a4, a5, a6, a7, a8⟩ := h
  exact ⟨vAt_lo a1 (by omega) e, vAt_lo a2 (by omega) e, vAt_lo a3 (by omega) e, vAt_lo a4 (by omega) e, vAt_lo a5 (by omega) e, vAt_lo a6 (by omega) e, vAt_lo a7 (by omega) e, vAt_lo a8 (by omega) e⟩
theorem EX7_lo {g g' : Nat → Int32} {en n : Nat} {l : List px_R7} (h : EX7 g en n l) (e : ∀ i, i < 64 + 56 * l.length → g' i = g i) : EX7 g' en n l := ⟨HD7_lo h.1 (by omega) e, fun k r hk => by
  have := (List.getElem?_eq_some_iff.mp hk).1
  exact RW7_lo (h.2 k r hk) (by omega) e⟩
theorem EX7_app {g g' : Nat → Int32} {en n : Nat} {l : List px_R7} {r : px_R7} (h : EX7 g en n l) (e : ∀ i, i < 64 + 56 * l.length → g' i = g i) (hr : RW7 g' (64 + 56 * l.length) r) : EX7 g' en n (l ++ [r]) := ⟨(EX7_lo h e).1, fun k q hk => by
  rcases app1 hk with ⟨rfl, rfl⟩ | ⟨h1, h2⟩
  · exact hr
  · exact (EX7_lo h e).2 k q h2⟩
/-- .. and no rows of sections -/
def EX8 (g : Nat → Int32) (en n : Nat) (l : List px_R7) : Prop := EX7 g en n l ∧ vAt g 58 2 0
theorem EX8_lo {g g' : Nat → Int32} {en n : Nat} {l : List px_R7} (h : EX8 g en n l) (e : ∀ i, i < 64 + 56 * l.length → g' i = g i) : EX8 g' en n l := ⟨EX7_lo h.1 e, vAt_lo h.2 (H := 64 + 56 * l.length) (by omega) e⟩
theorem EX8_app {g g' : Nat → Int32} {en n : Nat} {l : List px_R7} {r : px_R7} (h : EX8 g en n l) (e : ∀ i, i < 64 + 56 * l.length → g' i = g i) (hr : RW7 g' (64 + 56 * l.length) r) : EX8 g' en n (l ++ [r]) := ⟨EX7_app h.1 e hr, vAt_lo h.2 (H := 64 + 56 * l.length) (by omega) e⟩
/-- the rows are loaded in the same way -/
theorem xrG_c {T T' : Nat → Bool} {E E' : Nat → Nat → Nat} {W W' : Nat → px_XR} {N : Nat} (h : ∀ k, k < N → T k = T' k ∧ (T k = true → (∀ e, E k e = E' k e) ∧ W k = W' k)) : ∀ (d k : Nat) (R : List px_XR), k + d ≤ N → xrG T E W d k R = xrG T' E' W' d k R := by
  intro d
  induction d with
  | zero => intro k R _; rfl
  | succ d ih =>
    intro k R hk
    obtain ⟨h1, h2⟩ := h k (by omega)
    cases eT : T k with
    | false => rw [xrG_f eT, xrG_f (h1 ▸ eT)]; exact ih _ _ (by omega)
    | true =>
      obtain ⟨h3, h4⟩ := h2 eT
      by_cases eE : E k (xrE R) = 0
      · rw [xrG_t eT eE, xrG_t (h1 ▸ eT) ((h3 _).symm.trans eE), h4]; exact ih _ _ (by omega)
      · rw [xrG_e eT eE, xrG_e (h1 ▸ eT) (fun q => eE ((h3 _).trans q)), h3]
/-- the bytes of an executable of which head and rows are told -/
def EXb (b : Nat → Nat) (z en n : Nat) (l : List px_R7) : Prop := ∃ g : Nat → Int32, (∀ i, i < 64 + 56 * l.length → b i = b8 (g i)) ∧ EX7 g en n l ∧ l.length = n ∧ 64 + 56 * l.length ≤ z
theorem EXb_x {b b' : Nat → Nat} {z en n : Nat} {l : List px_R7} (h : EXb b z en n l) (h' : EXb b' z en n l) : xrX b z = xrX b' z ∧ xrL b z (le b 32 8) (le b 56 2) = xrL b' z (le b' 32 8) (le b' 56 2) := by
  obtain ⟨g, e1, ⟨⟨a1, a2, a3, a4, a5, a6, a7, a8⟩, hr⟩, el, hz⟩ := h
  obtain ⟨g', e1', ⟨⟨a1', a2', a3', a4', a5', a6', a7', a8'⟩, hr'⟩, el', hz'⟩ := h'
  have q : ∀ {p k x : Nat}, vAt g p k x → vAt g' p k x → p + k ≤ 64 + 56 * l.length → le b p k = le b' p k := fun v v' hp => (vAt_le v (fun i _ hi => e1 i (by omega))).trans (vAt_le v' (fun i _ hi => e1' i (by omega))).symm
  have c1 := q a1 a1' (by omega)
  have c2 := q a2 a2' (by omega)
  have c3 := q a3 a3' (by omega)
  have c4 := q a4 a4' (by omega)
  have c5 := q a5 a5' (by omega)
  have c6 := q a6 a6' (by omega)
  have c7 := q a7 a7' (by omega)
  have c8 := q a8 a8' (by omega)
  have v6 : le b 32 8 = 64 := vAt_le a6 (fun i _ hi => e1 i (by omega))
  have v8 : le b 56 2 = n % 256 ^ 2 := vAt_le a8 (fun i _ hi => e1 i (by omega))
  have eL : xrL b z (le b 32 8) (le b 56 2) = xrL b' z (le b' 32 8) (le b' 56 2) := by
    rw [← c6, ← c8, v6]
    unfold xrL
    refine xrG_c (N := le b 56 2) (fun k hk => ?_) _ 0 [] (by omega)
    have hkn : k < l.length := by
      have := Nat.mod_le n (256 ^ 2)
      omega
    obtain ⟨r, er⟩ : ∃ r, l[k]? = some r := ⟨_, List.getElem?_eq_getElem hkn⟩
    obtain ⟨⟨t1, t0⟩, t2⟩ := hr k r er
    obtain ⟨⟨t1', _⟩, t2'⟩ := hr' k r er
    have u1 := q t1 t1' (by omega)
    have w1 : le b (64 + 56 * k) 4 = r.1 % 256 ^ 4 := vAt_le t1 (fun i _ hi => e1 i (by omega))
    refine ⟨by unfold xrTf; rw [u1], fun hT => ?_⟩
    have hT1 : le b (64 + 56 * k) 4 = 1 := of_decide_eq_true hT
    have h1 : r.1 = 1 := by
      rw [Nat.mod_eq_of_lt (by omega)] at w1
      omega
    obtain ⟨b1, b2, b3, b4, b5, b6⟩ := t2 h1
    obtain ⟨b1', b2', b3', b4', b5', b6'⟩ := t2' h1
    have u2 := q b1 b1' (by omega)
    have u3 := q b2 b2' (by omega)
    have u4 := q b3 b3' (by omega)
    have u5 := q b4 b4' (by omega)
    have u6 := q b5 b5' (by omega)
    have u7 := q b6 b6' (by omega)
    refine ⟨fun e => ?_, ?_⟩
    · unfold xrEf xrR
      rw [u3, u4, u5, u6, u7]
    · unfold xrWf xrW
      rw [u2, u3, u4, u5, u6]
  refine ⟨?_, eL⟩
  unfold xrX
  have eH : xrH b z = xrH b' z := by unfold xrH; rw [c1, c2, c3, c4, c7]
  rw [eL, eH, c8, c6, c5]
/-! what is put into a row of the class -/
section FWP
variable {x k H : Nat} {w : px_FW}
theorem wPi_at {x : Nat} (hx : x < 2 ^ 64) : ∀ (d j : Nat) (w : px_FW), j + d ≤ 8 → w.1 + d ≤ 65536 → (itr (fun j => wP1 65536 (bV (lN x) j)) j d w).1 = w.1 + d ∧ (∀ i, i < w.1 → (itr (fun j => wP1 65536 (bV (lN x) j)) j d w).2 i = w.2 i) ∧ ∀ t, t < d → (itr (fun j => wP1 65536 (bV (lN x) j)) j d w).2 (w.1 + t) = nB x (j + t) := by
  intro d
  induction d with
  | zero => intro j w _ _; rw [itr_0]; exact ⟨rfl, fun _ _ => rfl, fun t ht => absurd ht (Nat.not_lt_zero _)⟩
  | succ d ih =>
    intro j w h8 hz
    have e : wP1 65536 (bV (lN x) j) w = (w.1 + 1, upd w.2 w.1 (nB x j)) := by
      unfold wP1
      rw [if_neg (by omega), bV_n hx (by omega)]
    rw [itr_s, e]
    obtain ⟨a1, a2, a3⟩ := ih (j + 1) (w.1 + 1, upd w.2 w.1 (nB x j)) (by omega) (by show w.1 + 1 + d ≤ 65536; omega)
    have a1 : _ = w.1 + 1 + d := a1
    refine ⟨by rw [a1]; omega, fun i hi => ?_, fun t ht => ?_⟩
    · rw [a2 i (by show i < w.1 + 1; omega)]
      exact pk_un (by omega)
    · by_cases c : t = 0
      · subst c
        simp only [Nat.add_zero]
        rw [a2 w.1 (Nat.lt_succ_self _)]
        exact pk_us
      · obtain ⟨t', rfl⟩ : ∃ t', t = t' + 1 := ⟨t - 1, by omega⟩
        have a4 := a3 t' (by omega)
        have a4 : _ = nB x (j + 1 + t') := a4
        rw [show w.1 + (t' + 1) = w.1 + 1 + t' by omega, show j + (t' + 1) = j + 1 + t' by omega]
        exact a4
theorem wPut_at (hx : x < 2 ^ 64) (hk : k ≤ 8) (hz : w.1 + k ≤ 65536) : (wPut 65536 k (lN x) w).1 = w.1 + k ∧ (∀ i, i < w.1 → (wPut 65536 k (lN x) w).2 i = w.2 i) ∧ vAt (wPut 65536 k (lN x) w).2 w.1 k x := by
  obtain ⟨a1, a2, a3⟩ := wPi_at hx k 0 w (by omega) hz
  refine ⟨a1, a2, fun j hj => ?_⟩
  have a4 := a3 j hj
  rw [Nat.zero_add] at a4
  exact a4
/-- numbers one behind the other -/
def itA (g : Nat → Int32) : Nat → List (Nat × Nat) → Prop
  | _, [] => True
  | p, y :: l => vAt g p y.1 y.2 ∧ itA g (p + y.1) l
def mL (l : List (Nat × Nat)) : List (Nat × Int64) := l.map (fun y => (y.1, lN y.2))
theorem itA_lo {g g' : Nat → Int32} : ∀ (l : List (Nat × Nat)) (p : Nat), itA g p l → (∀ i, p ≤ i → i < p + (l.map Prod.fst).sum → g' i = g i) → itA g' p l
  | [], _, _, _ => trivial
  | y :: l, p, h, e => by
    rw [List.map_cons, List.sum_cons] at e
    exact ⟨fun j hj => (e (p + j) (by omega) (by omega)).trans (h.1 j hj), itA_lo l (p + y.1) h.2 (fun i h1 h2 => e i (by omega) (by omega))⟩
theorem pT_at : ∀ (l : List (Nat × Nat)) (w : px_FW), (∀ y, y ∈ l → y.1 ≤ 8 ∧ y.2 < 2 ^ 64) → w.1 + (l.map Prod.fst).sum ≤ 65536 → (pT (mL l) w).1 = w.1 + (l.map Prod.fst).sum ∧ (∀ i, i < w.1 → (pT (mL l) w).2 i = w.2 i) ∧ itA (pT (mL l) w).2 w.1 l
  | [], w, _, _ => ⟨rfl, fun _ _ => rfl, trivial⟩
  | y :: l, w, hy, hz => by
    rw [List.map_cons, List.sum_cons] at hz
    obtain ⟨y1, y2⟩ := hy y (List.mem_cons_self ..)
    obtain ⟨a1, a2, a3⟩ := wPut_at (w := w) y2 y1 (by omega)
    have e : pT (mL (y :: l)) w = pT (mL l) (wPut 65536 y.1 (lN y.2) w) := rfl
    obtain ⟨b1, b2, b3⟩ := pT_at l (wPut 65536 y.1 (lN y.2) w) (fun z hz => hy z (List.mem_cons_of_mem _ hz)) (by rw [a1]; omega)
    rw [e, List.map_cons, List.sum_cons]
    refine ⟨by rw [b1, a1]; omega, fun i hi => (b2 i (by rw [a1]; omega)).trans (a2 i hi), fun j hj => (b2 (w.1 + j) (by rw [a1]; omega)).trans (a3 j hj), ?_⟩
    rw [a1] at b3
    exact b3
theorem pu_at {f : Nat → Int64} : ∀ (d j : Nat) (w : px_FW), w.1 + d ≤ 65536 → (∀ i, i < w.1 → (itr (fun i => wPut 65536 1 (f i)) j d w).2 i = w.2 i) ∧ ∀ t, t < d → (itr (fun i => wPut 65536 1 (f i)) j d w).2 (w.1 + t) = bV (f (j + t)) 0 := by
  intro d
  induction d with
  | zero => intro j w _; exact ⟨fun _ _ => rfl, fun t ht => absurd ht (Nat.not_lt_zero _)⟩
  | succ d ih =>
    intro j w hz
    have e : wPut 65536 1 (f j) w = (w.1 + 1, upd w.2 w.1 (bV (f j) 0)) := by
      unfold wPut
      rw [itr_s, itr_0]
      unfold wP1
      rw [if_neg (by omega)]
    rw [itr_s, e]
    obtain ⟨a2, a3⟩ := ih (j + 1) (w.1 + 1, upd w.2 w.1 (bV (f j) 0)) (by show w.1 + 1 + d ≤ 65536; omega)
    refine ⟨fun i hi => ?_, fun t ht => ?_⟩
    · rw [a2 i (by show i < w.1 + 1; omega)]
      exact pk_un (by omega)
    · by_cases c : t = 0
      · subst c
        simp only [Nat.add_zero]
        rw [a2 w.1 (Nat.lt_succ_self _)]
        exact pk_us
      · obtain ⟨t', rfl⟩ : ∃ t', t = t' + 1 := ⟨t - 1, by omega⟩
        have a4 := a3 t' (by omega)
        have a4 : _ = bV (f (j + 1 + t')) 0 := a4
        rw [show w.1 + (t' + 1) = w.1 + 1 + t' by omega, show j + (t' + 1) = j + 1 + t' by omega]
        exact a4
theorem wFil_at {e : Nat} {b : Int32} (i : Nat) (hi : i < w.1) : (wFil e b w).2 i = w.2 i := by
  unfold wFil
  split
  · rfl
  · exact if_pos hi
theorem mag7 : ∀ j, j < 7 → bV ((nI ([127, 69, 76, 70, 2, 1, 1].getD j 0)).toInt64) 0 = nB 282584257676671 j := by decide +kernel
/-- the head that the class writes -/
theorem hdW_at {en n : Nat} {sg b : Int32} {g : Nat → Int32} (hen : en < 2 ^ 64) (hn : (sg + b).toInt64 = lN n) (hn4 : n < 2 ^ 16) : (hdW (lN en) sg b (0, g)).1 = 64 ∧ HD7 (hdW (lN en) sg b (0, g)).2 en n ∧ vAt (hdW (lN en) sg b (0, g)).2 58 2 0 := by
  refine ⟨hdW_z, ?_⟩
  unfold hdW
  have z1 := pu_z (f := fun i => (nI ([127, 69, 76, 70, 2, 1, 1].getD i 0)).toInt64) 7 0 (0, g) (by show 0 + 7 ≤ 65536; decide)
  have z1 : (itr (fun i => wPut 65536 1 ((nI ([127, 69, 76, 70, 2, 1, 1].getD i 0)).toInt64)) 0 7 (0, g)).1 = 7 := z1
  have m1 := (pu_at (f := fun i => (nI ([127, 69, 76, 70, 2, 1, 1].getD i 0)).toInt64) 7 0 (0, g) (by show 0 + 7 ≤ 65536; decide)).2
  have m1 : ∀ t, t < 7 → (itr (fun i => wPut 65536 1 ((nI ([127, 69, 76, 70, 2, 1, 1].getD i 0)).toInt64)) 0 7 (0, g)).2 t = nB 282584257676671 t := fun t ht => by
    have w := m1 t ht
    have w : (itr (fun i => wPut 65536 1 ((nI ([127, 69, 76, 70, 2, 1, 1].getD i 0)).toInt64)) 0 7 (0, g)).2 (0 + t) = bV ((nI ([127, 69, 76, 70, 2, 1, 1].getD (0 + t) 0)).toInt64) 0 := w
    rw [Nat.zero_add] at w
    exact w.trans (mag7 t ht)
  generalize itr (fun i => wPut 65536 1 ((nI ([127, 69, 76, 70, 2, 1, 1].getD i 0)).toInt64)) 0 7 (0, g) = w1 at *
  have z2 := wFil_z (e := 16) (b := (nI 0).toInt8.toInt32.toInt8.toInt32) (w := w1) (by omega)
  have m2 : ∀ t, t < 7 → (wFil 16 (nI 0).toInt8.toInt32.toInt8.toInt32 w1).2 t = nB 282584257676671 t := fun t ht => (wFil_at t (by omega)).trans (m1 t ht)
  generalize wFil 16 (nI 0).toInt8.toInt32.toInt8.toInt32 w1 = w2 at *
  have s3 : (([(2, 2), (2, 62), (4, 1)] : List (Nat × Nat)).map Prod.fst).sum = 8 := rfl
  obtain ⟨z3, p3, i3⟩ := pT_at [(2, 2), (2, 62), (4, 1)] w2 (by decide) (by rw [s3]; omega)
  rw [s3] at z3
  have e3 : mL [(2, 2), (2, 62), (4, 1)] = [(2, (2 : Int64)), (2, (62 : Int64)), (4, lN 1)] := rfl
  rw [e3] at z3 p3 i3
  generalize pT [(2, (2 : Int64)), (2, (62 : Int64)), (4, lN 1)] w2 = w3 at *
  have s4 : (([(8, en), (8, 64), (8, 0), (4, 0), (2, 64), (2, 56), (2, n), (6, 0)] : List (Nat × Nat)).map Prod.fst).sum = 40 := rfl
  obtain ⟨z4, p4, i4⟩ := pT_at [(8, en), (8, 64), (8, 0), (4, 0), (2, 64), (2, 56), (2, n), (6, 0)] w3 (fun y hy => by
    simp only [List.mem_cons, List.not_mem_nil, or_false] at hy
    rcases hy with rfl | rfl | rfl | rfl | rfl | rfl | rfl | rfl
    · exact ⟨Nat.le_refl 8, hen⟩
    · exact ⟨by decide, by decide⟩
    · exact ⟨by decide, by decide⟩
    · exact ⟨by decide, by decide⟩
    · exact ⟨by decide, by decide⟩
    · exact ⟨by decide, by decide⟩
    · exact ⟨show 2 ≤ 8 by decide, by show n < 2 ^ 64; omega⟩
    · exact ⟨by decide, by decide⟩) (by rw [s4]; omega)
  have e4 : mL [(8, en), (8, 64), (8, 0), (4, 0), (2, 64), (2, 56), (2, n), (6, 0)] = hdL (lN en) sg b := by
    unfold hdL
    rw [hn]
    rfl
  rw [e4] at p4 i4
  have q2 : w2.1 = 16 := z2
  have q3 : w3.1 = 24 := by rw [z3, q2]
  rw [q3] at p4 i4
  rw [q2] at i3 p3
  simp only [itA, Nat.reduceAdd, and_true] at i3 i4
  obtain ⟨j1, j2, j3⟩ := i3
  obtain ⟨l1, l2, l3, l4, l5, l6, l7, l8⟩ := i4
  refine ⟨⟨fun j hj => ?_, vAt_lo j1 (by decide : 16 + 2 ≤ 24) p4, vAt_lo j2 (by decide : 18 + 2 ≤ 24) p4, vAt_lo j3 (by decide : 20 + 4 ≤ 24) p4, l1, l2, l6, l7⟩, fun j hj => l8 j (by omega)⟩
  rw [Nat.zero_add, p4 j (by omega), p3 j (by omega)]
  exact m2 j hj
/-- a row that the class writes -/
theorem rwL_at {τ : px_TT} {a b : Int32} {j : Nat} {v : Int64} {r : px_R7} (ha : a.toInt64 = lN r.1) (hb : b.toInt64 = lN r.2.1) (e4 : eJ τ 1704 j = lN r.2.2.1) (e5 : eJ τ 1705 j = lN r.2.2.2.1) (e6 : eJ τ 1706 j = lN r.2.2.2.2.1) (e7 : eJ τ 1707 j = lN r.2.2.2.2.2.1) (ev : v = lN r.2.2.2.2.2.2) (h1 : r.1 < 256) (h2 : r.2.1 < 2 ^ 32) (h3 : r.2.2.1 < 2 ^ 64) (h4 : r.2.2.2.1 < 2 ^ 64) (h5 : r.2.2.2.2.1 < 2 ^ 64) (h6 : r.2.2.2.2.2.1 < 2 ^ 64) (h7 : r.2.2.2.2.2.2 < 2 ^ 64) (hz : w.1 + 56 ≤ 65536) : (pT (rwL τ a b j v) w).1 = w.1 + 56 ∧ (∀ i, i < w.1 → (pT (rwL τ a b j v) w).2 i = w.2 i) ∧ RW7 (pT (rwL τ a b j v) w).2 w.1 r := by
  obtain ⟨r1, r2, r3, r4, r5, r6, r7⟩ := r
  have s4 : (([(4, r1), (4, r2), (8, r3), (8, r4), (8, r4), (8, r5), (8, r6), (8, r7)] : List (Nat × Nat)).map Prod.fst).sum = 56 := rfl
  obtain ⟨z4, p4, i4⟩ := pT_at [(4, r1), (4, r2), (8, r3), (8, r4), (8, r4), (8, r5), (8, r6), (8, r7)] w (fun y hy => by
    simp only [List.mem_cons, List.not_mem_nil, or_false] at hy
    rcases hy with rfl | rfl | rfl | rfl | rfl | rfl | rfl | rfl
    · exact ⟨show 4 ≤ 8 by decide, Nat.lt_trans h1 (by decide)⟩
    · exact ⟨show 4 ≤ 8 by decide, Nat.lt_trans h2 (by decide)⟩
    · exact ⟨Nat.le_refl 8, h3⟩
    · exact ⟨Nat.le_refl 8, h4⟩
    · exact ⟨Nat.le_refl 8, h4⟩
    · exact ⟨Nat.le_refl 8, h5⟩
    · exact ⟨Nat.le_refl 8, h6⟩
    · exact ⟨Nat.le_refl 8, h7⟩) (by rw [s4]; omega)
  have e0 : mL [(4, r1), (4, r2), (8, r3), (8, r4), (8, r4), (8, r5), (8, r6), (8, r7)] = rwL τ a b j v := by
    unfold rwL
    rw [ha, hb, e4, e5, e6, e7, ev]
    rfl
  rw [e0, s4] at z4
  rw [e0] at p4 i4
  obtain ⟨l1, l2, l3, l4, l5, l6, l7, l8, _⟩ := i4
  refine ⟨z4, p4, ⟨l1, h1⟩, fun _ => ⟨l2, ?_, ?_, ?_, ?_, ?_⟩⟩
  · rw [show w.1 + 8 = w.1 + 4 + 4 by omega]; exact l3
  · rw [show w.1 + 16 = w.1 + 4 + 4 + 8 by omega]; exact l4
  · rw [show w.1 + 32 = w.1 + 4 + 4 + 8 + 8 + 8 by omega]; exact l6
  · rw [show w.1 + 40 = w.1 + 4 + 4 + 8 + 8 + 8 + 8 by omega]; exact l7
  · rw [show w.1 + 48 = w.1 + 4 + 4 + 8 + 8 + 8 + 8 + 8 by omega]; exact l8
/-- what is set behind the rows leaves them -/
theorem wS1_lo {p b : Int32} (hp : ¬ p < 0 → H ≤ iN p) (i : Nat) (hi : i < H) : (wS1 p b w).2 i = w.2 i := by
  unfold wS1
  by_cases c1 : p < 0
  · rw [if_pos c1]
  · rw [if_neg c1]
    by_cases c2 : w.1 ≤ iN p
    · rw [if_pos c2]
    · rw [if_neg c2]
      exact pk_un (by have := hp c1; omega)
theorem itr_lo {g : Nat → px_FW → px_FW} (hg : ∀ j w, ∀ i, i < H → (g j w).2 i = w.2 i) : ∀ (d j : Nat) (w : px_FW), ∀ i, i < H → (itr g j d w).2 i = w.2 i := by
  intro d
  induction d with
  | zero => intro j w i _; rw [itr_0]
  | succ d ih => intro j w i hi; rw [itr_s, ih _ _ i hi, hg j w i hi]
theorem itr_lo2 {g : Nat → px_FW → px_FW} {a n : Nat} (hg : ∀ j w, a ≤ j → j < n → ∀ i, i < H → (g j w).2 i = w.2 i) : ∀ (d j : Nat) (w : px_FW), a ≤ j → j + d ≤ n → ∀ i, i < H → (itr g j d w).2 i = w.2 i := by
  intro d
  induction d with
  | zero => intro j w _ _ i _; rw [itr_0]
  | succ d ih => intro j w ha hn i hi; rw [itr_s, ih _ _ (by omega) (by omega) i hi, hg j w ha (by omega) i hi]
theorem wSet_lo {q : Nat} {v : Int64} (hq : H ≤ q) (h31 : q + k < 2 ^ 31) (i : Nat) (hi : i < H) : (wSet (nI q) k v w).2 i = w.2 i := by
  unfold wSet
  refine itr_lo2 (a := 0) (n := k) (fun j w _ hj i hi => wS1_lo (fun _ => ?_) i hi) k 0 w (Nat.zero_le _) (by omega) i hi
  rw [nI_add, iN_n (by omega)]
  omega
theorem wCov_lo {S : Nat → Int32} {N : Nat} {p q m : Int32} (hp : iN m = 0 ∨ H ≤ iN p) (i : Nat) (hi : i < H) : (wCov S N p q m w).2 i = w.2 i := by
  unfold wCov
  split
  · rfl
  · split
    · rfl
    · split
      · rfl
      · split
        · exact pk_cpy_out (by omega)
        · rfl
theorem foldl_lo {f : px_FW → Nat → px_FW} : ∀ (l : List Nat) (w : px_FW), (∀ w x, x ∈ l → ∀ i, i < H → (f w x).2 i = w.2 i) → ∀ i, i < H → (l.foldl f w).2 i = w.2 i
  | [], _, _, _, _ => rfl
  | x :: l, w, hf, i, hi => by rw [List.foldl_cons, foldl_lo l _ (fun w y hy => hf w y (List.mem_cons_of_mem _ hy)) i hi, hf w x (List.mem_cons_self ..) i hi]
theorem plW_lo {S P Lg : Nat → Int32} {C : Nat → Nat} {l : List Nat} (hl : ∀ (i f : Nat), l[i]? = some f → Lg i = nI ((st C f).length + 1)) : ∀ (d k q : Nat) (w : px_FW), k + d = l.length → H ≤ q → q + psz C (l.drop k) ≤ 65536 → ∀ i, i < H → (plW S P Lg d k (nI q) w).2 i = w.2 i := by
  intro d
  induction d with
  | zero => intro k q w _ _ _ i _; rw [plW_0]
  | succ d ih =>
    intro k q w hk hq hz i hi
    obtain ⟨f, hf⟩ : ∃ f, l[k]? = some f := ⟨_, List.getElem?_eq_getElem (by omega)⟩
    rw [drop_x hf] at hz
    have hz : q + (((st C f).length + 1) + psz C (l.drop (k + 1))) ≤ 65536 := hz
    rw [plW_s, hl k f hf, nI_add, ih (k + 1) (q + ((st C f).length + 1)) _ (by omega) (by omega) (by omega) i hi]
    exact wCov_lo (Or.inr (by rw [iN_n (by omega)]; exact hq)) i hi
theorem shW_lo {q K : Nat} {v : Int64} (hq : H + 2 ≤ q) (h31 : q + 8 < 2 ^ 31) (i : Nat) (hi : i < H) : (shW (nI q) K v w).2 i = w.2 i := by
  have s1 : nI q - nI 1 = nI (q - 1) := pk_sub (by omega)
  have s2 : nI q - nI 2 = nI (q - 2) := pk_sub (by omega)
  unfold shW
  rw [s1, s2, nI_add]
  split
  · rw [wSet_lo (by omega) (by omega) i hi, wSet_lo (by omega) (by omega) i hi, wSet_lo (by omega) (by omega) i hi]
  · split
    · rw [wSet_lo (by omega) (by omega) i hi, wSet_lo (by omega) (by omega) i hi]
    · rw [wSet_lo (by omega) (by omega) i hi, wSet_lo (by omega) (by omega) i hi]
theorem siW_lo {q Hh Lv K : Nat} {v : Int64} (hq : Hh ≠ 0 → H ≤ q ∧ wd Hh ≤ 8) (hK : K ≠ 0 → 2 ≤ Lv) (h31 : q + Lv + 8 < 2 ^ 31) (i : Nat) (hi : i < H) : (siW (nI q) Hh Lv K v w).2 i = w.2 i := by
  unfold siW
  by_cases c0 : Hh = 0
  · rw [if_pos c0]
  · obtain ⟨h1, h2⟩ := hq c0
    rw [if_neg c0, nI_add]
    by_cases c1 : K = 0
    · rw [if_pos c1]
      exact wSet_lo (by omega) (by omega) i hi
    · rw [if_neg c1]
      have := hK c1
      exact shW_lo (by omega) (by omega) i hi
end FWP
end
section
/-! the file of the class: head and rows -/
/-- the rows of the segments that are there -/
def r7s (fp bg fz mz : Nat → Nat) (s : Nat) : px_R7 := (1, [5, 4, 6].getD s 0, fp s, bg s, fz s, mz s, 4096)
def rL7 (th : Nat → Bool) (r : Nat → px_R7) : Nat → List px_R7
  | 0 => []
  | s + 1 => rL7 th r s ++ (if th s = true then [r s] else [])
/-- .. and the template's -/
def rT7 (th : Nat → Bool) (r : Nat → px_R7) (thr : Bool) : List px_R7 := rL7 th r 3 ++ (if thr = true then [(7, 0, 0, 0, 0, 0, 0)] else [])
theorem rL7_len {th : Nat → Bool} {r : Nat → px_R7} : ∀ n, (rL7 th r n).length = sgN th n
  | 0 => rfl
  | n + 1 => by
    show (rL7 th r n ++ (if th n = true then [r n] else [])).length = sgN th n + (if th n = true then 1 else 0)
    rw [List.length_append, rL7_len n]
    split <;> rfl
theorem rT7_len {th : Nat → Bool} {r : Nat → px_R7} {thr : Bool} : (rT7 th r thr).length = sgN th 3 + (if thr = true then 1 else 0) := by
  unfold rT7
  rw [List.length_append, rL7_len]
  split <;> rfl
section CFL
variable {τ : px_TT} {fs : px_FS} {s : px_TK} {xs : px_NL} {en n : Nat} {w : px_FW} {l : List px_R7} {th : Nat → Bool} {fp bg fz mz : Nat → Nat}
theorem rs_at {j : Nat} (hj : j < 3) (e : eI τ 1703 j = bI (th j)) (e4 : eJ τ 1704 j = lN (fp j)) (e5 : eJ τ 1705 j = lN (bg j)) (e6 : eJ τ 1706 j = lN (fz j)) (e7 : eJ τ 1707 j = lN (mz j)) (h4 : fp j < 2 ^ 64) (h5 : bg j < 2 ^ 64) (h6 : fz j < 2 ^ 64) (h7 : mz j < 2 ^ 64) (hl : l.length ≤ 4) (hw : w.1 = 64 + 56 * l.length) (h : EX8 w.2 en n l) : (rsW τ j w).1 = 64 + 56 * (l ++ (if th j = true then [r7s fp bg fz mz j] else [])).length ∧ EX8 (rsW τ j w).2 en n (l ++ (if th j = true then [r7s fp bg fz mz j] else [])) := by
  unfold rsW
  rw [e]
  cases th j with
  | false =>
    rw [if_pos (show bI false = 0 from rfl), if_neg (by decide), List.append_nil]
    exact ⟨hw, h⟩
  | true =>
    have h6' : [5, 4, 6].getD j 0 ≤ 6 := by
      have : j = 0 ∨ j = 1 ∨ j = 2 := by omega
      rcases this with rfl | rfl | rfl <;> decide
    rw [if_neg (show ¬ bI true = 0 by decide), if_pos rfl]
    obtain ⟨a1, a2, a3⟩ := rwL_at (τ := τ) (a := nI 1) (b := nI ([5, 4, 6].getD j 0)) (j := j) (v := (4096 : Int64)) (r := r7s fp bg fz mz j) (w := w) rfl (nI_l (by omega)) e4 e5 e6 e7 rfl (show 1 < 256 by decide) (show [5, 4, 6].getD j 0 < 2 ^ 32 by omega) h4 h5 h6 h7 (show 4096 < 2 ^ 64 by decide) (by omega)
    rw [hw] at a2 a3
    refine ⟨?_, EX8_app h a2 a3⟩
    rw [a1, List.length_append, List.length_singleton]
    omega
theorem rs3_at (e : ∀ j, j < 3 → eI τ 1703 j = bI (th j)) (hv : ∀ j, j < 3 → (eJ τ 1704 j = lN (fp j) ∧ eJ τ 1705 j = lN (bg j) ∧ eJ τ 1706 j = lN (fz j) ∧ eJ τ 1707 j = lN (mz j)) ∧ fp j < 2 ^ 64 ∧ bg j < 2 ^ 64 ∧ fz j < 2 ^ 64 ∧ mz j < 2 ^ 64) (hw : w.1 = 64) (h : EX8 w.2 en n []) : (itr (rsW τ) 0 3 w).1 = 64 + 56 * (rL7 th (r7s fp bg fz mz) 3).length ∧ EX8 (itr (rsW τ) 0 3 w).2 en n (rL7 th (r7s fp bg fz mz) 3) := by
  have st : ∀ (j : Nat) (w : px_FW), j < 3 → w.1 = 64 + 56 * (rL7 th (r7s fp bg fz mz) j).length → EX8 w.2 en n (rL7 th (r7s fp bg fz mz) j) → (rsW τ j w).1 = 64 + 56 * (rL7 th (r7s fp bg fz mz) (j + 1)).length ∧ EX8 (rsW τ j w).2 en n (rL7 th (r7s fp bg fz mz) (j + 1)) := fun j w hj h1 h2 => by
    obtain ⟨⟨v1, v2, v3, v4⟩, v5, v6, v7, v8⟩ := hv j hj
    have hlen : (rL7 th (r7s fp bg fz mz) j).length ≤ 4 := by
      rw [rL7_len]
      have : j = 0 ∨ j = 1 ∨ j = 2 := by omega
      have t0 : ∀ k, sgN th (k + 1) ≤ sgN th k + 1 := fun k => by show sgN th k + (if th k = true then 1 else 0) ≤ _; split <;> omega
      have z0 : sgN th 0 = 0 := rfl
      have t1 : sgN th 1 ≤ sgN th 0 + 1 := t0 0
      have t2 : sgN th 2 ≤ sgN th 1 + 1 := t0 1
      rcases this with rfl | rfl | rfl
      · omega
      · exact Nat.le_trans t1 (by omega)
      · exact Nat.le_trans t2 (by omega)
    exact rs_at hj (e j hj) v1 v2 v3 v4 v5 v6 v7 v8 hlen h1 h2
  rw [itr_s, itr_s, itr_s, itr_0]
  obtain ⟨a1, a2⟩ := st 0 w (by decide) hw h
  obtain ⟨b1, b2⟩ := st 1 _ (by decide) a1 a2
  exact st 2 _ (by decide) b1 b2
theorem tm_at {thr : Bool} (e : eI τ 1703 3 = bI thr) (hl : l.length ≤ 4) (hw : w.1 = 64 + 56 * l.length) (h : EX8 w.2 en n l) : (tmW τ w).1 = 64 + 56 * (l ++ (if thr = true then [(7, 0, 0, 0, 0, 0, 0)] else [])).length ∧ EX8 (tmW τ w).2 en n (l ++ (if thr = true then [(7, 0, 0, 0, 0, 0, 0)] else [])) := by
  unfold tmW
  rw [e]
  cases thr with
  | false =>
    rw [if_pos (show bI false = 0 from rfl), if_neg (by decide), List.append_nil]
    exact ⟨hw, h⟩
  | true =>
    rw [if_neg (show ¬ bI true = 0 by decide), if_pos rfl]
    obtain ⟨p, hp, ep⟩ := wb_of (eJ τ 1704 3)
    obtain ⟨a, ha, ea⟩ := wb_of (eJ τ 1705 3)
    obtain ⟨f, hf, ef⟩ := wb_of (eJ τ 1706 3)
    obtain ⟨m, hm, em⟩ := wb_of (eJ τ 1707 3)
    obtain ⟨x, hx, ex⟩ := wb_of (fJ τ 1700 16)
    obtain ⟨a1, a2, a3⟩ := rwL_at (τ := τ) (a := nI 7) (b := nI 4) (j := 3) (v := fJ τ 1700 16) (r := (7, 4, p, a, f, m, x)) (w := w) rfl rfl ep ea ef em ex (show 7 < 256 by decide) (show 4 < 2 ^ 32 by decide) hp ha hf hm hx (by omega)
    rw [hw] at a2 a3
    have a3' : RW7 (pT (rwL τ (nI 7) (nI 4) 3 (fJ τ 1700 16)) w).2 (64 + 56 * l.length) (7, 0, 0, 0, 0, 0, 0) := ⟨a3.1, fun q => absurd q (by decide)⟩
    refine ⟨?_, EX8_app h a2 a3'⟩
    rw [a1, List.length_append, List.length_singleton]
    omega
/-- head and rows before anything else is written -/
theorem wr0_at {v : Int64} {thr : Bool} {g : Nat → Int32} (ev : v = lN en) (hen : en < 2 ^ 64) (e : ∀ j, j < 3 → eI τ 1703 j = bI (th j)) (e3 : eI τ 1703 3 = bI thr) (hv : ∀ j, j < 3 → (eJ τ 1704 j = lN (fp j) ∧ eJ τ 1705 j = lN (bg j) ∧ eJ τ 1706 j = lN (fz j) ∧ eJ τ 1707 j = lN (mz j)) ∧ fp j < 2 ^ 64 ∧ bg j < 2 ^ 64 ∧ fz j < 2 ^ 64 ∧ mz j < 2 ^ 64) : (tmW τ (itr (rsW τ) 0 3 (hdW v (nI (sgN th 3)) (if eI τ 1703 3 = 0 then nI 0 else nI 1) (0, g)))).1 = 64 + 56 * (rT7 th (r7s fp bg fz mz) thr).length ∧ EX8 (tmW τ (itr (rsW τ) 0 3 (hdW v (nI (sgN th 3)) (if eI τ 1703 3 = 0 then nI 0 else nI 1) (0, g)))).2 en (rT7 th (r7s fp bg fz mz) thr).length (rT7 th (r7s fp bg fz mz) thr) := by
  have h3 : sgN th 3 ≤ 3 := by
    have hs : sgN th 3 = 0 + (if th 0 = true then 1 else 0) + (if th 1 = true then 1 else 0) + (if th 2 = true then 1 else 0) := rfl
    rw [hs]
    repeat (first | omega | split)
  have hn : ((nI (sgN th 3)) + (if eI τ 1703 3 = 0 then nI 0 else nI 1)).toInt64 = lN (rT7 th (r7s fp bg fz mz) thr).length := by
    rw [rT7_len, e3]
    cases thr with
    | false => rw [if_pos (show bI false = 0 from rfl), if_neg (by decide), nI_add, nI_l (by omega)]
    | true => rw [if_neg (show ¬ bI true = 0 by decide), if_pos rfl, nI_add, nI_l (by omega)]
  have hlt : (rT7 th (r7s fp bg fz mz) thr).length < 2 ^ 16 := by
    rw [rT7_len]
    split <;> omega
  rw [ev]
  obtain ⟨a1, a2⟩ := hdW_at (g := g) hen hn hlt
  generalize hdW (lN en) (nI (sgN th 3)) (if eI τ 1703 3 = 0 then nI 0 else nI 1) (0, g) = w0 at *
  obtain ⟨b1, b2⟩ := rs3_at (n := (rT7 th (r7s fp bg fz mz) thr).length) e hv a1 ⟨⟨a2.1, fun k r hk => by cases hk⟩, a2.2⟩
  exact tm_at e3 (by rw [rL7_len]; omega) b1 b2
end CFL
section CFM
variable {sk : Nat → Nat × Nat × Nat} {L : Nat} {τ : px_TT} {own : Nat → Nat × Nat} {fs : px_FS} {s : px_TK} {xs : px_NL} {ST rn : Nat → Bool} {C B : Nat → Nat} {ll sl cpf : List Nat} {tO : Nat → Nat} {th : Nat → Bool} {NA : Nat → Int64} {pp : Nat} {ad : Nat → Nat} {fe3 tp sp fp0 fp1 fp2 bg0 bg1 bg2 H : Nat} {on : Bool} {R : Nat → Bool} {w : px_FW}
theorem LAD_47 (hL : LAD sk L own τ fs s xs ST rn ll sl C B cpf tO th NA pp ad fe3 tp sp fp0 fp1 fp2 bg0 bg1 bg2) {j : Nat} (hj : j < 3) : eJ τ 1704 j = lN (seg3 fp0 fp1 fp2 j) ∧ eJ τ 1705 j = lN (seg3 bg0 bg1 bg2 j) := by
  have h4 := hL.2.2.2.2.2.2.2.2.2.1
  have h5 := hL.2.2.2.2.2.2.2.2.2.2
  have : j = 0 ∨ j = 1 ∨ j = 2 := by omega
  rcases this with rfl | rfl | rfl
  · exact ⟨h4.1, h5.1⟩
  · exact ⟨h4.2.1, h5.2.1⟩
  · exact ⟨h4.2.2, h5.2.2⟩
/-- where a part stands, as a number -/
theorem spV_n (hL : LAD sk L own τ fs s xs ST rn ll sl C B cpf tO th NA pp ad fe3 tp sp fp0 fp1 fp2 bg0 bg1 bg2) {x g : Nat} (hx : x ∈ ll) (hg : sgO (oG (tB fs s.2.2.1 (x / 24)) (x % 24)) = g) (hb : seg3 bg0 bg1 bg2 g ≤ ad x) : spV τ fs s x = nI (seg3 fp0 fp1 fp2 g + (ad x - seg3 bg0 bg1 bg2 g)) := by
  have h2 := sgO_2 (g := oG (tB fs s.2.2.1 (x / 24)) (x % 24))
  obtain ⟨e4, e5⟩ := LAD_47 hL (j := g) (by omega)
  unfold spV
  rw [hg, e4, e5, hL.2.2.2.2.2.1 x hx, lN_add, lN_sub (by omega), lN_i]
  congr 1
  omega
theorem seW_lo (hL : LAD sk L own τ fs s xs ST rn ll sl C B cpf tO th NA pp ad fe3 tp sp fp0 fp1 fp2 bg0 bg1 bg2) (hlo : hLo (tB fs s.2.2.1) ll ad (seg3 fp0 fp1 fp2) (seg3 bg0 bg1 bg2)) (hH : ∀ j, j < 3 → H ≤ seg3 fp0 fp1 fp2 j) {x : Nat} (hx : x ∈ ll) (i : Nat) (hi : i < H) : (seW τ fs s w x).2 i = w.2 i := by
  obtain ⟨hx1, hx2⟩ := hL.1.2.1.2.1.2 x hx
  obtain ⟨p4, p5, _, _, p10, _⟩ := TKe_pt hL.1.1 hL.1.2.1.1 hx1 hx2
  have hg5 := oG_5 (b := tB fs s.2.2.1 (x / 24)) (i := x % 24)
  unfold seW
  rw [p4, p5, p10]
  by_cases c3 : nI (oG (tB fs s.2.2.1 (x / 24)) (x % 24)) = nI 3
  · rw [if_pos c3]
  · rw [if_neg c3]
    by_cases c5 : nI (oG (tB fs s.2.2.1 (x / 24)) (x % 24)) = nI 5
    · rw [if_pos c5]
    · rw [if_neg c5]
      cases eS : sS (tB fs s.2.2.1) x with
      | true => rw [if_neg (show ¬ bI true = 0 by decide)]
      | false =>
        rw [if_pos (show bI false = 0 from rfl)]
        by_cases cz : zS (tB fs s.2.2.1) x = 0
        · exact wCov_lo (Or.inl (by rw [cz]; exact iN_n (by decide))) i hi
        · obtain ⟨l1, l2⟩ := hlo x hx eS (fun q => c3 (by rw [q])) (fun q => c5 (by rw [q])) (by omega)
          have h2 := sgO_2 (g := oG (tB fs s.2.2.1 (x / 24)) (x % 24))
          have hHg := hH (sgO (oG (tB fs s.2.2.1 (x / 24)) (x % 24))) (by omega)
          rw [spV_n hL hx rfl l1]
          exact wCov_lo (Or.inr (by rw [iN_n (by omega)]; omega)) i hi
theorem psW_lo {SY : Nat → Nat → Int64} (hL : LAD sk L own τ fs s xs ST rn ll sl C B cpf tO th NA pp ad fe3 tp sp fp0 fp1 fp2 bg0 bg1 bg2) (hpool : 0 < psz C cpf → bg1 ≤ pp ∧ fp1 + (pp - bg1) + psz C cpf ≤ 65536) (hslot : 0 < sl.length → bg2 ≤ sp ∧ fp2 + (sp - bg2) + 8 * sl.length ≤ 65536) (h1 : H ≤ fp1) (h2 : H ≤ fp2) (i : Nat) (hi : i < H) : (psW τ SY tp sl cpf.length w).2 i = w.2 i := by
  have e4 := hL.2.2.2.2.2.2.2.2.2.1
  have e5 := hL.2.2.2.2.2.2.2.2.2.2
  have e1 : (plW (eI τ 8) (eI τ 1698) (eI τ 1699) cpf.length 0 (poP τ) w).2 i = w.2 i := by
    cases hc : cpf with
    | nil => rfl
    | cons f l =>
      rw [← hc]
      have hp : 0 < psz C cpf := by
        rw [hc]
        show 0 < ((st C f).length + 1) + psz C l
        omega
      obtain ⟨b1, b2⟩ := hpool hp
      have ep : poP τ = nI (fp1 + (pp - bg1)) := by
        unfold poP
        rw [e4.2.1, e5.2.1, hL.1.2.2.2.2.1, lN_add, lN_sub (by omega), lN_i]
        congr 1
        omega
      rw [ep]
      exact plW_lo (C := C) (l := cpf) (fun i f hf => (hL.1.2.2.2.1.2.2.2 i f hf).2) cpf.length 0 _ w (Nat.zero_add _) (by omega) (by rw [List.drop_zero]; exact b2) i hi
  unfold psW slW
  by_cases c0 : 0 < sl.length
  · obtain ⟨b1, b2⟩ := hslot c0
    have ep : slP τ = nI (fp2 + (sp - bg2)) := by
      unfold slP
      rw [e4.2.2, e5.2.2, hL.2.2.2.2.2.2.1 c0, lN_add, lN_sub (by omega), lN_i]
      congr 1
      omega
    rw [ep, itr_lo2 (H := H) (a := 0) (n := sl.length) (fun j w _ hj i hi => by
      rw [pk_mul, nI_add]
      exact wSet_lo (by omega) (by omega) i hi) sl.length 0 _ (Nat.zero_le _) (by omega) i hi]
    exact e1
  · rw [show sl.length = 0 by omega, itr_0]
    exact e1
theorem ar24 {t o S n : Nat} (h1 : o < S) (h2 : S ≤ 24) (h3 : t < n) : 24 * t + o < 24 * n := by omega
theorem ar24d {t o S : Nat} (h1 : o < S) (h2 : S ≤ 24) : (24 * t + o) / 24 = t := by omega
theorem ar24m {t o S : Nat} (h1 : o < S) (h2 : S ≤ 24) : (24 * t + o) % 24 = o := by omega
theorem ar_pos {a b z : Nat} (h : a + b ≤ z) (hb : b ≠ 0) : 0 < z := by omega
theorem ar_si {P A Q Lv W Z : Nat} (h1 : Q ≤ A) (h2 : P + (A + Z - Q) ≤ 65536) (h3 : Lv + W ≤ Z) : P + (A - Q) + Lv + 8 < 2 ^ 31 := by omega
theorem siJ_e {SV : Nat → Nat → Nat → Int64} {t i j : Nat} : siJ τ fs s xs SV t i j w = siW (spV τ fs s (24 * t + oI (tB fs s.2.2.1 t) i)) (sH (tB fs s.2.2.1 t) i j) (sL (tB fs s.2.2.1 t) i j) (skY (tB fs s.2.2.1) s.2.1.1 xs t i j) (SV t i j) w := rfl
theorem siW_0 {p : Int32} {Hh Lv K : Nat} {v : Int64} (h : Hh = 0) : siW p Hh Lv K v w = w := if_pos h
theorem siI_e {SV : Nat → Nat → Nat → Int64} {t i : Nat} : siI τ fs s xs ST SV t i w = if isS (tB fs s.2.2.1 t) i = true ∧ ST (24 * t + oI (tB fs s.2.2.1 t) i) = true then itr (siJ τ fs s xs SV t i) 0 (sN (tB fs s.2.2.1 t) i) w else w := rfl
/-- below H nothing is written -/
def LWf (H : Nat) (w y : px_FW) : Prop := ∀ i, i < H → y.2 i = w.2 i
theorem siJ_lo {SV : Nat → Nat → Nat → Int64} (hL : LAD sk L own τ fs s xs ST rn ll sl C B cpf tO th NA pp ad fe3 tp sp fp0 fp1 fp2 bg0 bg1 bg2) (hlo : hLo (tB fs s.2.2.1) ll ad (seg3 fp0 fp1 fp2) (seg3 bg0 bg1 bg2)) (hH : ∀ j, j < 3 → H ≤ seg3 fp0 fp1 fp2 j) {t k j m : Nat} (hm : eObj (tB fs s.2.2.1 t) m = 0) (hk1 : 1 ≤ k) (hk : k < oS (tB fs s.2.2.1 t)) (c1 : isS (tB fs s.2.2.1 t) k = true) (hx : 24 * t + oI (tB fs s.2.2.1 t) k ∈ ll) (hj : j < sN (tB fs s.2.2.1 t) k) : LWf H w (siJ τ fs s xs SV t k j w) := by
  have hS24 := (eObj_0 hm).1.1.2.1.2
  have he := eSit_0 hm hk1 hk c1
  have e1 : (24 * t + oI (tB fs s.2.2.1 t) k) / 24 = t := ar24d he.1 hS24
  have e2 : (24 * t + oI (tB fs s.2.2.1 t) k) % 24 = oI (tB fs s.2.2.1 t) k := ar24m he.1 hS24
  have ez : zS (tB fs s.2.2.1) (24 * t + oI (tB fs s.2.2.1 t) k) = oZ (tB fs s.2.2.1 t) (oI (tB fs s.2.2.1 t) k) := by unfold zS; rw [e1, e2]
  have hok := sOK_0w (he.2.2.2.2.2 j hj)
  rw [siJ_e]
  by_cases c0 : sH (tB fs s.2.2.1 t) k j = 0
  · rw [siW_0 c0]
    exact fun _ _ => rfl
  · have hwd0 : wd (sH (tB fs s.2.2.1 t) k j) ≠ 0 := fun e => by
      unfold wd at e
      rw [if_neg c0] at e
      split at e
      · cases e
      · split at e <;> cases e
    have h8 := hok.2.2.elim (fun q => absurd q hwd0) id
    have hG := oG_8 h8.1
    have hl := hlo _ hx (by unfold sS; rw [e1, e2]; exact sS_no hk c1) (by rw [e1, e2]; exact hG.1) (by rw [e1, e2]; exact hG.2) (by rw [ez]; exact ar_pos h8.2 hwd0)
    rw [e1, e2, ez] at hl
    have hHg := hH (sgO (oG (tB fs s.2.2.1 t) (oI (tB fs s.2.2.1 t) k))) (Nat.lt_succ_of_le sgO_2)
    have hwd8 : wd (sH (tB fs s.2.2.1 t) k j) ≤ 8 := by
      have h16 := hok.1
      unfold wd at h16 ⊢
      repeat (first | omega | (split at h16 <;> split) | (exfalso; omega))
    rw [spV_n hL hx (g := sgO (oG (tB fs s.2.2.1 t) (oI (tB fs s.2.2.1 t) k))) (by rw [e1, e2]) hl.1]
    have hq : skY (tB fs s.2.2.1) s.2.1.1 xs t k j ≠ 0 → 2 ≤ sL (tB fs s.2.2.1 t) k j := fun q => by
      unfold skY at q
      split at q
      · rename_i c
        exact c.2.2.1
      · exact absurd rfl q
    have h31 := ar_si hl.1 hl.2 h8.2
    generalize skY (tB fs s.2.2.1) s.2.1.1 xs t k j = K at *
    generalize sL (tB fs s.2.2.1 t) k j = Lv at *
    generalize sH (tB fs s.2.2.1 t) k j = Hh at *
    exact fun i hi => siW_lo (fun _ => ⟨Nat.le_trans hHg (Nat.le_add_right _ _), hwd8⟩) hq h31 i hi
theorem siI_lo {SV : Nat → Nat → Nat → Int64} (hL : LAD sk L own τ fs s xs ST rn ll sl C B cpf tO th NA pp ad fe3 tp sp fp0 fp1 fp2 bg0 bg1 bg2) (hlo : hLo (tB fs s.2.2.1) ll ad (seg3 fp0 fp1 fp2) (seg3 bg0 bg1 bg2)) (hH : ∀ j, j < 3 → H ≤ seg3 fp0 fp1 fp2 j) {t k m : Nat} (hm : eObj (tB fs s.2.2.1 t) m = 0) (hk : k < oS (tB fs s.2.2.1 t)) (ht : t < s.2.2.1.length) : LWf H w (siI τ fs s xs ST SV t k w) := by
  have hS24 := (eObj_0 hm).1.1.2.1.2
  rw [siI_e]
  by_cases c : isS (tB fs s.2.2.1 t) k = true ∧ ST (24 * t + oI (tB fs s.2.2.1 t) k) = true
  · rw [if_pos c]
    obtain ⟨c1, c2⟩ := c
    have hk1 : 1 ≤ k := by
      rcases Nat.eq_zero_or_pos k with e | e
      · rw [e, isS_0 hm] at c1; cases c1
      · exact e
    have he := eSit_0 hm hk1 hk c1
    have hx : 24 * t + oI (tB fs s.2.2.1 t) k ∈ ll := hL.1.2.1.2.2 _ (ar24 he.1 hS24 ht) c2
    have hJ : ∀ j w, j < sN (tB fs s.2.2.1 t) k → LWf H w (siJ τ fs s xs SV t k j w) := fun j w hj => siJ_lo hL hlo hH hm hk1 hk c1 hx hj
    generalize sN (tB fs s.2.2.1 t) k = n at hJ ⊢
    generalize siJ τ fs s xs SV t k = G at hJ ⊢
    exact fun i hi => itr_lo2 (g := G) (H := H) (a := 0) (n := n) (fun j w _ hj i hi => hJ j w hj i hi) n 0 w (Nat.zero_le _) (by omega) i hi
  · rw [if_neg c]
    exact fun _ _ => rfl
theorem siT_lo {SV : Nat → Nat → Nat → Int64} (hL : LAD sk L own τ fs s xs ST rn ll sl C B cpf tO th NA pp ad fe3 tp sp fp0 fp1 fp2 bg0 bg1 bg2) (hlo : hLo (tB fs s.2.2.1) ll ad (seg3 fp0 fp1 fp2) (seg3 bg0 bg1 bg2)) (hH : ∀ j, j < 3 → H ≤ seg3 fp0 fp1 fp2 j) {t : Nat} (ht : t < s.2.2.1.length) (i : Nat) (hi : i < H) : (siT τ fs s xs ST SV t w).2 i = w.2 i := by
  obtain ⟨q, _, _, _, _, he, _⟩ := TKe_ob hL.1.1 ht
  unfold siT
  exact itr_lo2 (g := siI τ fs s xs ST SV t) (H := H) (a := 0) (n := oS (tB fs s.2.2.1 t)) (fun k w _ hk i hi => siI_lo hL hlo hH he hk ht i hi) (oS (tB fs s.2.2.1 t)) 0 w (Nat.zero_le _) (Nat.le_of_eq (Nat.zero_add _)) i hi
end CFM
end
section
/-! the bytes that the reference writes: what each step makes of OUT -/
abbrev px_OF : Type := Nat → Int32
/-- a number is put; bytes are copied -/
def rp (q k : Nat) (v : Int64) (f : px_OF) : px_OF := fun i => if q ≤ i ∧ i < q + k then bRv v (i - q) else f i
def by8 (x : Nat) : Int32 := (nI x).toInt8.toInt32
def rc (q k n : Nat) (S : Nat → Nat) (f : px_OF) : px_OF := fun i => if q + k ≤ i ∧ i < q + n then by8 (S (i - q)) else f i
theorem rc_s {q k n : Nat} {S : Nat → Nat} {f : px_OF} (h : k < n) : rc q (k + 1) n S (upd f (q + k) (by8 (S k))) = rc q k n S f := by
  funext i
  unfold rc
  by_cases c : q + (k + 1) ≤ i ∧ i < q + n
  · rw [if_pos c, if_pos ⟨by omega, c.2⟩]
  · rw [if_neg c]
    by_cases c2 : i = q + k
    · rw [c2, upd_eq, if_pos ⟨Nat.le_refl _, by omega⟩, Nat.add_sub_cancel_left]
    · rw [upd_ne c2, if_neg (fun w => c ⟨by omega, w.2⟩)]
theorem rc_e {q n : Nat} {S : Nat → Nat} {f : px_OF} : rc q n n S f = f := by
  funext i
  unfold rc
  rw [if_neg (by omega)]
def WRc (φ : px_OF → px_OF) (σ σ' : px_S) : Prop := WRo σ σ' ∧ gA σ' 3 = φ (gA σ 3)
theorem WRc_tr {φ ψ : px_OF → px_OF} {σ σ1 σ2 : px_S} (h : WRc φ σ σ1) (g : WRc ψ σ1 σ2) : WRc (fun f => ψ (φ f)) σ σ2 := ⟨WRo_tr h.1 g.1, by rw [g.2, h.2]⟩
theorem WRc_id {σ : px_S} (h3 : ∀ k, isB (gA σ 3 k)) : WRc (fun f => f) σ σ := ⟨⟨FR_refl σ, h3⟩, rfl⟩
theorem WRc_e {φ ψ : px_OF → px_OF} {σ σ' : px_S} (h : WRc φ σ σ') (e : φ (gA σ 3) = ψ (gA σ 3)) : WRc ψ σ σ' := ⟨h.1, h.2.trans e⟩
theorem WRc_set {σ : px_S} {i : Nat} {v : Int32} (h3 : ∀ k, isB (gA σ 3 k)) (hv : isB v) : WRc (fun f => upd f i v) σ (sA σ 3 (upd (gA σ 3) i v)) := ⟨WRo_set h3 hv, by rw [gA_sA, if_pos rfl]⟩
/-- a site -/
def rsq1 (q sk : Nat) (f : px_OF) : px_OF := if sk = 1 then upd f (q - 2) ((Int8.ofInt (-115)).toInt32).toInt8.toInt32 else f
def rsq2 (q sk : Nat) (f : px_OF) : px_OF := if sk = 2 then rp (q - 2) 2 (59495 : Int64) f else f
def rsq3 (q sk : Nat) (f : px_OF) : px_OF := if sk = 3 then upd (upd f (q - 2) ((Int8.ofInt (-23)).toInt32).toInt8.toInt32) (q + 3) ((Int8.ofInt (-112)).toInt32).toInt8.toInt32 else f
def rsi (q n sk : Nat) (v : Int64) (f : px_OF) : px_OF := rsq3 q sk (rsq2 q sk (rsq1 q sk (rp (if sk = 3 then q - 1 else q) n v f)))
section MCT
variable {F m : Nat} {h : px_H}
theorem q_putC {σ : px_S} {at0 n : Nat} {v : Int64} (hm : m ≤ h.length) (hF : 65536 < F) (ha : at0 + n ≤ 65536) (h3 : ∀ k, isB (gA σ 3 k)) : ∃ σ', f_M_put F m (nI at0) v (nI n) (mh m h σ) = some ((), mh m h σ') ∧ WRc (rp at0 n v) σ σ' := by
  obtain ⟨σ', e, w1, w2, w3⟩ := q_putV (F := F) (σ := σ) (at0 := at0) (n := n) (v := v) hm hF ha h3
  exact ⟨σ', e, ⟨w1, w2⟩, funext w3⟩
theorem q_fillSiteC {σ : px_S} {at0 n sk : Nat} {v : Int64} (hm : m ≤ h.length) (hF : 65536 < F) (ha : at0 + n ≤ 65536) (hsk : sk ≤ 3) (h2 : 0 < sk → 2 ≤ at0 ∧ at0 + 4 ≤ 65536) (h3 : ∀ k, isB (gA σ 3 k)) : ∃ σ', f_M_fillSite F m (nI at0) v (nI n) (nI sk) (mh m h σ) = some ((), mh m h σ') ∧ WRc (rsi at0 n sk v) σ σ' := by
  have e14 : ∀ a1, a1 + n ≤ 65536 → ∃ σ', f_M_fillSite_14 F m (nI at0) v (nI n) (nI sk) m (nI a1) (mh m h σ) = some ((), mh m h σ') ∧ WRc (fun f => rsq3 at0 sk (rsq2 at0 sk (rsq1 at0 sk (rp a1 n v f)))) σ σ' := by
    intro a1 ha1
    obtain ⟨σ1, p1, p2⟩ := q_putC (F := F) (h := h) (v := v) hm hF ha1 h3
    have e53 : ∀ σ2, (∀ k, isB (gA σ2 3 k)) → ∃ σ', f_M_fillSite_53 F m (nI at0) (nI sk) (mh m h σ2) = some ((), mh m h σ') ∧ WRc (rsq3 at0 sk) σ2 σ' := by
      intro σ2 h32
      unfold f_M_fillSite_53
      by_cases c3 : sk = 3
      · have := h2 (by omega)
        rw [if_pos (by rw [c3]), Mr3 hm, bs, pk_sub (by omega), Ms3 hm (by omega), bs]
        have w1 := WRc_set (i := at0 - 2) h32 (isB_8 ((Int8.ofInt (-23)).toInt32))
        rw [Mr3 hm, bs, nI_add, Ms3 hm (by omega), bs]
        have w2 := WRc_set (i := at0 + 3) w1.1.2 (isB_8 ((Int8.ofInt (-112)).toInt32))
        exact ⟨_, rfl, WRc_e (WRc_tr w1 w2) (by unfold rsq3; rw [if_pos c3])⟩
      · rw [if_neg (fun q => c3 ((nI_eq (by omega) (by decide)).mp q))]
        exact ⟨σ2, rfl, WRc_e (WRc_id h32) (by unfold rsq3; rw [if_neg c3])⟩
    have e36 : ∀ σ2, (∀ k, isB (gA σ2 3 k)) → ∃ σ', f_M_fillSite_36 F m (nI at0) (nI sk) (mh m h σ2) = some ((), mh m h σ') ∧ WRc (fun f => rsq3 at0 sk (rsq2 at0 sk f)) σ2 σ' := by
      intro σ2 h32
      unfold f_M_fillSite_36
      by_cases c2 : sk = 2
      · have := h2 (by omega)
        obtain ⟨σ3, q1, q2⟩ := q_putC (F := F) (h := h) (σ := σ2) (at0 := at0 - 2) (n := 2) (v := (59495 : Int64)) hm hF (by omega) h32
        obtain ⟨σ4, r1, r2⟩ := e53 σ3 q2.1.2
        rw [if_pos (by rw [c2]), e_o hm, bs, pk_sub (by omega), q1, xb_mk]
        exact ⟨σ4, r1, WRc_e (WRc_tr q2 r2) (by unfold rsq2; rw [if_pos c2])⟩
      · rw [if_neg (fun q => c2 ((nI_eq (by omega) (by decide)).mp q))]
        obtain ⟨σ4, r1, r2⟩ := e53 σ2 h32
        exact ⟨σ4, r1, WRc_e r2 (by unfold rsq2; rw [if_neg c2])⟩
    unfold f_M_fillSite_14
    rw [e_o hm, bs, p1, xb_mk]
    by_cases c1 : sk = 1
    · have := h2 (by omega)
      have w1 := WRc_set (σ := σ1) (i := at0 - 2) p2.1.2 (isB_8 ((Int8.ofInt (-115)).toInt32))
      obtain ⟨σ4, r1, r2⟩ := e36 _ w1.1.2
      rw [if_pos (by rw [c1]), Mr3 hm, bs, pk_sub (by omega), Ms3 hm (by omega), bs]
      exact ⟨σ4, r1, WRc_e (WRc_tr p2 (WRc_tr w1 r2)) (by unfold rsq1; rw [if_pos c1])⟩
    · obtain ⟨σ4, r1, r2⟩ := e36 σ1 p2.1.2
      rw [if_neg (fun q => c1 ((nI_eq (by omega) (by decide)).mp q))]
      exact ⟨σ4, r1, WRc_e (WRc_tr p2 r2) (by unfold rsq1; rw [if_neg c1])⟩
  unfold f_M_fillSite
  by_cases c3 : sk = 3
  · have := h2 (by omega)
    rw [if_pos (by rw [c3]), pk_sub (by omega)]
    obtain ⟨σ', r1, r2⟩ := e14 (at0 - 1) (by omega)
    exact ⟨σ', r1, WRc_e r2 (by unfold rsi; rw [if_pos c3])⟩
  · rw [if_neg (fun q => c3 ((nI_eq (by omega) (by decide)).mp q))]
    obtain ⟨σ', r1, r2⟩ := e14 at0 ha
    exact ⟨σ', r1, WRc_e r2 (by unfold rsi; rw [if_neg c3])⟩
end MCT
/-- where section x stands in the file -/
def fpX (tb : Nat → Nat → Nat) (ad fpS bgS : Nat → Nat) (x : Nat) : Nat := fpS (sgO (oG (tb (x / 24)) (x % 24))) + ad x - bgS (sgO (oG (tb (x / 24)) (x % 24)))
def r1F (tb : Nat → Nat → Nat) (dr : Nat → Bool) (xs : px_NL) (ad fpS bgS : Nat → Nat) (SV : Nat → Nat → Nat → Int64) (t i j : Nat) (f : px_OF) : px_OF := if sH (tb t) i j = 0 then f else rsi (fpS (sgO (oG (tb t) (oI (tb t) i))) + (ad (24 * t + oI (tb t) i) + sL (tb t) i j) - bgS (sgO (oG (tb t) (oI (tb t) i)))) (wd (sH (tb t) i j)) (skY tb dr xs t i j) (SV t i j) f
def rIF (tb : Nat → Nat → Nat) (dr : Nat → Bool) (xs : px_NL) (sy : Nat → Nat → Bool) (ad fpS bgS : Nat → Nat) (SV : Nat → Nat → Nat → Int64) (t i : Nat) (f : px_OF) : px_OF := if isS (tb t) i = true ∧ sy t (oI (tb t) i) = true then itr (r1F tb dr xs ad fpS bgS SV t i) 0 (sN (tb t) i) f else f
def rTF (tb : Nat → Nat → Nat) (dr : Nat → Bool) (xs : px_NL) (sy : Nat → Nat → Bool) (ad fpS bgS : Nat → Nat) (SV : Nat → Nat → Nat → Int64) (t : Nat) (f : px_OF) : px_OF := itr (rIF tb dr xs sy ad fpS bgS SV t) 1 (oS (tb t) - 1) f
def rslF (fpS bgS : Nat → Nat) (sp : Nat) (SY : Nat → Nat → Int64) (tp : Nat) (sl : List Nat) (k : Nat) (f : px_OF) : px_OF := rp (fpS 2 + (sp - bgS 2) + 8 * k) 8 (slV SY tp (sl.getD k 0)) f
def rseF (tb : Nat → Nat → Nat) (tO : Nat → Nat) (B : Nat → Nat) (ad fpS bgS : Nat → Nat) (f : px_OF) (x : Nat) : px_OF := if oG (tb (x / 24)) (x % 24) = 3 ∨ oG (tb (x / 24)) (x % 24) = 5 ∨ oStr (tb (x / 24)) (x % 24) = true then f else rc (fpX tb ad fpS bgS x) 0 (zS tb x) (fun k => B (tO (x / 24) + (oP (tb (x / 24)) (x % 24) + k))) f
def rpoF (B : Nat → Nat) (pf : List Nat) (fpS bgS : Nat → Nat) (pp : Nat) (f : px_OF) : px_OF := rc (fpS 1 + pp - bgS 1) 0 (psz B pf) (fun k => B ((PPl B pf).getD k 0)) f
section MCF
variable {F m T t i : Nat} {h : px_H} {B : Nat → Nat} {tb : Nat → Nat → Nat} {tO tn tq : Nat → Nat} {dr : Nat → Bool} {xs : px_NL} {ll : List Nat} {on : Bool} {R : Nat → Bool} {NA : Nat → Int64} {ad fpS bgS : Nat → Nat} {sp tp pp : Nat} {k2 : Nat → Int32 → Int32 → px_H → Option (Unit × px_H)} {k19 : Nat → Int32 → Int32 → Int32 → Int32 → px_H → Option (Unit × px_H)} {SV : Nat → Nat → Nat → Int64}
theorem q_one1C {σ : px_S} {j : Nat} (hSV : SV = svF B tO tb dr xs (sta tb dr on R) ll (slL T tb dr xs (sta tb dr on R)) NA ad sp tp pp) (hm : m ≤ h.length) (hF : 65540 < F) (hf : RFo σ T tO tn tq tb dr xs on R ll B NA ad fpS bgS sp tp pp) (hN : FNo T tO tb dr xs (sta tb dr on R) ll B (slL T tb dr xs (sta tb dr on R))) (hlo : hLo tb ll ad fpS bgS) (had : ∀ x, ad x ≤ 2 ^ 39) (hfp : ∀ s, fpS s ≤ 2 ^ 39) (ht : t < T) (h1 : 1 ≤ i) (hi : i < oS (tb t)) (hs : isS (tb t) i = true) (hj : j < sN (tb t) i) (hsta : sta tb dr on R t (oI (tb t) i) = true) : ∃ σ', f_M_one F m (nI t) (nI i) (nI j) (nI 1) (mh m h σ) = some ((), mh m h σ') ∧ WRc (r1F tb dr xs ad fpS bgS SV t i j) σ σ' := by
  have hfn := hf.1
  have hb := hfn.1.1.1 t ht
  have he := eSit_0 hb.2.2.2.1 h1 hi hs
  have hok := sOK_0w (he.2.2.2.2.2 j hj)
  have h1o := oI_1 hb.2.2.2.1 h1 hi hs
  have hp := OB_sP hb h1 hi hs hj
  have hS24 := (OB_w hb).1.2.1.2
  have hsH : sH (tb t) i j < 2 ^ 32 := le_lt (OB_lt hb) _ 4
  have eSV : siV B (pf0 B tO tb ll) tO tb dr xs (sta tb dr on R) (slL T tb dr xs (sta tb dr on R)) (syA tb xs (ownV B (pf0 B tO tb ll) tO tb dr (sta tb dr on R) pp ad) NA) (siA tb ad t i j) sp tp pp t i j = SV t i j := by rw [hSV]; rfl
  unfold f_M_one f_M_one_138
  rw [e_o hm, bs, O_obj hm hb, xb_mk, e_o hm, bs, O_site hm (by omega) hb hi, xb_mk, e_o hm, bs, nI_add, O_sH hm (by omega) hb hp, xb_mk]
  by_cases c0 : sH (tb t) i j = 0
  · rw [if_pos (by rw [c0])]
    exact ⟨σ, rfl, WRc_e (WRc_id hf.2.2.2) (by unfold r1F; rw [if_pos c0])⟩
  · have hwd0 : wd (sH (tb t) i j) ≠ 0 := fun e => by
      unfold wd at e
      rw [if_neg c0] at e
      split at e
      · cases e
      · split at e <;> cases e
    have h8 := hok.2.2.elim (fun q => absurd q hwd0) id
    have hin := hN.2.2.2.2.1 t (oI (tb t) i) ht h1o he.1 hsta
    have e1 : (24 * t + oI (tb t) i) / 24 = t := by have := he.1; omega
    have e2 : (24 * t + oI (tb t) i) % 24 = oI (tb t) i := by have := he.1; omega
    have ez : zS tb (24 * t + oI (tb t) i) = oZ (tb t) (oI (tb t) i) := by unfold zS; rw [e1, e2]
    have hG := oG_8 h8.1
    have hl := hlo _ hin (by unfold sS; rw [e1, e2]; exact sS_no hi hs) (by rw [e1, e2]; exact hG.1) (by rw [e1, e2]; exact hG.2) (by rw [ez]; omega)
    rw [e1, e2, ez] at hl
    have hg5 : oG (tb t) (oI (tb t) i) ≤ 5 := by unfold oG; repeat (first | omega | split)
    have hsg := sgO_2 (g := oG (tb t) (oI (tb t) i))
    have hr1 : ∀ f, r1F tb dr xs ad fpS bgS SV t i j f = rsi (fpS (sgO (oG (tb t) (oI (tb t) i))) + (ad (24 * t + oI (tb t) i) + sL (tb t) i j) - bgS (sgO (oG (tb t) (oI (tb t) i)))) (wd (sH (tb t) i j)) (skY tb dr xs t i j) (SV t i j) f := fun f => by unfold r1F; rw [if_neg c0]
    generalize hsv : sgO (oG (tb t) (oI (tb t) i)) = s at *
    obtain ⟨r60, r61⟩ := hf.2.1 s (by omega)
    have hadx := had (24 * t + oI (tb t) i)
    have hfpx := hfp s
    generalize hav : ad (24 * t + oI (tb t) i) = a at *
    have hwd8 : wd (sH (tb t) i j) ≤ 8 := by
      have h16 := hok.1
      unfold wd at h16 ⊢
      repeat (first | omega | (split at h16 <;> split) | (exfalso; omega))
    have esi : siA tb ad t i j = lN (a + sL (tb t) i j) := by unfold siA; rw [hav]
    have ewd : wI (sH (tb t) i j) = nI (wd (sH (tb t) i j)) := by unfold wI; rw [if_neg hok.1]
    have hsk3 := skY_3 (tb := tb) (dr := dr) (xs := xs) (t := t) (i := i) (j := j)
    have hskL : 0 < skY tb dr xs t i j → 2 ≤ sL (tb t) i j ∧ wd (sH (tb t) i j) = 4 := fun q => by
      unfold skY at q
      split at q
      · rename_i c
        refine ⟨c.2.2.1, ?_⟩
        rcases c.1 with e | e <;> rw [e] <;> rfl
      · omega
    obtain ⟨σ', f1, f2⟩ := q_fillSiteC (F := F) (h := h) (σ := σ) (at0 := fpS s + (a + sL (tb t) i j) - bgS s) (n := wd (sH (tb t) i j)) (sk := skY tb dr xs t i j) (v := SV t i j) hm (by omega) (by omega) hsk3 (fun q => by have := hskL q; omega) hf.2.2.2
    refine ⟨σ', ?_, WRc_e f2 (hr1 _).symm⟩
    rw [if_neg (fun q => c0 ((lEQ (by omega) (by decide)).mp q)), e_o hm, bs, q_siteValue hm hF hfn hN ht h1 hi hs hj hsta h1o, eSV, xb_mk, if_neg (show ¬ nI 1 = 0 by decide), e_o hm, bs, O_info hm (by omega) hb hi, xb_mk, lN_i, e_o hm, bs, O_group hm (by omega) hb he.1, xb_mk, q_segmentOf (by omega), xb_mk, hsv, Mr60 hm, bs, Ma60 hm (by omega), bs, r60, e_o hm, bs, q_siteAddress hm hF hfn hN ht h1 hi hs hj hsta h1o, xb_mk, Mr61 hm, bs, Ma61 hm (by omega), bs, r61, q_width (by omega), xb_mk, e_o hm, bs, q_shortKind hm (by omega) hN.1 ⟨hfn.1.1.1, hfn.2.1.1, hfn.2.1.2.2⟩ ht h1 hi hs hj, xb_mk, e_o hm, bs, ewd]
    rw [show (lN (fpS s) + siA tb ad t i j - lN (bgS s)).toInt32 = nI (fpS s + (a + sL (tb t) i j) - bgS s) by rw [esi, lN_add, lN_sub (by omega), lN_i], f1, xb_mk]
theorem q_f1_61C (hSV : SV = svF B tO tb dr xs (sta tb dr on R) ll (slL T tb dr xs (sta tb dr on R)) NA ad sp tp pp) (hm : m ≤ h.length) (hF : 65540 < F) (hN : FNo T tO tb dr xs (sta tb dr on R) ll B (slL T tb dr xs (sta tb dr on R))) (hlo : hLo tb ll ad fpS bgS) (had : ∀ x, ad x ≤ 2 ^ 39) (hfp : ∀ s, fpS s ≤ 2 ^ 39) (ht : t < T) (h1 : 1 ≤ i) (hi : i < oS (tb t)) (hs : isS (tb t) i = true) (hsta : sta tb dr on R t (oI (tb t) i) = true) : ∀ (c j g : Nat) (σ : px_S), j + c = sN (tb t) i → c < g → RFo σ T tO tn tq tb dr xs on R ll B NA ad fpS bgS sp tp pp → ∃ σd, f_M_sites_61 F k2 k19 g m (nI 1) (nI t) (nI (tO t)) (nI i) (nI j) (mh m h σ) = k19 m (nI 1) (nI t) (nI (tO t)) (nI (i + 1)) (mh m h σd) ∧ WRc (itr (r1F tb dr xs ad fpS bgS SV t i) j c) σ σd := by
  intro c
  induction c with
  | zero =>
    intro j g σ hj hg hf
    obtain ⟨g, rfl⟩ : ∃ x, g = x + 1 := ⟨g - 1, by omega⟩
    have hb := hf.1.1.1.1 t ht
    have hz := (eSit_0 hb.2.2.2.1 h1 hi hs).2.2.2.1
    have hn := hb.2.2.1
    have hsz : sN (tb t) i < 2 ^ 30 := by unfold sN; omega
    unfold f_M_sites_61 f_M_sites_96
    rw [e_o hm, bs, O_sN hm (by omega) hb h1 hi hs, xb_mk, if_pos (nI_le (by omega) (by omega)), nI_add]
    exact ⟨σ, rfl, WRc_e (WRc_id hf.2.2.2) itr_0.symm⟩
  | succ c ih =>
    intro j g σ hj hg hf
    obtain ⟨g, rfl⟩ : ∃ x, g = x + 1 := ⟨g - 1, by omega⟩
    have hb := hf.1.1.1.1 t ht
    have hz := (eSit_0 hb.2.2.2.1 h1 hi hs).2.2.2.1
    have hn := hb.2.2.1
    have hsz : sN (tb t) i < 2 ^ 30 := by unfold sN; omega
    obtain ⟨σ1, a1, a2⟩ := q_one1C (F := F) (j := j) hSV hm hF hf hN hlo had hfp ht h1 hi hs (by omega) hsta
    obtain ⟨σ2, b1, b2⟩ := ih (j + 1) g σ1 (by omega) (by omega) (RFo_W hf a2.1)
    unfold f_M_sites_61
    rw [e_o hm, bs, O_sN hm (by omega) hb h1 hi hs, xb_mk, if_neg (nI_ge (by omega) (by omega)), Mg13 hm, bs, hf.2.2.1, if_pos (show nI 0 = 0 from rfl), e_o hm, bs, a1, xb_mk, nI_add]
    exact ⟨σ2, b1, WRc_e (WRc_tr a2 b2) itr_s.symm⟩
theorem q_f1_19C (hSV : SV = svF B tO tb dr xs (sta tb dr on R) ll (slL T tb dr xs (sta tb dr on R)) NA ad sp tp pp) (hm : m ≤ h.length) (hF : 65540 < F) (hN : FNo T tO tb dr xs (sta tb dr on R) ll B (slL T tb dr xs (sta tb dr on R))) (hlo : hLo tb ll ad fpS bgS) (had : ∀ x, ad x ≤ 2 ^ 39) (hfp : ∀ s, fpS s ≤ 2 ^ 39) (ht : t < T) : ∀ (c i g : Nat) (σ : px_S), 1 ≤ i → i + c = oS (tb t) → c < g → RFo σ T tO tn tq tb dr xs on R ll B NA ad fpS bgS sp tp pp → ∃ σd, f_M_sites_19 F k2 g m (nI 1) (nI t) (nI (tO t)) (nI i) (mh m h σ) = k2 m (nI 1) (nI (t + 1)) (mh m h σd) ∧ WRc (itr (rIF tb dr xs (sta tb dr on R) ad fpS bgS SV t) i c) σ σd := by
  intro c
  induction c with
  | zero =>
    intro i g σ h1 hi hg hf
    obtain ⟨g, rfl⟩ : ∃ x, g = x + 1 := ⟨g - 1, by omega⟩
    have hb := hf.1.1.1.1 t ht
    have hs24 := (OB_w hb).1.2.1.2
    unfold f_M_sites_19 f_M_sites_102
    rw [e_o hm, bs, O_sec hm (by omega) hb, xb_mk, if_pos (nI_le (by omega) (by omega)), nI_add]
    exact ⟨σ, rfl, WRc_e (WRc_id hf.2.2.2) itr_0.symm⟩
  | succ c ih =>
    intro i g σ h1 hi hg hf
    obtain ⟨g, rfl⟩ : ∃ x, g = x + 1 := ⟨g - 1, by omega⟩
    have hb := hf.1.1.1.1 t ht
    have hs24 := (OB_w hb).1.2.1.2
    have hiS : i < oS (tb t) := by omega
    have nx : ∀ σ1, WRc (rIF tb dr xs (sta tb dr on R) ad fpS bgS SV t i) σ σ1 → ∃ σd, f_M_sites_19 F k2 g m (nI 1) (nI t) (nI (tO t)) (nI (i + 1)) (mh m h σ1) = k2 m (nI 1) (nI (t + 1)) (mh m h σd) ∧ WRc (itr (rIF tb dr xs (sta tb dr on R) ad fpS bgS SV t) i (c + 1)) σ σd := fun σ1 w => by
      obtain ⟨σ2, b1, b2⟩ := ih (i + 1) g σ1 (by omega) (by omega) (by omega) (RFo_W hf w.1)
      exact ⟨σ2, b1, WRc_e (WRc_tr w b2) itr_s.symm⟩
    unfold f_M_sites_19 f_M_sites_96
    rw [e_o hm, bs, O_sec hm (by omega) hb, xb_mk, if_neg (nI_ge (by omega) (by omega)), e_o hm, bs, O_isS hm (by omega) hb hiS, xb_mk, nI_add]
    cases es : isS (tb t) i with
    | false =>
      rw [if_pos (show bI false = 0 from rfl)]
      exact nx σ (WRc_e (WRc_id hf.2.2.2) (by unfold rIF; rw [if_neg (by rw [es]; exact fun q => nomatch q.1)]))
    | true =>
      have he := eSit_0 hb.2.2.2.1 h1 hiS es
      rw [if_neg (show ¬ bI true = 0 by decide), e_o hm, bs, O_info hm (by omega) hb hiS, xb_mk, lN_i, e_o hm, bs, q_stays hm (by omega) hb hf.1.2.1.1 hf.1.2.1.2.1 he.1, xb_mk]
      cases er : sta tb dr on R t (oI (tb t) i) with
      | false =>
        rw [if_pos (show bI false = 0 from rfl)]
        exact nx σ (WRc_e (WRc_id hf.2.2.2) (by unfold rIF; rw [if_neg (by rw [er]; exact fun q => nomatch q.2)]))
      | true =>
        have hz := he.2.2.2.1
        have hn := hb.2.2.1
        have hsz : sN (tb t) i < 65536 := by unfold sN; omega
        obtain ⟨σ1, d1, d2⟩ := q_f1_61C (F := F) (k2 := k2) (k19 := f_M_sites_19 F k2 g) hSV hm hF hN hlo had hfp ht h1 hiS es er (sN (tb t) i) 0 F σ (by omega) (by omega) hf
        rw [if_neg (show ¬ bI true = 0 by decide), d1]
        exact nx σ1 (WRc_e d2 (by unfold rIF; rw [if_pos ⟨es, er⟩]))
theorem q_sites1C (hSV : SV = svF B tO tb dr xs (sta tb dr on R) ll (slL T tb dr xs (sta tb dr on R)) NA ad sp tp pp) (hm : m ≤ h.length) (hF : 65540 < F) (hN : FNo T tO tb dr xs (sta tb dr on R) ll B (slL T tb dr xs (sta tb dr on R))) (hlo : hLo tb ll ad fpS bgS) (had : ∀ x, ad x ≤ 2 ^ 39) (hfp : ∀ s, fpS s ≤ 2 ^ 39) : ∀ (c t g : Nat) (σ : px_S), t + c = T → c < g → RFo σ T tO tn tq tb dr xs on R ll B NA ad fpS bgS sp tp pp → ∃ σd, f_M_sites_2 F g m (nI 1) (nI t) (mh m h σ) = some ((), mh m h σd) ∧ WRc (itr (rTF tb dr xs (sta tb dr on R) ad fpS bgS SV) t c) σ σd := by
  have hT := hN.1.1
  intro c
  induction c with
  | zero =>
    intro t g σ ht hg hf
    obtain ⟨g, rfl⟩ : ∃ x, g = x + 1 := ⟨g - 1, by omega⟩
    unfold f_M_sites_2 f_M_sites_108
    rw [Mg14 hm, bs, hf.1.2.2.2.2.2.2.2.2, if_pos (nI_le (by omega) (by omega))]
    exact ⟨σ, rfl, WRc_e (WRc_id hf.2.2.2) itr_0.symm⟩
  | succ c ih =>
    intro t g σ ht hg hf
    obtain ⟨g, rfl⟩ : ∃ x, g = x + 1 := ⟨g - 1, by omega⟩
    have hb := hf.1.1.1.1 t (by omega)
    have hs24 := (OB_w hb).1.2.1
    obtain ⟨σ1, a1, a2⟩ := q_f1_19C (F := F) (k2 := f_M_sites_2 F g) (t := t) hSV hm hF hN hlo had hfp (by omega) (oS (tb t) - 1) 1 F σ (by omega) (by omega) (by omega) hf
    obtain ⟨σ2, b1, b2⟩ := ih (t + 1) g σ1 (by omega) (by omega) (RFo_W hf a2.1)
    unfold f_M_sites_2
    rw [Mg14 hm, bs, hf.1.2.2.2.2.2.2.2.2, if_neg (nI_ge (by omega) (by omega)), e_o hm, bs, O_obj hm hb, xb_mk, a1, b1]
    exact ⟨σ2, rfl, WRc_e (WRc_tr a2 b2) itr_s.symm⟩
end MCF
end
section
/-! the bytes of the class's file and of the reference's: the same -/
def EQf (H n : Nat) (w : px_FW) (f : px_OF) : Prop := w.1 = n ∧ ∀ i, H ≤ i → i < n → w.2 i = f i
theorem bVR {v : Int64} {j : Nat} (hj : j < 8) : bV v j = bRv v j := by
  obtain ⟨x, hx, rfl⟩ := wb_of v
  rw [bV_n hx hj, bRv_n hx hj]
section EQS
variable {H n q k : Nat} {v : Int64} {w y : px_FW} {f : px_OF}
theorem wS1_q {b : Int32} (hq : q < 2 ^ 31) : wS1 (nI q) b w = if w.1 ≤ q then w else (w.1, upd w.2 q b) := by
  unfold wS1
  rw [if_neg (nI_n0 hq), iN_n hq]
theorem wSi_pt (hq : q + 8 < 2 ^ 31) : ∀ (d j : Nat) (w : px_FW), j + d ≤ 8 → (itr (fun j => wS1 (nI q + nI j) (bV v j)) j d w).1 = w.1 ∧ ∀ i, i < w.1 → (itr (fun j => wS1 (nI q + nI j) (bV v j)) j d w).2 i = if q + j ≤ i ∧ i < q + j + d then bV v (i - q) else w.2 i := by
  intro d
  induction d with
  | zero =>
    intro j w _
    rw [itr_0]
    exact ⟨rfl, fun i _ => by rw [if_neg (by omega)]⟩
  | succ d ih =>
    intro j w h8
    rw [itr_s, nI_add, wS1_q (by omega)]
    by_cases c : w.1 ≤ q + j
    · rw [if_pos c]
      obtain ⟨p1, p2⟩ := ih (j + 1) w (by omega)
      refine ⟨p1, fun i hi => ?_⟩
      rw [p2 i hi]
      by_cases c2 : q + (j + 1) ≤ i ∧ i < q + (j + 1) + d
      · rw [if_pos c2, if_pos ⟨by omega, by omega⟩]
      · rw [if_neg c2, if_neg (by omega)]
    · rw [if_neg c]
      obtain ⟨p1, p2⟩ := ih (j + 1) (w.1, upd w.2 (q + j) (bV v j)) (by omega)
      refine ⟨p1, fun i hi => ?_⟩
      rw [p2 i hi]
      by_cases c2 : q + (j + 1) ≤ i ∧ i < q + (j + 1) + d
      · rw [if_pos c2, if_pos ⟨by omega, by omega⟩]
      · rw [if_neg c2]
        show upd w.2 (q + j) (bV v j) i = _
        by_cases c3 : i = q + j
        · rw [c3, upd_eq, if_pos ⟨Nat.le_refl _, by omega⟩, Nat.add_sub_cancel_left]
        · rw [upd_ne c3, if_neg (by omega)]
theorem EQ_set (hk : k ≤ 8) (hq : q + 8 < 2 ^ 31) (h : EQf H n w f) : EQf H n (wSet (nI q) k v w) (rp q k v f) := by
  obtain ⟨h1, h2⟩ := h
  obtain ⟨p1, p2⟩ := wSi_pt (v := v) hq k 0 w (by omega)
  refine ⟨wSet_z.trans h1, fun i hi hn => ?_⟩
  have e := p2 i (by omega)
  rw [Nat.add_zero] at e
  unfold wSet rp
  rw [e, h2 i hi hn]
  by_cases c : q ≤ i ∧ i < q + k
  · rw [if_pos c, if_pos c, bVR (by omega)]
  · rw [if_neg c, if_neg c]
theorem rp_1 : rp q 1 v f = upd f q (bRv v 0) := by
  funext i
  unfold rp
  by_cases c : i = q
  · rw [c, upd_eq, if_pos ⟨Nat.le_refl _, by omega⟩, Nat.sub_self]
  · rw [upd_ne c, if_neg (by omega)]
theorem rp_u {p : Nat} {b : Int32} (hd : p < q ∨ q + k ≤ p) : rp q k v (upd f p b) = upd (rp q k v f) p b := by
  funext i
  by_cases c : i = p
  · rw [c, upd_eq]
    unfold rp
    rw [if_neg (by omega), upd_eq]
  · rw [upd_ne c]
    unfold rp
    rw [upd_ne c]
theorem rp_rp {p j : Nat} {u : Int64} (hd : p + j ≤ q ∨ q + k ≤ p) : rp q k v (rp p j u f) = rp p j u (rp q k v f) := by
  funext i
  unfold rp
  by_cases c1 : q ≤ i ∧ i < q + k
  · rw [if_pos c1, if_neg (by omega), if_pos c1]
  · rw [if_neg c1]
    by_cases c2 : p ≤ i ∧ i < p + j
    · rw [if_pos c2, if_pos c2]
    · rw [if_neg c2, if_neg c2, if_neg c1]
theorem b233 : bRv (233 : Int64) 0 = ((Int8.ofInt (-23)).toInt32).toInt8.toInt32 := by decide +kernel
theorem b144 : bRv (144 : Int64) 0 = ((Int8.ofInt (-112)).toInt32).toInt8.toInt32 := by decide +kernel
theorem b141 : bRv (141 : Int64) 0 = ((Int8.ofInt (-115)).toInt32).toInt8.toInt32 := by decide +kernel
theorem EQ_site {P Hh Lv K : Nat} (hH : Hh ≠ 0) (hK3 : K ≤ 3) (hK : 0 < K → 2 ≤ P + Lv ∧ wd Hh = 4) (hw : wd Hh ≤ 8) (hq : P + Lv + 16 < 2 ^ 31) (h : EQf H n y f) : EQf H n (siW (nI P) Hh Lv K v y) (rsi (P + Lv) (wd Hh) K v f) := by
  unfold siW
  rw [if_neg hH, nI_add]
  generalize P + Lv = q at *
  by_cases c0 : K = 0
  · have e : rsi q (wd Hh) K v f = rp q (wd Hh) v f := by
      unfold rsi rsq3 rsq2 rsq1
      rw [if_neg (by omega), if_neg (by omega), if_neg (by omega), if_neg (by omega)]
    rw [if_pos c0, e]
    exact EQ_set hw (by omega) h
  · obtain ⟨k1, k2⟩ := hK (by omega)
    rw [if_neg c0, k2]
    unfold shW
    by_cases c3 : K = 3
    · have e : rsi q 4 K v f = rp (q + 3) 1 (144 : Int64) (rp (q - 1) 4 v (rp (q - 2) 1 (233 : Int64) f)) := by
        unfold rsi rsq3 rsq2 rsq1
        rw [if_pos c3, if_pos c3, if_neg (by omega), if_neg (by omega), rp_1, rp_1, rp_u (by omega), b233, b144]
      rw [if_pos c3, e, nI_add, pk_sub (by omega), pk_sub (by omega)]
      exact EQ_set (by decide) (by omega) (EQ_set (by decide) (by omega) (EQ_set (by decide) (by omega) h))
    · rw [if_neg c3]
      by_cases c2 : K = 2
      · have e : rsi q 4 K v f = rp q 4 v (rp (q - 2) 2 (59495 : Int64) f) := by
          unfold rsi rsq3 rsq2 rsq1
          rw [if_neg c3, if_neg c3, if_pos c2, if_neg (by omega), rp_rp (p := q - 2) (q := q) (by omega)]
        rw [if_pos c2, e, pk_sub (by omega)]
        exact EQ_set (by decide) (by omega) (EQ_set (by decide) (by omega) h)
      · have c1 : K = 1 := by omega
        have e : rsi q 4 K v f = rp q 4 v (rp (q - 2) 1 (141 : Int64) f) := by
          unfold rsi rsq3 rsq2 rsq1
          rw [if_neg c3, if_neg c3, if_neg c2, if_pos c1, rp_1, rp_u (by omega), b141]
        rw [if_neg c2, e, pk_sub (by omega)]
        exact EQ_set (by decide) (by omega) (EQ_set (by decide) (by omega) h)
theorem EQ_itr {g : Nat → px_FW → px_FW} {r : Nat → px_OF → px_OF} {a e : Nat} (hg : ∀ j w f, a ≤ j → j < e → EQf H n w f → EQf H n (g j w) (r j f)) : ∀ (d j : Nat) (w : px_FW) (f : px_OF), a ≤ j → j + d ≤ e → EQf H n w f → EQf H n (itr g j d w) (itr r j d f) := by
  intro d
  induction d with
  | zero => intro j w f _ _ h; rw [itr_0, itr_0]; exact h
  | succ d ih =>
    intro j w f h1 h2 h
    rw [itr_s, itr_s]
    exact ih (j + 1) _ _ (by omega) (by omega) (hg j w f h1 (by omega) h)
theorem EQ_fold {g : px_FW → Nat → px_FW} {r : px_OF → Nat → px_OF} : ∀ (l : List Nat) (w : px_FW) (f : px_OF), (∀ x w f, x ∈ l → EQf H n w f → EQf H n (g w x) (r f x)) → EQf H n w f → EQf H n (l.foldl g w) (l.foldl r f) := by
  intro l
  induction l with
  | nil => intro w f _ h; exact h
  | cons x l ih =>
    intro w f hg h
    rw [List.foldl_cons, List.foldl_cons]
    exact ih _ _ (fun y w f hy => hg y w f (List.mem_cons_of_mem _ hy)) (hg x w f List.mem_cons_self h)
/-- bytes are covered -/
theorem EQ_cov {S : Nat → Int32} {p s z : Nat} {T : Nat → Nat} (hp : p + z ≤ n) (hn : n ≤ 65536) (hs : s + z ≤ 65536) (hT : ∀ k, k < z → S (s + k) = by8 (T k)) (h : EQf H n w f) : EQf H n (wCov S 65536 (nI p) (nI s) (nI z) w) (rc p 0 z T f) := by
  obtain ⟨h1, h2⟩ := h
  have e : wCov S 65536 (nI p) (nI s) (nI z) w = (w.1, va_cpy S w.2 s p z) := by
    unfold wCov
    rw [if_neg (nI_n0 (by omega)), if_neg (nI_n0 (by omega)), if_neg (nI_n0 (by omega)), iN_n (by omega), iN_n (by omega), iN_n (by omega), if_pos ⟨by omega, hs⟩]
  rw [e]
  refine ⟨h1, fun i hi hin => ?_⟩
  show va_cpy S w.2 s p z i = rc p 0 z T f i
  unfold va_cpy rc
  rw [Nat.add_zero]
  by_cases c : p ≤ i ∧ i < p + z
  · rw [if_pos c, if_pos c, hT (i - p) (by omega)]
  · rw [if_neg c, if_neg c]
    exact h2 i hi hin
theorem EQ_cov0 {S : Nat → Int32} {p s : Int32} (h : EQf H n w f) : EQf H n (wCov S 65536 p s (nI 0) w) f := by
  unfold wCov
  split
  · exact h
  · split
    · exact h
    · split
      · exact h
      · split
        · refine ⟨h.1, fun i hi hn => ?_⟩
          show va_cpy S w.2 _ _ (iN (nI 0)) i = f i
          unfold va_cpy
          rw [iN_n (by decide), if_neg (by omega)]
          exact h.2 i hi hn
        · exact h
theorem rc_rc {p m q k : Nat} {S T : Nat → Nat} (hd : 0 < m → 0 < k → p + m ≤ q ∨ q + k ≤ p) : rc p 0 m S (rc q 0 k T f) = rc q 0 k T (rc p 0 m S f) := by
  funext i
  unfold rc
  rw [Nat.add_zero, Nat.add_zero]
  by_cases c1 : p ≤ i ∧ i < p + m
  · by_cases c2 : q ≤ i ∧ i < q + k
    · exact absurd (hd (by omega) (by omega)) (by omega)
    · rw [if_pos c1, if_neg c2, if_pos c1]
  · rw [if_neg c1]
    by_cases c2 : q ≤ i ∧ i < q + k
    · rw [if_pos c2, if_pos c2]
    · rw [if_neg c2, if_neg c2, if_neg c1]
end EQS
/-- where the strings' bytes come from -/
theorem st_at {B : Nat → Nat} {e : Nat} (he : e < 65536) : ∀ (d f j : Nat), f + d = e → (∀ x, f ≤ x → x < e → B x ≠ 0) → j < d → (st B f)[j]? = some (B (f + j)) := by
  intro d
  induction d with
  | zero => intro f j _ _ hj; exact absurd hj (Nat.not_lt_zero j)
  | succ d ih =>
    intro f j hf hx hj
    rw [st_n (by omega) (hx f (Nat.le_refl _) (by omega))]
    cases j with
    | zero => rfl
    | succ j =>
      rw [List.getElem?_cons_succ, ih (f + 1) j (by omega) (fun x h1 h2 => hx x (by omega) h2) (by omega)]
      congr 2
      omega
theorem st_by {C B : Nat → Nat} {f g e e' : Nat} (h : st C f = st B g) (hC : isSt C f e) (hB : isSt B g e') : e - f = e' - g ∧ ∀ j, j ≤ e - f → C (f + j) = B (g + j) := by
  obtain ⟨c1, c2, c3, c4⟩ := hC
  obtain ⟨b1, b2, b3, b4⟩ := hB
  have l1 := st_len c1 c3 (e - f) f (by omega) c4
  have l2 := st_len b1 b3 (e' - g) g (by omega) b4
  rw [h, l2] at l1
  refine ⟨l1.symm, fun j hj => ?_⟩
  by_cases c : j = e - f
  · rw [c, show f + (e - f) = e by omega, show g + (e - f) = e' by omega, c3, b3]
  · have a1 := st_at c1 (e - f) f j (by omega) c4 (by omega)
    have a2 := st_at b1 (e' - g) g j (by omega) b4 (by omega)
    rw [h, a2] at a1
    exact (Option.some.inj a1).symm
theorem PPl_by {C B : Nat → Nat} : ∀ (a b : List Nat), a.map (st C) = b.map (st B) → (∀ f, f ∈ a → ∃ e, isSt C f e) → (∀ f, f ∈ b → ∃ e, isSt B f e) → ∀ k, k < psz C a → C ((PPl C a).getD k 0) = B ((PPl B b).getD k 0) := by
  intro a
  induction a with
  | nil => intro b _ _ _ k hk; exact absurd hk (Nat.not_lt_zero k)
  | cons f a ih =>
    intro b h ha hb k hk
    cases b with
    | nil => cases h
    | cons g b =>
      rw [List.map_cons, List.map_cons] at h
      have h1 := (List.cons.inj h).1
      have h2 := (List.cons.inj h).2
      obtain ⟨e, he⟩ := ha f List.mem_cons_self
      obtain ⟨e', he'⟩ := hb g List.mem_cons_self
      obtain ⟨s1, s2⟩ := st_by h1 he he'
      have l1 := st_len he.1 he.2.2.1 (e - f) f (by have := he.2.1; omega) he.2.2.2
      have ll : (st B g).length = (st C f).length := by rw [h1]
      show C ((List.range' f ((st C f).length + 1) ++ PPl C a).getD k 0) = B ((List.range' g ((st B g).length + 1) ++ PPl B b).getD k 0)
      rw [ll, List.getD_eq_getElem?_getD, List.getD_eq_getElem?_getD]
      by_cases c : k < (st C f).length + 1
      · rw [List.getElem?_append_left (by rw [List.length_range']; exact c), List.getElem?_append_left (by rw [List.length_range']; exact c), List.getElem?_range' c, List.getElem?_range' c]
        show C (f + 1 * k) = B (g + 1 * k)
        rw [Nat.one_mul]
        exact s2 k (by omega)
      · have hk' : k < (st C f).length + 1 + psz C a := hk
        rw [List.getElem?_append_right (by rw [List.length_range']; omega), List.getElem?_append_right (by rw [List.length_range']; omega), List.length_range', List.length_range']
        have w := ih b h2 (fun f hf => ha f (List.mem_cons_of_mem _ hf)) (fun f hf => hb f (List.mem_cons_of_mem _ hf)) (k - ((st C f).length + 1)) (by omega)
        rw [List.getD_eq_getElem?_getD, List.getD_eq_getElem?_getD] at w
        exact w
section EQP
variable {H n : Nat} {f : px_OF} {C : Nat → Nat} {S P Lg : Nat → Int32}
/-- the class's pool -/
theorem EQ_pool {l : List Nat} (hn : n ≤ 65536) (hS : ∀ x, S x = by8 (C x)) (hl : ∀ (i f : Nat), l[i]? = some f → P i = nI f ∧ Lg i = nI ((st C f).length + 1)) (h6 : ∀ g, g ∈ l → ∃ e, isSt C g e) : ∀ (d k q : Nat) (w : px_FW) (f : px_OF), k + d = l.length → q + psz C (l.drop k) ≤ n → EQf H n w f → EQf H n (plW S P Lg d k (nI q) w) (rc q 0 (psz C (l.drop k)) (fun j => C ((PPl C (l.drop k)).getD j 0)) f) := by
  intro d
  induction d with
  | zero =>
    intro k q w f hk hq h
    rw [List.drop_eq_nil_of_le (by omega)]
    show EQf H n w (rc q 0 0 _ f)
    rw [rc_e]
    exact h
  | succ d ih =>
    intro k q w f hk hq h
    have hkl : k < l.length := by omega
    have hx := List.getElem?_eq_getElem hkl
    obtain ⟨p1, p2⟩ := hl k _ hx
    obtain ⟨e, he⟩ := h6 _ (List.getElem_mem hkl)
    have l1 := st_len he.1 he.2.2.1 (e - l[k]) l[k] (by have := he.2.1; omega) he.2.2.2
    have e1 := he.1
    have e2 := he.2.1
    rw [List.drop_eq_getElem_cons hkl] at hq ⊢
    generalize l[k] = g at *
    have hq' : q + ((st C g).length + 1 + psz C (l.drop (k + 1))) ≤ n := hq
    show EQf H n (plW S P Lg d (k + 1) (nI q + Lg k) (wCov S 65536 (nI q) (P k) (Lg k) w)) _
    rw [p1, p2, nI_add]
    have c1 := EQ_cov (S := S) (p := q) (s := g) (z := (st C g).length + 1) (T := fun j => C (g + j)) (by omega) hn (by omega) (fun j _ => hS (g + j)) h
    have c2 := ih (k + 1) (q + ((st C g).length + 1)) _ _ (by omega) (by omega) c1
    refine ⟨c2.1, fun i hi hin => ?_⟩
    rw [c2.2 i hi hin]
    unfold rc
    show _ = if q + 0 ≤ i ∧ i < q + ((st C g).length + 1 + psz C (l.drop (k + 1))) then by8 (C ((List.range' g ((st C g).length + 1) ++ PPl C (l.drop (k + 1))).getD (i - q) 0)) else f i
    simp only [Nat.add_zero]
    by_cases a1 : q + ((st C g).length + 1) ≤ i ∧ i < q + ((st C g).length + 1) + psz C (l.drop (k + 1))
    · rw [if_pos a1, if_pos ⟨by omega, by omega⟩, List.getD_eq_getElem?_getD, List.getD_eq_getElem?_getD, List.getElem?_append_right (by rw [List.length_range']; omega), List.length_range', show i - q - ((st C g).length + 1) = i - (q + ((st C g).length + 1)) by omega]
    · rw [if_neg a1]
      by_cases a2 : q ≤ i ∧ i < q + ((st C g).length + 1)
      · rw [if_pos a2, if_pos ⟨by omega, by omega⟩, List.getD_eq_getElem?_getD, List.getElem?_append_left (by rw [List.length_range']; omega), List.getElem?_range' (by omega)]
        show by8 (C (g + (i - q))) = by8 (C (g + 1 * (i - q)))
        rw [Nat.one_mul]
      · rw [if_neg a2, if_neg (by omega)]
end EQP
end
section
/-! the bytes of the class's file: what the reference writes -/
section MRN
variable {T : Nat} {B : Nat → Nat} {tb : Nat → Nat → Nat} {tO : Nat → Nat} {xs : px_NL} {ll od : List Nat} {on : Bool} {rn : Nat → Bool} {ns : Nat} {th : Nat → Bool} {fe0 bg0 fe1 mem1 bg1 fe2 mem2 bg2 sp fe3 : Nat} {G0 G1 G4 G5 G2 G3 CM : px_PG}
/-- the sections' bytes lie within the file, and not in the pool -/
def hIn (B tO : Nat → Nat) (tb : Nat → Nat → Nat) (ll : List Nat) (ad fpS bgS : Nat → Nat) (pp ns sp fe : Nat) : Prop := (∀ x, x ∈ ll → sS tb x = false → oG (tb (x / 24)) (x % 24) ≠ 3 → oG (tb (x / 24)) (x % 24) ≠ 5 → 0 < zS tb x → bgS (sgO (oG (tb (x / 24)) (x % 24))) ≤ ad x ∧ fpX tb ad fpS bgS x + zS tb x ≤ fe ∧ (0 < psz B (pf0 B tO tb ll) → fpX tb ad fpS bgS x + zS tb x ≤ fpS 1 + pp - bgS 1 ∨ fpS 1 + pp - bgS 1 + psz B (pf0 B tO tb ll) ≤ fpX tb ad fpS bgS x)) ∧ (0 < psz B (pf0 B tO tb ll) → bgS 1 ≤ pp ∧ fpS 1 + pp - bgS 1 + psz B (pf0 B tO tb ll) ≤ fe) ∧ (0 < ns → bgS 2 ≤ sp ∧ fpS 2 + (sp - bgS 2) + 8 * ns ≤ fe)
theorem LY_in (hY : LYo T tb ll) (hth : th = thS tb ll xs od on rn ns) (hL : LYe B tO tb ll xs od ns on rn th fe0 bg0 G0 fe1 mem1 bg1 G1 fe2 mem2 bg2 G4 G5 G2 sp G3 CM fe3) : hIn B tO tb ll G3.2.1 (seg3 (upN fe0 16) (upN fe1 16) (upN fe2 16)) (seg3 bg0 bg1 bg2) G1.1 ns sp fe3 := by
  obtain ⟨hT, hl, hnd, hZ⟩ := hY
  obtain ⟨l1, l2, l3, l4, l5, l6, l7, l8, l9, l10, l11, l12, l13, l14, l15, l16, l17⟩ := hL
  have u0 := upN_le (v := fe0) (a := 16) (by decide)
  have u1 := upN_le (v := fe1) (a := 16) (by decide)
  have u2 := upN_le (v := fe2) (a := 16) (by decide)
  have mo01 : fe0 ≤ fe1 := by rw [l4]; split <;> omega
  have mo12 : fe1 ≤ fe2 := by rw [l8]; split <;> omega
  have mo23 : fe2 ≤ fe3 := by rw [l17]; split <;> omega
  have thx_t : ∀ x, x ∈ ll → 0 < zS tb x → th (sgO (oG (tb (x / 24)) (x % 24))) = true := fun x hx hz => by
    rw [hth]
    unfold thS
    rw [show ll.any (thx tb (sgO (oG (tb (x / 24)) (x % 24)))) = true from List.any_eq_true.mpr ⟨x, hx, by unfold thx; rw [decide_eq_true rfl, decide_eq_true hz]; rfl⟩, Bool.true_or]
  have m4 := pgs_m (g := 4) (th := th 2) ll (bg2, psF B (pf0 B tO tb ll) tO tb G1.1 G1.2.1, none) hZ
  rw [← l11] at m4
  have m41 : bg2 ≤ G4.1 := m4.1
  have m2 := pgs_m (g := 2) (th := th 2) ll (G4.1, G5.2.1, none) hZ
  rw [← l13] at m2
  have m21 : G4.1 ≤ G2.1 := m2.1
  have hsp : G2.1 ≤ sp := by
    rw [l14]
    split
    · exact (upN_le (v := G2.1) (a := 8) (by decide)).1
    · exact Nat.le_refl _
  have m1 := pgs_m (g := 1) (th := th 1) ll (bg1, G0.2.1, none) hZ
  rw [← l7] at m1
  have m11 : bg1 ≤ G1.1 := m1.1
  have hpt : 0 < psz B (pf0 B tO tb ll) → th 1 = true := fun hp => by
    have hex : ∃ x, x ∈ ll ∧ sS tb x = true := Classical.byContradiction (fun q => by
      have e : pf0 B tO tb ll = [] := pf0_nil ll [] (fun x hx => by
        cases es : sS tb x with
        | false => rfl
        | true => exact absurd ⟨x, hx, es⟩ q)
      rw [e] at hp
      exact absurd hp (by show ¬ 0 < 0; omega))
    obtain ⟨x, hx, es⟩ := hex
    have ht := thx_t x hx (sS_z es)
    rw [sS_g es] at ht
    exact ht
  have hfe2 : 0 < psz B (pf0 B tO tb ll) → fe2 = upN fe1 16 + (G1.1 + psz B (pf0 B tO tb ll) - bg1) := fun hp => by rw [l8, if_pos (hpt hp)]
  unfold hIn
  generalize psz B (pf0 B tO tb ll) = pz at *
  refine ⟨fun x hx hs c3 c5 hz => ?_, fun hp => ?_, fun hp => ?_⟩
  · have hG : oG (tb (x / 24)) (x % 24) ≤ 5 := by unfold oG; repeat (first | omega | split)
    have ht := thx_t x hx hz
    have e3 : G3.2.1 x = G2.2.1 x := by rw [l15]; exact pgs_out (cnd_ng c3) ll _
    have e25 : oG (tb (x / 24)) (x % 24) ≠ 2 → G3.2.1 x = G5.2.1 x := fun q => by rw [e3, l13]; exact pgs_out (cnd_ng q) ll _
    have e5 : G5.2.1 x = G4.2.1 x := by rw [l12]; exact pgs_out (cnd_ng c5) ll _
    have e4 : oG (tb (x / 24)) (x % 24) ≠ 4 → G4.2.1 x = G1.2.1 x := fun q => by
      rw [l11, pgs_out (cnd_ng q) ll _]
      show psF B (pf0 B tO tb ll) tO tb G1.1 G1.2.1 x = _
      unfold psF
      rw [hs, if_neg (by decide)]
    unfold fpX
    by_cases g0 : oG (tb (x / 24)) (x % 24) = 0
    · have e1 : G1.2.1 x = G0.2.1 x := by rw [l7]; exact pgs_out (cnd_ng (by omega)) ll _
      have hin := pgs_in (th := th 0) (cnd_g g0 hs) ll (bg0, (fun _ => 0), none) hnd hZ hx
      rw [← l3] at hin
      have hin1 : bg0 ≤ G0.2.1 x := hin.1
      have hin2 := hin.2
      have es : sgO (oG (tb (x / 24)) (x % 24)) = 0 := by rw [g0]; rfl
      rw [es] at ht ⊢
      rw [if_pos ht] at l4
      show bg0 ≤ G3.2.1 x ∧ upN fe0 16 + G3.2.1 x - bg0 + zS tb x ≤ fe3 ∧ (0 < pz → upN fe0 16 + G3.2.1 x - bg0 + zS tb x ≤ upN fe1 16 + G1.1 - bg1 ∨ upN fe1 16 + G1.1 - bg1 + pz ≤ upN fe0 16 + G3.2.1 x - bg0)
      rw [e25 (by omega), e5, e4 (by omega), e1]
      exact ⟨hin1, by omega, fun _ => Or.inl (by omega)⟩
    by_cases g1 : oG (tb (x / 24)) (x % 24) = 1
    · have hin := pgs_in (th := th 1) (cnd_g g1 hs) ll (bg1, G0.2.1, none) hnd hZ hx
      rw [← l7] at hin
      have hin1 : bg1 ≤ G1.2.1 x := hin.1
      have hin2 := hin.2
      have es : sgO (oG (tb (x / 24)) (x % 24)) = 1 := by rw [g1]; rfl
      rw [es] at ht ⊢
      rw [if_pos ht] at l8
      show bg1 ≤ G3.2.1 x ∧ upN fe1 16 + G3.2.1 x - bg1 + zS tb x ≤ fe3 ∧ (0 < pz → upN fe1 16 + G3.2.1 x - bg1 + zS tb x ≤ upN fe1 16 + G1.1 - bg1 ∨ upN fe1 16 + G1.1 - bg1 + pz ≤ upN fe1 16 + G3.2.1 x - bg1)
      rw [e25 (by omega), e5, e4 (by omega)]
      exact ⟨hin1, by omega, fun _ => Or.inl (by omega)⟩
    have es : sgO (oG (tb (x / 24)) (x % 24)) = 2 := by unfold sgO; rw [if_neg (by omega)]
    rw [es] at ht ⊢
    rw [if_pos ht] at l17
    show bg2 ≤ G3.2.1 x ∧ upN fe2 16 + G3.2.1 x - bg2 + zS tb x ≤ fe3 ∧ (0 < pz → upN fe2 16 + G3.2.1 x - bg2 + zS tb x ≤ upN fe1 16 + G1.1 - bg1 ∨ upN fe1 16 + G1.1 - bg1 + pz ≤ upN fe2 16 + G3.2.1 x - bg2)
    by_cases g2 : oG (tb (x / 24)) (x % 24) = 2
    · have hin := pgs_in (th := th 2) (cnd_g g2 hs) ll (G4.1, G5.2.1, none) hnd hZ hx
      rw [← l13] at hin
      have hin1 : G4.1 ≤ G2.2.1 x := hin.1
      have hin2 := hin.2
      rw [e3]
      exact ⟨by omega, by omega, fun hp => Or.inr (by have := hfe2 hp; omega)⟩
    · have g4 : oG (tb (x / 24)) (x % 24) = 4 := by omega
      have hin := pgs_in (th := th 2) (cnd_g g4 hs) ll (bg2, psF B (pf0 B tO tb ll) tO tb G1.1 G1.2.1, none) hnd hZ hx
      rw [← l11] at hin
      have hin1 : bg2 ≤ G4.2.1 x := hin.1
      have hin2 := hin.2
      rw [e25 g2, e5]
      exact ⟨by omega, by omega, fun hp => Or.inr (by have := hfe2 hp; omega)⟩
  · show bg1 ≤ G1.1 ∧ upN fe1 16 + G1.1 - bg1 + pz ≤ fe3
    have := hfe2 hp
    omega
  · have ht : th 2 = true := by
      rw [hth]
      unfold thS
      rw [decide_eq_true rfl, decide_eq_true hp, Bool.or_true, Bool.true_and, Bool.or_true]
    rw [if_pos ht] at l17
    show bg2 ≤ sp ∧ upN fe2 16 + (sp - bg2) + 8 * ns ≤ fe3
    omega
end MRN
/-- the pool may be written before the sections -/
theorem rse_po {B tO : Nat → Nat} {tb : Nat → Nat → Nat} {ll : List Nat} {ad fpS bgS : Nat → Nat} {pp ns sp fe : Nat} (h : hIn B tO tb ll ad fpS bgS pp ns sp fe) : ∀ (l : List Nat) (f : px_OF), (∀ x, x ∈ l → x ∈ ll) → rpoF B (pf0 B tO tb ll) fpS bgS pp (l.foldl (rseF tb tO B ad fpS bgS) f) = l.foldl (rseF tb tO B ad fpS bgS) (rpoF B (pf0 B tO tb ll) fpS bgS pp f) := by
  intro l
  induction l with
  | nil => intro f _; rfl
  | cons x l ih =>
    intro f hl
    rw [List.foldl_cons, List.foldl_cons, ih _ (fun y hy => hl y (List.mem_cons_of_mem _ hy))]
    congr 1
    unfold rseF
    by_cases c : oG (tb (x / 24)) (x % 24) = 3 ∨ oG (tb (x / 24)) (x % 24) = 5 ∨ oStr (tb (x / 24)) (x % 24) = true
    · rw [if_pos c, if_pos c]
    · rw [if_neg c, if_neg c]
      unfold rpoF
      refine rc_rc (fun hp hz => ?_)
      have w := (h.1 x (hl x List.mem_cons_self) (Bool.eq_false_iff.mpr (fun q => c (Or.inr (Or.inr q)))) (fun q => c (Or.inl q)) (fun q => c (Or.inr (Or.inl q))) hz).2.2 hp
      exact w.symm
section CEQ
variable {sk : Nat → Nat × Nat × Nat} {L : Nat} {τ : px_TT} {own : Nat → Nat × Nat} {fs : px_FS} {s : px_TK} {xs : px_NL} {ST rn : Nat → Bool} {C B : Nat → Nat} {ll sl cpf : List Nat} {th : Nat → Bool} {NA : Nat → Int64} {pp : Nat} {ad : Nat → Nat} {fe3 tp sp fp0 fp1 fp2 bg0 bg1 bg2 H n : Nat} {on : Bool} {R : Nat → Bool} {w : px_FW} {f : px_OF}
/-- an object's bytes in the class's store and in the reference's -/
theorem ob_by {t q : Nat} (hL : TKe sk L own τ fs s xs ST rn) (hC : CB τ C) (hB : BFs fs B) (hq : s.2.2.1[t]? = some q) : bsO fs q + tNf fs s.2.2.1 t ≤ 65536 ∧ ∀ y, y < tNf fs s.2.2.1 t → eI τ 8 (bsO fs q + y) = by8 (B (tOf fs s.2.2.1 t + y)) := by
  have hBK := hL.2.2.2.2.1.1
  obtain ⟨_, o, n, b, hob⟩ := hBK.2.2.2.2.2.2 q (List.mem_of_getElem? hq)
  have eT : obT fs s.2.2.1 t = (o, n, b, false) := by
    unfold obT
    rw [hq]
    show (obAt fs q).getD _ = _
    rw [hob]
    rfl
  have e1 : tOf fs s.2.2.1 t = o := by unfold tOf; rw [eT]
  have e2 : tNf fs s.2.2.1 t = n := by unfold tNf; rw [eT]
  obtain ⟨_, _, c3, c4, c5, _⟩ := CF_ob hL.2.2.1 hob
  obtain ⟨_, b2⟩ := hB q o n b hob
  rw [e1, e2]
  refine ⟨by omega, fun y hy => ?_⟩
  rw [b2 y hy, ← c3]
  have e : cb (eI τ 8) (bsO fs q) n y = b8 (eI τ 8 (bsO fs q + y)) := by
    unfold cb
    rw [if_pos hy]
  rw [e]
  exact hC.1 (bsO fs q + y)
theorem EQ_sec {x : Nat} (hL : LAD sk L own τ fs s xs ST rn ll sl C B cpf (tOf fs s.2.2.1) th NA pp ad fe3 tp sp fp0 fp1 fp2 bg0 bg1 bg2) (hB : BFs fs B) (hi : hIn B (tOf fs s.2.2.1) (tB fs s.2.2.1) ll ad (seg3 fp0 fp1 fp2) (seg3 bg0 bg1 bg2) pp sl.length sp n) (hn : n ≤ 65536) (hx : x ∈ ll) (h : EQf H n w f) : EQf H n (seW τ fs s w x) (rseF (tB fs s.2.2.1) (tOf fs s.2.2.1) B ad (seg3 fp0 fp1 fp2) (seg3 bg0 bg1 bg2) f x) := by
  have hK := hL.1.1
  obtain ⟨hx24, hSTx⟩ := hL.1.2.1.2.1.2 x hx
  obtain ⟨hkp, hdr⟩ := hL.1.2.1.1 x hx24 hSTx
  obtain ⟨q, hq, _, _, _, he, hP, _⟩ := TKe_ob hK (t := x / 24) (by omega)
  obtain ⟨_, _, p4, _, _, p5, p10⟩ := hP (x % 24) (by omega)
  rw [show 24 * (x / 24) + x % 24 = x by omega] at p4 p5 p10
  rw [hkp, if_pos rfl] at p4
  rw [hkp, hdr, Bool.true_and, Bool.not_false, Bool.and_true] at p10
  obtain ⟨p5, _, p7⟩ := p5 hkp
  have hk := (Bool.and_eq_true _ _).mp hkp
  have hoS := of_decide_eq_true hk.1
  have hG : oG (tB fs s.2.2.1 (x / 24)) (x % 24) ≤ 5 := by unfold oG; repeat (first | omega | split)
  unfold seW rseF
  rw [p4, p10, p5, p7]
  by_cases c3 : oG (tB fs s.2.2.1 (x / 24)) (x % 24) = 3
  · rw [if_pos (by rw [c3]), if_pos (Or.inl c3)]
    exact h
  · rw [if_neg (fun e => c3 ((nI_eq (by omega) (by decide)).mp e))]
    by_cases c5 : oG (tB fs s.2.2.1 (x / 24)) (x % 24) = 5
    · rw [if_pos (by rw [c5]), if_pos (Or.inr (Or.inl c5))]
      exact h
    · rw [if_neg (fun e => c5 ((nI_eq (by omega) (by decide)).mp e))]
      cases es : oStr (tB fs s.2.2.1 (x / 24)) (x % 24) with
      | true =>
        rw [if_neg (show ¬ bI true = 0 by decide), if_pos (Or.inr (Or.inr rfl))]
        exact h
      | false =>
        rw [if_pos (show bI false = 0 from rfl), if_neg (fun e => e.elim c3 (fun e => e.elim c5 (fun e => nomatch e)))]
        by_cases cz : zS (tB fs s.2.2.1) x = 0
        · have cz' : oZ (tB fs s.2.2.1 (x / 24)) (x % 24) = 0 := cz
          rw [cz, cz', rc_e]
          exact EQ_cov0 h
        · obtain ⟨i1, i2, _⟩ := hi.1 x hx es c3 c5 (by omega)
          obtain ⟨o1, o2⟩ := ob_by hK hL.1.2.2.1 hB hq
          have hin : oP (tB fs s.2.2.1 (x / 24)) (x % 24) + oZ (tB fs s.2.2.1 (x / 24)) (x % 24) ≤ tNf fs s.2.2.1 (x / 24) := by
            have h8 : oT (tB fs s.2.2.1 (x / 24)) (x % 24) ≠ 8 := fun e => by
              have hg8 : oG (tB fs s.2.2.1 (x / 24)) (x % 24) = 5 ∨ oG (tB fs s.2.2.1 (x / 24)) (x % 24) = 3 := by
                unfold oG
                rw [if_pos e, if_pos e]
                split
                · exact Or.inl rfl
                · exact Or.inr rfl
              exact hg8.elim c5 c3
            have h0 : oT (tB fs s.2.2.1 (x / 24)) (x % 24) ≠ 0 := fun e => by
              have hk2 := hk.2
              unfold oK at hk2
              have := of_decide_eq_true hk2
              omega
            exact ((eObj_0 he).1).1.2.2.2.1 _ hoS h0 h8
          rw [spV_n hL hx rfl i1]
          have e : fpX (tB fs s.2.2.1) ad (seg3 fp0 fp1 fp2) (seg3 bg0 bg1 bg2) x = seg3 fp0 fp1 fp2 (sgO (oG (tB fs s.2.2.1 (x / 24)) (x % 24))) + (ad x - seg3 bg0 bg1 bg2 (sgO (oG (tB fs s.2.2.1 (x / 24)) (x % 24)))) := by
            unfold fpX
            omega
          rw [e] at i2 ⊢
          exact EQ_cov (S := eI τ 8) (T := fun k => B (tOf fs s.2.2.1 (x / 24) + (oP (tB fs s.2.2.1 (x / 24)) (x % 24) + k))) i2 hn (by show _ + oZ (tB fs s.2.2.1 (x / 24)) (x % 24) ≤ 65536; omega) (fun k hk => by
            have hk' : k < oZ (tB fs s.2.2.1 (x / 24)) (x % 24) := hk
            rw [Nat.add_assoc]
            exact o2 (oP (tB fs s.2.2.1 (x / 24)) (x % 24) + k) (by omega)) h
theorem psz_0 {l : List Nat} (h : psz C l = 0) : l = [] := by
  cases l with
  | nil => rfl
  | cons g l =>
    have h : (st C g).length + 1 + psz C l = 0 := h
    omega
theorem EQ_ps {SY : Nat → Nat → Int64} (hL : LAD sk L own τ fs s xs ST rn ll sl C B cpf (tOf fs s.2.2.1) th NA pp ad fe3 tp sp fp0 fp1 fp2 bg0 bg1 bg2) (hi : hIn B (tOf fs s.2.2.1) (tB fs s.2.2.1) ll ad (seg3 fp0 fp1 fp2) (seg3 bg0 bg1 bg2) pp sl.length sp n) (hI : ∀ g, g ∈ pf0 B (tOf fs s.2.2.1) (tB fs s.2.2.1) ll → ∃ e, isSt B g e) (hn : n ≤ 65536) (h : EQf H n w f) : EQf H n (psW τ SY tp sl cpf.length w) (itr (rslF (seg3 fp0 fp1 fp2) (seg3 bg0 bg1 bg2) sp SY tp sl) 0 sl.length (rpoF B (pf0 B (tOf fs s.2.2.1) (tB fs s.2.2.1) ll) (seg3 fp0 fp1 fp2) (seg3 bg0 bg1 bg2) pp f)) := by
  obtain ⟨_, _, hCB, hCP, h5, _, _, hmap, _⟩ := hL.1
  obtain ⟨_, _, hst, hat⟩ := hCP
  have epz := psz_T hmap
  obtain ⟨e41, e51⟩ := LAD_47 hL (j := 1) (by decide)
  obtain ⟨e42, e52⟩ := LAD_47 hL (j := 2) (by decide)
  have h6 : ∀ g, g ∈ cpf → ∃ e, isSt C g e := fun g hg => by
    obtain ⟨_, e, _, he⟩ := hst.2 g hg
    exact ⟨e, he⟩
  have hp : EQf H n (plW (eI τ 8) (eI τ 1698) (eI τ 1699) cpf.length 0 (poP τ) w) (rpoF B (pf0 B (tOf fs s.2.2.1) (tB fs s.2.2.1) ll) (seg3 fp0 fp1 fp2) (seg3 bg0 bg1 bg2) pp f) := by
    unfold rpoF
    by_cases c0 : psz C cpf = 0
    · rw [← epz, c0, rc_e, psz_0 c0]
      exact h
    · obtain ⟨i1, i2⟩ := hi.2.1 (by omega)
      rw [← epz] at i2 ⊢
      have eq : poP τ = nI (seg3 fp0 fp1 fp2 1 + pp - seg3 bg0 bg1 bg2 1) := by
        unfold poP
        rw [e41, e51, h5, lN_add, lN_sub (by omega), lN_i]
      have w1 := EQ_pool (H := H) (n := n) (C := C) (S := eI τ 8) (P := eI τ 1698) (Lg := eI τ 1699) (l := cpf) hn (fun x => by rw [hCB.2 x]; exact hCB.1 x) hat h6 cpf.length 0 (seg3 fp0 fp1 fp2 1 + pp - seg3 bg0 bg1 bg2 1) w f (Nat.zero_add _) (by rw [List.drop_zero]; exact i2) h
      rw [List.drop_zero, ← eq] at w1
      refine ⟨w1.1, fun i hi hin => ?_⟩
      rw [w1.2 i hi hin]
      unfold rc
      by_cases ci : seg3 fp0 fp1 fp2 1 + pp - seg3 bg0 bg1 bg2 1 + 0 ≤ i ∧ i < seg3 fp0 fp1 fp2 1 + pp - seg3 bg0 bg1 bg2 1 + psz C cpf
      · rw [if_pos ci, if_pos ci]
        dsimp only
        rw [PPl_by cpf _ hmap h6 hI (i - (seg3 fp0 fp1 fp2 1 + pp - seg3 bg0 bg1 bg2 1)) (by omega)]
      · rw [if_neg ci, if_neg ci]
  unfold psW slW
  refine EQ_itr (g := fun k => wSet (slP τ + nI 8 * nI k) 8 (slV SY tp (sl.getD k 0))) (r := rslF (seg3 fp0 fp1 fp2) (seg3 bg0 bg1 bg2) sp SY tp sl) (a := 0) (e := sl.length) (fun k w f _ hk h => ?_) sl.length 0 _ _ (Nat.le_refl _) (by omega) hp
  obtain ⟨i1, i2⟩ := hi.2.2 (by omega)
  have e13 := hL.2.2.2.2.2.2.1 (by omega)
  have eq : slP τ + nI 8 * nI k = nI (seg3 fp0 fp1 fp2 2 + (sp - seg3 bg0 bg1 bg2 2) + 8 * k) := by
    unfold slP
    rw [e42, e52, e13, lN_add, lN_sub (by omega), lN_i, pk_mul, nI_add]
    congr 1
    omega
  show EQf H n (wSet (slP τ + nI 8 * nI k) 8 (slV SY tp (sl.getD k 0)) w) (rslF _ _ sp SY tp sl k f)
  rw [eq]
  exact EQ_set (by decide) (by omega) h
/-- the file before its sites are filled -/
theorem EQ_wr {SY : Nat → Nat → Int64} {v : Int64} {sg : Nat} {g : Nat → Int32} (hL : LAD sk L own τ fs s xs ST rn ll sl C B cpf (tOf fs s.2.2.1) th NA pp ad fe3 tp sp fp0 fp1 fp2 bg0 bg1 bg2) (hB : BFs fs B) (hi : hIn B (tOf fs s.2.2.1) (tB fs s.2.2.1) ll ad (seg3 fp0 fp1 fp2) (seg3 bg0 bg1 bg2) pp sl.length sp fe3) (hI : ∀ g, g ∈ pf0 B (tOf fs s.2.2.1) (tB fs s.2.2.1) ll → ∃ e, isSt B g e) (hn : fe3 ≤ 65536) (hH : H ≤ fe3) (hz : (tmW τ (itr (rsW τ) 0 3 (hdW v (nI sg) (if eI τ 1703 3 = 0 then nI 0 else nI 1) (0, g)))).1 = H) : EQf H fe3 (wrW τ fs s v sg SY tp fe3 ll sl cpf.length g) (itr (rslF (seg3 fp0 fp1 fp2) (seg3 bg0 bg1 bg2) sp SY tp sl) 0 sl.length (ll.foldl (rseF (tB fs s.2.2.1) (tOf fs s.2.2.1) B ad (seg3 fp0 fp1 fp2) (seg3 bg0 bg1 bg2)) (rpoF B (pf0 B (tOf fs s.2.2.1) (tB fs s.2.2.1) ll) (seg3 fp0 fp1 fp2) (seg3 bg0 bg1 bg2) pp (fun _ => nI 0)))) := by
  unfold wrW
  rw [← rse_po hi ll _ (fun _ h => h)]
  refine EQ_ps hL hi hI hn (EQ_fold (g := seW τ fs s) (r := rseF (tB fs s.2.2.1) (tOf fs s.2.2.1) B ad (seg3 fp0 fp1 fp2) (seg3 bg0 bg1 bg2)) ll _ _ (fun x w f hx h => EQ_sec hL hB hi hn hx h) ?_)
  generalize tmW τ (itr (rsW τ) 0 3 (hdW v (nI sg) (if eI τ 1703 3 = 0 then nI 0 else nI 1) (0, g))) = y at *
  unfold wFil
  by_cases c : fe3 ≤ y.1
  · rw [if_pos c]
    exact ⟨by omega, fun i h1 h2 => by omega⟩
  · rw [if_neg c]
    refine ⟨rfl, fun i h1 h2 => ?_⟩
    show (if i < y.1 then y.2 i else (nI 0).toInt8.toInt32.toInt8.toInt32) = nI 0
    rw [if_neg (by omega)]
    decide
/-- the sites -/
theorem EQ_st {SV : Nat → Nat → Nat → Int64} (hL : LAD sk L own τ fs s xs ST rn ll sl C B cpf (tOf fs s.2.2.1) th NA pp ad fe3 tp sp fp0 fp1 fp2 bg0 bg1 bg2) (hr : STr fs s on R ST) (hlo : hLo (tB fs s.2.2.1) ll ad (seg3 fp0 fp1 fp2) (seg3 bg0 bg1 bg2)) (hs : ∀ t i, t < s.2.2.1.length → 1 ≤ i → i < oS (tB fs s.2.2.1 t) → sta (tB fs s.2.2.1) s.2.1.1 on R t i = true → 24 * t + i ∈ ll) (h : EQf H n w f) : EQf H n (itr (siT τ fs s xs ST SV) 0 s.2.2.1.length w) (itr (rTF (tB fs s.2.2.1) s.2.1.1 xs (sta (tB fs s.2.2.1) s.2.1.1 on R) ad (seg3 fp0 fp1 fp2) (seg3 bg0 bg1 bg2) SV) 0 s.2.2.1.length f) := by
  refine EQ_itr (g := siT τ fs s xs ST SV) (r := rTF (tB fs s.2.2.1) s.2.1.1 xs (sta (tB fs s.2.2.1) s.2.1.1 on R) ad (seg3 fp0 fp1 fp2) (seg3 bg0 bg1 bg2) SV) (a := 0) (e := s.2.2.1.length) (fun t w f _ ht h => ?_) s.2.2.1.length 0 _ _ (Nat.le_refl _) (by omega) h
  obtain ⟨q, hq, _, _, _, he, _⟩ := TKe_ob hL.1.1 ht
  have hoS := ((eObj_0 he).1).1.2.1
  unfold siT rTF
  have e0 : itr (siI τ fs s xs ST SV t) 0 (oS (tB fs s.2.2.1 t)) w = itr (siI τ fs s xs ST SV t) 1 (oS (tB fs s.2.2.1 t) - 1) w := by
    obtain ⟨d, hd⟩ : ∃ d, oS (tB fs s.2.2.1 t) = d + 1 := ⟨oS (tB fs s.2.2.1 t) - 1, by omega⟩
    rw [hd, itr_s, Nat.add_sub_cancel]
    congr 1
    unfold siI
    rw [isS_0 he, if_neg (fun q => nomatch q.1)]
  rw [e0]
  refine EQ_itr (g := siI τ fs s xs ST SV t) (r := rIF (tB fs s.2.2.1) s.2.1.1 xs (sta (tB fs s.2.2.1) s.2.1.1 on R) ad (seg3 fp0 fp1 fp2) (seg3 bg0 bg1 bg2) SV t) (a := 1) (e := oS (tB fs s.2.2.1 t)) (fun i w f h1 hi h => ?_) _ 1 _ _ (Nat.le_refl _) (by omega) h
  unfold siI rIF
  cases es : isS (tB fs s.2.2.1 t) i with
  | false => rw [if_neg (fun q => nomatch q.1), if_neg (fun q => nomatch q.1)]; exact h
  | true =>
    have hS := eSit_0 he h1 hi es
    have h1o := oI_1 he h1 hi es
    have eST : ST (24 * t + oI (tB fs s.2.2.1 t) i) = sta (tB fs s.2.2.1) s.2.1.1 on R t (oI (tB fs s.2.2.1 t) i) := by
      rw [hr _ (by have := hS.1; omega), show (24 * t + oI (tB fs s.2.2.1 t) i) / 24 = t by have := hS.1; omega, show (24 * t + oI (tB fs s.2.2.1 t) i) % 24 = oI (tB fs s.2.2.1 t) i by have := hS.1; omega]
      unfold kpB sta
      rw [decide_eq_true hS.1, Bool.true_and]
    rw [eST]
    cases er : sta (tB fs s.2.2.1) s.2.1.1 on R t (oI (tB fs s.2.2.1 t) i) with
    | false => rw [if_neg (fun q => nomatch q.2), if_neg (fun q => nomatch q.2)]; exact h
    | true =>
      rw [if_pos ⟨rfl, rfl⟩, if_pos ⟨rfl, rfl⟩]
      refine EQ_itr (g := siJ τ fs s xs SV t i) (r := r1F (tB fs s.2.2.1) s.2.1.1 xs ad (seg3 fp0 fp1 fp2) (seg3 bg0 bg1 bg2) SV t i) (a := 0) (e := sN (tB fs s.2.2.1 t) i) (fun j w f _ hj h => ?_) _ 0 _ _ (Nat.le_refl _) (by omega) h
      have hok := sOK_0w (hS.2.2.2.2.2 j hj)
      unfold siJ r1F
      by_cases c0 : sH (tB fs s.2.2.1 t) i j = 0
      · rw [if_pos c0]
        unfold siW
        rw [if_pos c0]
        exact h
      · rw [if_neg c0]
        have hwd0 : wd (sH (tB fs s.2.2.1 t) i j) ≠ 0 := fun e => by
          unfold wd at e
          rw [if_neg c0] at e
          split at e
          · cases e
          · split at e <;> cases e
        have h8 := hok.2.2.elim (fun q => absurd q hwd0) id
        have hin := hs t (oI (tB fs s.2.2.1 t) i) ht h1o hS.1 er
        have e1 : (24 * t + oI (tB fs s.2.2.1 t) i) / 24 = t := by have := hS.1; omega
        have e2 : (24 * t + oI (tB fs s.2.2.1 t) i) % 24 = oI (tB fs s.2.2.1 t) i := by have := hS.1; omega
        have ez : zS (tB fs s.2.2.1) (24 * t + oI (tB fs s.2.2.1 t) i) = oZ (tB fs s.2.2.1 t) (oI (tB fs s.2.2.1 t) i) := by unfold zS; rw [e1, e2]
        have hG := oG_8 h8.1
        have hl := hlo _ hin (by unfold sS; rw [e1, e2]; exact sS_no hi es) (by rw [e1, e2]; exact hG.1) (by rw [e1, e2]; exact hG.2) (by rw [ez]; omega)
        rw [e1, e2, ez] at hl
        have hwd8 : wd (sH (tB fs s.2.2.1 t) i j) ≤ 8 := by
          have h16 := hok.1
          unfold wd at h16 ⊢
          repeat (first | omega | (split at h16 <;> split) | (exfalso; omega))
        have hsk3 := skY_3 (tb := tB fs s.2.2.1) (dr := s.2.1.1) (xs := xs) (t := t) (i := i) (j := j)
        have hskL : 0 < skY (tB fs s.2.2.1) s.2.1.1 xs t i j → 2 ≤ sL (tB fs s.2.2.1 t) i j ∧ wd (sH (tB fs s.2.2.1 t) i j) = 4 := fun q => by
          unfold skY at q
          split at q
          · rename_i c
            refine ⟨c.2.2.1, ?_⟩
            rcases c.1 with e | e <;> rw [e] <;> rfl
          · omega
        rw [spV_n hL hin (g := sgO (oG (tB fs s.2.2.1 t) (oI (tB fs s.2.2.1 t) i))) (by rw [e1, e2]) hl.1]
        have ep : seg3 fp0 fp1 fp2 (sgO (oG (tB fs s.2.2.1 t) (oI (tB fs s.2.2.1 t) i))) + (ad (24 * t + oI (tB fs s.2.2.1 t) i) + sL (tB fs s.2.2.1 t) i j) - seg3 bg0 bg1 bg2 (sgO (oG (tB fs s.2.2.1 t) (oI (tB fs s.2.2.1 t) i))) = seg3 fp0 fp1 fp2 (sgO (oG (tB fs s.2.2.1 t) (oI (tB fs s.2.2.1 t) i))) + (ad (24 * t + oI (tB fs s.2.2.1 t) i) - seg3 bg0 bg1 bg2 (sgO (oG (tB fs s.2.2.1 t) (oI (tB fs s.2.2.1 t) i)))) + sL (tB fs s.2.2.1 t) i j := by
          have := hl.1
          omega
        rw [ep]
        exact EQ_site c0 hsk3 (fun q => by have := hskL q; omega) hwd8 (by have := hl.1; have := hl.2; have := h8.2; omega) h
end CEQ
end
section
/-! the bytes that the reference writes: slots, sections, pool -/
theorem syA_n {tb : Nat → Nat → Nat} {xs : px_NL} {OV : Nat → Nat → Int64} {NA : Nat → Int64} {z n : Nat} (en : nmZ tb xs z = some n) : syA tb xs OV NA (z / 2 / 64) (z / 2 % 64) = NA n := by
  unfold nmZ at en
  split at en
  · cases en
  · rename_i c
    unfold syA
    rw [if_neg (fun q => c (Or.inl q)), if_neg (fun q => c (Or.inr q))]
    exact congrArg NA (Option.some.inj en)
theorem lN_s0 (v : Int64) : v - lN 0 = v := by
  rw [show lN 0 = (0 : Int64) from rfl]
  exact Int64.sub_zero v
theorem RB_by {σ : px_S} {B : Nat → Nat} (hb : RB σ B) (x : Nat) : (gA σ 6 x).toInt8.toInt32 = by8 (B x) := by
  rw [isB_n (hb.1 x), hb.2 x]
  exact hb.1 x
theorem RPo_by {σ : px_S} {B : Nat → Nat} {nd : List (List Nat)} {pf : List Nat} (hr : RPo σ B nd pf) {k : Nat} (hk : k < psz B pf) : (gA σ 91 k).toInt8.toInt32 = by8 (B ((PPl B pf).getD k 0)) := by
  obtain ⟨_, _, _, h1, h2⟩ := hr
  rw [← PPl_len] at hk
  have hx := List.getElem?_eq_getElem hk
  have e := h2 k _ hx
  rw [isB_n (h1 k), List.getD_eq_getElem?_getD, hx]
  show gA σ 91 k = by8 (B (PPl B pf)[k])
  rw [← e]
  exact h1 k
section MCW
variable {F m T : Nat} {h : px_H} {σ : px_S} {B : Nat → Nat} {tb : Nat → Nat → Nat} {tO tn tq : Nat → Nat} {dr : Nat → Bool} {xs : px_NL} {ll : List Nat} {on : Bool} {R : Nat → Bool} {NA : Nat → Int64} {ad fpS bgS : Nat → Nat} {sp tp pp : Nat} {th : Nat → Bool} {SV : Nat → Nat → Nat → Int64} {SY : Nat → Nat → Int64}
theorem put_kC {K : Unit → px_H → Option (Unit × px_H)} {φ : px_OF → px_OF} {a n : Nat} {v : Int64} (hm : m ≤ h.length) (hF : 65536 < F) (h3 : ∀ k, isB (gA σ 3 k)) (ha : a + n ≤ 65536) (hk : ∀ σ1, WRo σ σ1 → ∃ σ', K () (mh m h σ1) = some ((), mh m h σ') ∧ WRc φ σ1 σ') : ∃ σ', ((xo (mh m h σ) 12 m).bind fun _ => xb (f_M_put F m (nI a) v (nI n) (mh m h σ)) K) = some ((), mh m h σ') ∧ WRc (fun f => φ (rp a n v f)) σ σ' := by
  obtain ⟨σ1, p1, w1⟩ := q_putC (F := F) (h := h) (v := v) hm hF ha h3
  obtain ⟨σ2, r1, w2⟩ := hk σ1 w1.1
  exact ⟨σ2, by rw [e_o hm, bs, p1, xb_mk, r1], WRc_tr w1 w2⟩
theorem q_w_633C (hSV : SV = svF B tO tb dr xs (sta tb dr on R) ll (slL T tb dr xs (sta tb dr on R)) NA ad sp tp pp) (hSY : SY = syA tb xs (ownV B (pf0 B tO tb ll) tO tb dr (sta tb dr on R) pp ad) NA) (hm : m ≤ h.length) (hF : 65540 < F) (hN : FNo T tO tb dr xs (sta tb dr on R) ll B (slL T tb dr xs (sta tb dr on R))) (hRr : hRm T tO tb dr xs (sta tb dr on R) ll B ad fpS bgS sp pp) : ∀ (c k g : Nat) (σ : px_S), k + c = (slL T tb dr xs (sta tb dr on R)).length → c < g → RFw σ T tO tn tq tb dr xs on R ll B NA ad fpS bgS sp tp pp th → ∃ σ', f_M_write_633 F g m (nI k) (mh m h σ) = some ((), mh m h σ') ∧ WRc (fun f => itr (rTF tb dr xs (sta tb dr on R) ad fpS bgS SV) 0 T (itr (rslF fpS bgS sp SY tp (slL T tb dr xs (sta tb dr on R))) k c f)) σ σ' := by
  have hll := hN.2.2.2.2.2.1 _ hN.2.2.2.2.2.2
  have hT := hN.1.1
  intro c
  induction c with
  | zero =>
    intro k g σ hk hg hf
    obtain ⟨g, rfl⟩ : ∃ x, g = x + 1 := ⟨g - 1, by omega⟩
    obtain ⟨σ1, a1, a2⟩ := q_sites1C (F := F) (h := h) hSV hm hF hN hRr.1 hRr.2.1 hRr.2.2.1 T 0 F σ (by omega) (by omega) hf.1
    unfold f_M_write_633 f_M_write_734 f_M_sites
    rw [Mg74 hm, bs, hf.1.1.2.2.1.1, if_pos (nI_le (by omega) (by omega)), e_o hm, bs, a1, xb_mk]
    exact ⟨σ1, rfl, WRc_e a2 (by rw [itr_0])⟩
  | succ c ih =>
    intro k g σ hk hg hf
    obtain ⟨g, rfl⟩ : ∃ x, g = x + 1 := ⟨g - 1, by omega⟩
    have hkl : k < (slL T tb dr xs (sta tb dr on R)).length := by omega
    have hz := List.getElem?_eq_getElem hkl
    have hzI := hN.2.2.2.2.2.2.2 _ (List.getElem_mem hkl)
    obtain ⟨r78, r75, r76, r77⟩ := hf.1.1.2.2.1.2 k _ hz
    have hgd : (slL T tb dr xs (sta tb dr on R)).getD k 0 = (slL T tb dr xs (sta tb dr on R))[k] := by rw [List.getD_eq_getElem?_getD, hz]; rfl
    have hrs : ∀ f, rslF fpS bgS sp SY tp (slL T tb dr xs (sta tb dr on R)) k f = rp (fpS 2 + (sp - bgS 2) + 8 * k) 8 (slV SY tp ((slL T tb dr xs (sta tb dr on R)).getD k 0)) f := fun _ => rfl
    rw [hgd] at hrs
    generalize (slL T tb dr xs (sta tb dr on R))[k] = z at *
    obtain ⟨s60, s61⟩ := hf.1.2.1 2 (by decide)
    obtain ⟨b1, b2⟩ := hRr.2.2.2.2.1 (by omega)
    have hfp2 := hRr.2.2.1 2
    have fin : ∀ v w, v - w = slV SY tp z → ∃ σ', f_M_write_722 F (f_M_write_633 F g) m (nI k) m (nI (fpS 2 + (sp - bgS 2) + 8 * k)) v w (mh m h σ) = some ((), mh m h σ') ∧ WRc (fun f => itr (rTF tb dr xs (sta tb dr on R) ad fpS bgS SV) 0 T (itr (rslF fpS bgS sp SY tp (slL T tb dr xs (sta tb dr on R))) k (c + 1) f)) σ σ' := fun v w evw => by
      unfold f_M_write_722
      obtain ⟨σ', d1, d2⟩ := put_kC (F := F) (h := h) (σ := σ) (a := fpS 2 + (sp - bgS 2) + 8 * k) (n := 8) (v := v - w) (K := fun _ ph1 => f_M_write_633 F g m (nI k + nI 1) ph1) (φ := fun f => itr (rTF tb dr xs (sta tb dr on R) ad fpS bgS SV) 0 T (itr (rslF fpS bgS sp SY tp (slL T tb dr xs (sta tb dr on R))) (k + 1) c f)) hm (by omega) hf.1.2.2.2 (by omega) (fun σ1 w1 => by
        rw [nI_add]
        exact ih (k + 1) g σ1 (by omega) (by omega) (RFw_W hf w1))
      exact ⟨σ', d1, WRc_e d2 (by rw [itr_s, hrs, evw])⟩
    have e705 : ∀ v, v = SY (z / 2 / 64) (z / 2 % 64) → ∃ σ', f_M_write_705 F (f_M_write_633 F g) m (nI k) m (nI (fpS 2 + (sp - bgS 2) + 8 * k)) v (mh m h σ) = some ((), mh m h σ') ∧ WRc (fun f => itr (rTF tb dr xs (sta tb dr on R) ad fpS bgS SV) 0 T (itr (rslF fpS bgS sp SY tp (slL T tb dr xs (sta tb dr on R))) k (c + 1) f)) σ σ' := fun v ev => by
      unfold f_M_write_705
      rw [Mr78 hm, bs, Ma78 hm (by omega), bs, r78]
      by_cases cz : z % 2 = 1
      · rw [decide_eq_true cz, if_neg (show ¬ bI true = 0 by decide), Mg87 hm, bs, hf.1.1.2.2.2.2.2.2.1]
        exact fin v _ (by unfold slV; rw [if_neg (by omega), ev])
      · rw [decide_eq_false cz, if_pos (show bI false = 0 from rfl)]
        exact fin v _ (by unfold slV; rw [if_pos (by omega), ev, lN_s0])
    have eat : (lN (fpS 2) + lN sp - lN (bgS 2)).toInt32 + nI 8 * nI k = nI (fpS 2 + (sp - bgS 2) + 8 * k) := by
      rw [lN_add, lN_sub (by omega), lN_i, pk_mul, nI_add]
      congr 1
      omega
    unfold f_M_write_633
    rw [Mg74 hm, bs, hf.1.1.2.2.1.1, if_neg (nI_ge (by omega) (by omega)), Mr60 hm, bs, Ma60 hm (by decide), bs, s60, Mg79 hm, bs, hf.1.1.2.2.2.2.2.1, Mr61 hm, bs, Ma61 hm (by decide), bs, s61, eat, Mr75 hm, bs, Ma75 hm (by omega), bs, r75]
    cases en : nmZ tb xs z with
    | none =>
      rw [if_pos (show tdA none < 0 from m1_neg), Mr76 hm, bs, Ma76 hm (by omega), bs, r76, Mr77 hm, bs, Ma77 hm (by omega), bs, r77, e_o hm, bs, q_symbolAddress hm hF hf.1.1 hN hzI.1 hzI.2, xb_mk]
      exact e705 _ (by rw [hSY])
    | some n =>
      have hn31 := nmZ_lt (σ := σ) hN.1 ⟨hf.1.1.1.1.1, hf.1.1.2.1.1, hf.1.1.2.1.2.2⟩ z n en
      have hxl : xs.length ≤ 4096 := by have := hf.1.1.2.1.2.2.1.2.1; rw [List.length_map] at this; exact this
      have hnx : n < xs.length := by
        unfold nmZ at en
        split at en
        · cases en
        · rename_i cz
          have hk0 : z / 2 % 64 ≠ 0 := fun q => cz (Or.inl q)
          obtain ⟨x, x1, _, _⟩ := plc_ix (hN.1.2.2.2.1 (z / 2 / 64) (z / 2 % 64) hzI.1 (by omega) hzI.2 (fun q => cz (Or.inr q)))
          have := (List.getElem?_eq_some_iff.mp x1).1
          have := Option.some.inj en
          omega
      have hnl : n < 4096 := by omega
      rw [if_neg (show ¬ tdA (some n) < 0 from nI_pos hn31), Mr29 hm, bs, bs, Ma75 hm (by omega), bs, r75, en, show tdA (some n) = nI n from rfl, Ma29 hm hnl, bs, hf.1.1.2.2.2.1 n hnx]
      exact e705 _ (by rw [hSY, syA_n en])
theorem q_w_576C {K : Nat → Int32 → px_H → Option (Unit × px_H)} {P x to : Nat} (hm : m ≤ h.length) (hF : 65540 < F) (hP : P < 1536) (hx : ll[P]? = some x) (hx2 : x / 24 < T ∧ 1 ≤ x % 24 ∧ x % 24 < oS (tb (x / 24))) (hin : oP (tb (x / 24)) (x % 24) + zS tb x ≤ tn (x / 24)) (hz : zS tb x ≤ 16384) (hto : 0 < zS tb x → to + zS tb x ≤ 65536) : ∀ (c k g : Nat) (σ : px_S), k + c = zS tb x → c < g → RFw σ T tO tn tq tb dr xs on R ll B NA ad fpS bgS sp tp pp th → ∃ σ', f_M_write_576 F K g m (nI P) (nI (tO (x / 24))) (nI to) (nI k) (mh m h σ) = K m (nI (P + 1)) (mh m h σ') ∧ WRc (rc to k (zS tb x) (fun k => B (tO (x / 24) + (oP (tb (x / 24)) (x % 24) + k)))) σ σ' := by
  intro c
  induction c with
  | zero =>
    intro k g σ hk hg hf
    obtain ⟨g, rfl⟩ : ∃ x, g = x + 1 := ⟨g - 1, by omega⟩
    obtain ⟨r1, r2, r3, r4, r5, r6⟩ := hf.1.1.1.1.2.1.2 P x hx
    unfold f_M_write_576 f_M_write_625
    rw [Mr56 hm, bs, Ma56 hm hP, bs, r6, if_pos (show nI (oZ (tb (x / 24)) (x % 24)) ≤ nI k from nI_le (show zS tb x ≤ k by omega) (by omega)), nI_add]
    exact ⟨σ, rfl, WRc_e (WRc_id hf.1.2.2.2) (by rw [show k = zS tb x by omega, rc_e])⟩
  | succ c ih =>
    intro k g σ hk hg hf
    obtain ⟨g, rfl⟩ : ∃ x, g = x + 1 := ⟨g - 1, by omega⟩
    obtain ⟨r1, r2, r3, r4, r5, r6⟩ := hf.1.1.1.1.2.1.2 P x hx
    have hb := hf.1.1.1.1.1 _ hx2.1
    have hn := hb.2.2.1
    have hto2 := hto (by omega)
    have w := WRc_set (i := to + k) hf.1.2.2.2 (isB_8 (gA σ 6 (tO (x / 24) + (oP (tb (x / 24)) (x % 24) + k))))
    obtain ⟨σ2, j1, j2⟩ := ih (k + 1) g _ (by omega) (by omega) (RFw_W hf w.1)
    unfold f_M_write_576
    rw [Mr56 hm, bs, Ma56 hm hP, bs, r6, if_neg (show ¬ nI (oZ (tb (x / 24)) (x % 24)) ≤ nI k from nI_ge (show k < zS tb x by omega) (show zS tb x < 2 ^ 31 by omega)), Mr3 hm, bs, Mr6 hm, bs, Mr54 hm, bs, Ma54 hm hP, bs, r4, e_o hm, bs, O_beg hm (by omega) hb hx2.2.2, xb_mk, lN_i, nI_add, nI_add, Nat.add_assoc, O_byte hm hb (by omega), bs, nI_add, Ms3 hm (by omega), bs, nI_add]
    refine ⟨σ2, j1, WRc_e (WRc_tr w j2) ?_⟩
    show rc to (k + 1) (zS tb x) _ (upd (gA σ 3) (to + k) (gA σ 6 (tO (x / 24) + (oP (tb (x / 24)) (x % 24) + k))).toInt8.toInt32) = _
    rw [RB_by hf.1.1.1.1.2.2]
    exact rc_s (S := fun k => B (tO (x / 24) + (oP (tb (x / 24)) (x % 24) + k))) (by omega)
theorem q_w_481C (hSV : SV = svF B tO tb dr xs (sta tb dr on R) ll (slL T tb dr xs (sta tb dr on R)) NA ad sp tp pp) (hSY : SY = syA tb xs (ownV B (pf0 B tO tb ll) tO tb dr (sta tb dr on R) pp ad) NA) (hm : m ≤ h.length) (hF : 65540 < F) (hN : FNo T tO tb dr xs (sta tb dr on R) ll B (slL T tb dr xs (sta tb dr on R))) (hRr : hRm T tO tb dr xs (sta tb dr on R) ll B ad fpS bgS sp pp) (hkp : ∀ x, x ∈ ll → oK (tb (x / 24)) (x % 24) = true) : ∀ (c P g : Nat) (σ : px_S), P + c = ll.length → c < g → RFw σ T tO tn tq tb dr xs on R ll B NA ad fpS bgS sp tp pp th → ∃ σ', f_M_write_481 F g m (nI P) (mh m h σ) = some ((), mh m h σ') ∧ WRc (fun f => itr (rTF tb dr xs (sta tb dr on R) ad fpS bgS SV) 0 T (itr (rslF fpS bgS sp SY tp (slL T tb dr xs (sta tb dr on R))) 0 (slL T tb dr xs (sta tb dr on R)).length ((ll.drop P).foldl (rseF tb tO B ad fpS bgS) f))) σ σ' := by
  have hl := hN.2.1
  have hl1 := hl.1
  have hll := hN.2.2.2.2.2.1 _ hN.2.2.2.2.2.2
  intro c
  induction c with
  | zero =>
    intro P g σ hP hg hf
    obtain ⟨g, rfl⟩ : ∃ x, g = x + 1 := ⟨g - 1, by omega⟩
    unfold f_M_write_481 f_M_write_631
    rw [Mg50 hm, bs, hf.1.1.1.1.2.1.1, if_pos (nI_le (by omega) (by omega))]
    obtain ⟨σ1, a1, a2⟩ := q_w_633C hSV hSY hm hF hN hRr (slL T tb dr xs (sta tb dr on R)).length 0 F σ (by omega) (by omega) hf
    exact ⟨σ1, a1, WRc_e a2 (by rw [List.drop_eq_nil_of_le (by omega)]; rfl)⟩
  | succ c ih =>
    intro P g σ hP hg hf
    obtain ⟨g, rfl⟩ : ∃ x, g = x + 1 := ⟨g - 1, by omega⟩
    have hPl : P < ll.length := by omega
    have hx := List.getElem?_eq_getElem hPl
    have hxm := List.getElem_mem hPl
    have hx2 := hl.2 _ hxm
    have hlo := hRr.1 _ hxm
    have hz := hRr.2.2.2.2.2 _ hxm
    have hk := hkp _ hxm
    have hdr : ∀ f, (ll.drop P).foldl (rseF tb tO B ad fpS bgS) f = (ll.drop (P + 1)).foldl (rseF tb tO B ad fpS bgS) (rseF tb tO B ad fpS bgS f ll[P]) := fun f => by rw [List.drop_eq_getElem_cons hPl, List.foldl_cons]
    generalize ll[P] = x at *
    obtain ⟨r1, r2, r3, r4, r5, r6⟩ := hf.1.1.1.1.2.1.2 P x hx
    have hb := hf.1.1.1.1.1 _ hx2.1
    have hG : oG (tb (x / 24)) (x % 24) ≤ 5 := by unfold oG; repeat (first | omega | split)
    have nx : ∀ σ1, WRc (fun f => rseF tb tO B ad fpS bgS f x) σ σ1 → ∃ σ', f_M_write_481 F g m (nI (P + 1)) (mh m h σ1) = some ((), mh m h σ') ∧ WRc (fun f => itr (rTF tb dr xs (sta tb dr on R) ad fpS bgS SV) 0 T (itr (rslF fpS bgS sp SY tp (slL T tb dr xs (sta tb dr on R))) 0 (slL T tb dr xs (sta tb dr on R)).length ((ll.drop P).foldl (rseF tb tO B ad fpS bgS) f))) σ σ' := fun σ1 w => by
      obtain ⟨σ2, b1, b2⟩ := ih (P + 1) g σ1 (by omega) (by omega) (RFw_W hf w.1)
      exact ⟨σ2, b1, WRc_e (WRc_tr w b2) (by rw [hdr])⟩
    unfold f_M_write_481 f_M_write_625
    rw [Mg50 hm, bs, hf.1.1.1.1.2.1.1, if_neg (nI_ge (by omega) (by omega)), Mr51 hm, bs, Ma51 hm (by omega), bs, r1, e_o hm, bs, O_obj hm hb, xb_mk, Mr55 hm, bs, Ma55 hm (by omega), bs, r5, nI_add]
    by_cases c3 : oG (tb (x / 24)) (x % 24) = 3
    · rw [if_pos (by rw [c3])]
      exact nx σ (WRc_e (WRc_id hf.1.2.2.2) (by unfold rseF; rw [if_pos (Or.inl c3)]))
    · rw [if_neg (fun q => c3 ((nI_eq (by omega) (by decide)).mp q)), bs, Ma55 hm (by omega), bs, r5]
      by_cases c5 : oG (tb (x / 24)) (x % 24) = 5
      · rw [if_pos (by rw [c5])]
        exact nx σ (WRc_e (WRc_id hf.1.2.2.2) (by unfold rseF; rw [if_pos (Or.inr (Or.inl c5))]))
      · rw [if_neg (fun q => c5 ((nI_eq (by omega) (by decide)).mp q)), Mr54 hm, bs, Ma54 hm (by omega), bs, r4, e_o hm, bs, q_isStrings hm (by omega) hb hx2.2.2, xb_mk]
        cases es : oStr (tb (x / 24)) (x % 24) with
        | true =>
          rw [if_neg (show ¬ bI true = 0 by decide)]
          exact nx σ (WRc_e (WRc_id hf.1.2.2.2) (by unfold rseF; rw [if_pos (Or.inr (Or.inr es))]))
        | false =>
          have hsg := sgO_2 (g := oG (tb (x / 24)) (x % 24))
          have hin : oP (tb (x / 24)) (x % 24) + zS tb x ≤ tn (x / 24) := by
            have h8 : oT (tb (x / 24)) (x % 24) ≠ 8 := fun e => by
              have hg8 : oG (tb (x / 24)) (x % 24) = 5 ∨ oG (tb (x / 24)) (x % 24) = 3 := by
                unfold oG
                rw [if_pos e, if_pos e]
                split
                · exact Or.inl rfl
                · exact Or.inr rfl
              exact hg8.elim c5 c3
            have h0 : oT (tb (x / 24)) (x % 24) ≠ 0 := fun e => by
              unfold oK at hk
              have := of_decide_eq_true hk
              omega
            exact (OB_w hb).1.2.2.2.1 _ hx2.2.2 h0 h8
          have hrs : ∀ f, rseF tb tO B ad fpS bgS f x = rc (fpS (sgO (oG (tb (x / 24)) (x % 24))) + ad x - bgS (sgO (oG (tb (x / 24)) (x % 24)))) 0 (zS tb x) (fun k => B (tO (x / 24) + (oP (tb (x / 24)) (x % 24) + k))) f := fun f => by
            unfold rseF fpX
            rw [if_neg (by rw [es]; exact fun q => q.elim c3 (fun q => q.elim c5 (fun q => nomatch q)))]
          generalize hsv : sgO (oG (tb (x / 24)) (x % 24)) = s at *
          obtain ⟨s60, s61⟩ := hf.1.2.1 s (by omega)
          have a57 := (hf.2.2.2.2.1 P x hx trivial).1
          rw [if_pos (show bI false = 0 from rfl), Mr55 hm, bs, Ma55 hm (by omega), bs, r5, q_segmentOf (by omega), xb_mk, hsv, Mr60 hm, bs, Ma60 hm (by omega), bs, s60, Mr57 hm, bs, Ma57 hm (by omega), bs, a57, Mr61 hm, bs, Ma61 hm (by omega), bs, s61]
          by_cases cz : 0 < zS tb x
          · obtain ⟨l1, l2⟩ := hlo es c3 c5 cz
            rw [show (lN (fpS s) + lN (ad x) - lN (bgS s)).toInt32 = nI (fpS s + ad x - bgS s) by rw [lN_add, lN_sub (by omega), lN_i]]
            obtain ⟨σ1, d1, d2⟩ := q_w_576C (F := F) (h := h) (K := f_M_write_481 F g) (to := fpS s + ad x - bgS s) hm hF (by omega) hx hx2 hin hz (fun _ => by omega) (zS tb x) 0 F σ (by omega) (by omega) hf
            rw [d1]
            exact nx σ1 (WRc_e d2 (by rw [hrs]))
          · obtain ⟨F1, hF1⟩ : ∃ y, F = y + 1 := ⟨F - 1, by omega⟩
            rw [show ∀ a b, f_M_write_576 F (f_M_write_481 F g) F m a b = f_M_write_576 F (f_M_write_481 F g) (F1 + 1) m a b from fun a b => by rw [← hF1]]
            unfold f_M_write_576 f_M_write_625
            rw [Mr56 hm, bs, Ma56 hm (by omega), bs, r6, if_pos (show nI (oZ (tb (x / 24)) (x % 24)) ≤ nI 0 by rw [show oZ (tb (x / 24)) (x % 24) = 0 from Nat.eq_zero_of_not_pos cz]; decide), nI_add]
            exact nx σ (WRc_e (WRc_id hf.1.2.2.2) (by rw [hrs, show zS tb x = 0 from Nat.eq_zero_of_not_pos cz, rc_e]))
theorem q_w_433C (hSV : SV = svF B tO tb dr xs (sta tb dr on R) ll (slL T tb dr xs (sta tb dr on R)) NA ad sp tp pp) (hSY : SY = syA tb xs (ownV B (pf0 B tO tb ll) tO tb dr (sta tb dr on R) pp ad) NA) (hm : m ≤ h.length) (hF : 65540 < F) (hN : FNo T tO tb dr xs (sta tb dr on R) ll B (slL T tb dr xs (sta tb dr on R))) (hRr : hRm T tO tb dr xs (sta tb dr on R) ll B ad fpS bgS sp pp) (hkp : ∀ x, x ∈ ll → oK (tb (x / 24)) (x % 24) = true) : ∀ (c k g : Nat) (σ : px_S), k + c = psz B (pf0 B tO tb ll) → c < g → RFw σ T tO tn tq tb dr xs on R ll B NA ad fpS bgS sp tp pp th → ∃ σ', f_M_write_433 F g m (nI k) (mh m h σ) = some ((), mh m h σ') ∧ WRc (fun f => itr (rTF tb dr xs (sta tb dr on R) ad fpS bgS SV) 0 T (itr (rslF fpS bgS sp SY tp (slL T tb dr xs (sta tb dr on R))) 0 (slL T tb dr xs (sta tb dr on R)).length (ll.foldl (rseF tb tO B ad fpS bgS) (rc (fpS 1 + pp - bgS 1) k (psz B (pf0 B tO tb ll)) (fun k => B ((PPl B (pf0 B tO tb ll)).getD k 0)) f)))) σ σ' := by
  have hsz := PIn_sz hN.2.2.2.1
  have hl1 := hN.2.1.1
  intro c
  induction c with
  | zero =>
    intro k g σ hk hg hf
    obtain ⟨g, rfl⟩ : ∃ x, g = x + 1 := ⟨g - 1, by omega⟩
    unfold f_M_write_433 f_M_write_479
    rw [Mg88 hm, bs, hf.1.1.1.2.2.2.1, if_pos (nI_le (by omega) (by omega))]
    obtain ⟨σ1, a1, a2⟩ := q_w_481C hSV hSY hm hF hN hRr hkp ll.length 0 F σ (by omega) (by omega) hf
    exact ⟨σ1, a1, WRc_e a2 (by rw [List.drop_zero, show k = psz B (pf0 B tO tb ll) by omega, rc_e])⟩
  | succ c ih =>
    intro k g σ hk hg hf
    obtain ⟨g, rfl⟩ : ∃ x, g = x + 1 := ⟨g - 1, by omega⟩
    obtain ⟨b1, b2⟩ := hRr.2.2.2.1 (by omega)
    obtain ⟨s60, s61⟩ := hf.1.2.1 1 (by decide)
    have w := WRc_set (i := fpS 1 + pp - bgS 1 + k) hf.1.2.2.2 (isB_8 (gA σ 91 k))
    obtain ⟨σ2, j1, j2⟩ := ih (k + 1) g _ (by omega) (by omega) (RFw_W hf w.1)
    have hpo := RPo_by (k := k) hf.1.1.1.2 (by omega)
    unfold f_M_write_433
    rw [Mg88 hm, bs, hf.1.1.1.2.2.2.1, if_neg (nI_ge (by omega) (by omega)), Mr3 hm, bs, Mr60 hm, bs, Ma60 hm (by decide), bs, s60, Mg90 hm, bs, hf.1.1.2.2.2.2.2.2.2.1, Mr61 hm, bs, Ma61 hm (by decide), bs, s61, Mr91 hm, bs, Ma91 hm (by omega), bs, show (lN (fpS 1) + lN pp - lN (bgS 1)).toInt32 + nI k = nI (fpS 1 + pp - bgS 1 + k) by rw [lN_add, lN_sub (by omega), lN_i, nI_add], Ms3 hm (by omega), bs, nI_add]
    refine ⟨σ2, j1, WRc_e (WRc_tr w j2) ?_⟩
    rw [hpo, rc_s (S := fun k => B ((PPl B (pf0 B tO tb ll)).getD k 0)) (by omega)]
end MCW
end
section
/-! strings that are kept begin where a string begins -/
section PST
variable {B : Nat → Nat} {nd : List (List Nat)} {tO : Nat → Nat} {tb : Nat → Nat → Nat}
theorem fp1_st {p : Nat} : ∀ (c j : Nat) (pf : List Nat), p + j + c ≤ 65536 → (∀ g, g ∈ pf → ∃ e, isSt B g e) → ∀ g, g ∈ itr (fp1 B nd p) j c pf → ∃ e, isSt B g e := by
  intro c
  induction c with
  | zero => intro j pf _ h g hg; exact h g hg
  | succ c ih =>
    intro j pf hp h
    rw [itr_s]
    refine ih (j + 1) _ (by omega) (fun g hg => ?_)
    unfold fp1 at hg
    split at hg
    · rename_i w
      rcases List.mem_append.mp hg with q | q
      · exact h g q
      · rw [List.mem_singleton.mp q]
        exact ⟨_, frm_st (by omega) w.1⟩
    · exact h g hg
/-- each begins a string -/
def SPf (B : Nat → Nat) (pf : List Nat) : Prop := ∀ g, g ∈ pf → ∃ e, isSt B g e
theorem fp1_S {p c j : Nat} {pf : List Nat} (hp : p + j + c ≤ 65536) (h : SPf B pf) : SPf B (itr (fp1 B nd p) j c pf) := fp1_st c j pf hp h
theorem fold_inv {P : List Nat → Prop} {f : List Nat → Nat → List Nat} : ∀ (l pf : List Nat), (∀ x, x ∈ l → ∀ pf, P pf → P (f pf x)) → P pf → P (l.foldl f pf) := by
  intro l
  induction l with
  | nil => intro pf _ h; exact h
  | cons x l ih =>
    intro pf hf h
    rw [List.foldl_cons]
    exact ih _ (fun y hy => hf y (List.mem_cons_of_mem _ hy)) (hf x List.mem_cons_self pf h)
theorem s1F_e {x : Nat} {pf : List Nat} : s1F B nd tO tb pf x = if sS tb x = true then itr (fp1 B nd (pS tO tb x)) 0 (zS tb x) pf else pf := rfl
theorem s1F_v {bb : Bool} {p z : Nat} {pf : List Nat} (hx : bb = true → p + z ≤ 65536) (h : SPf B pf) : SPf B (if bb = true then itr (fp1 B nd p) 0 z pf else pf) := by
  cases bb with
  | false =>
    rw [if_neg (by decide)]
    exact h
  | true =>
    have := hx rfl
    rw [if_pos rfl]
    exact fp1_S (by omega) h
theorem s1F_1 {x : Nat} {pf : List Nat} (hx : sS tb x = true → pS tO tb x + zS tb x ≤ 65536) (h : SPf B pf) : SPf B (s1F B nd tO tb pf x) := by
  rw [s1F_e]
  exact s1F_v hx h
theorem s1F_st (l pf : List Nat) (hl : ∀ x, x ∈ l → sS tb x = true → pS tO tb x + zS tb x ≤ 65536) (h : SPf B pf) : SPf B (l.foldl (s1F B nd tO tb) pf) := fold_inv (P := SPf B) l pf (fun x hx pf h => s1F_1 (hl x hx) h) h
theorem pf0_st {ll : List Nat} (h : ∀ x, x ∈ ll → sS tb x = true → pS tO tb x + zS tb x ≤ 65536) : ∀ g, g ∈ pf0 B tO tb ll → ∃ e, isSt B g e := s1F_st ll [] h (fun _ hg => absurd hg List.not_mem_nil)
end PST
/-! what a step makes of a byte hangs on that byte alone -/
def LOC (φ : px_OF → px_OF) : Prop := ∀ (f g : px_OF) (i : Nat), f i = g i → φ f i = φ g i
theorem LOC_rp {q k : Nat} {v : Int64} : LOC (rp q k v) := fun f g i e => by
  unfold rp
  by_cases c : q ≤ i ∧ i < q + k
  · rw [if_pos c, if_pos c]
  · rw [if_neg c, if_neg c]; exact e
theorem LOC_rc {q k n : Nat} {S : Nat → Nat} : LOC (rc q k n S) := fun f g i e => by
  unfold rc
  by_cases c : q + k ≤ i ∧ i < q + n
  · rw [if_pos c, if_pos c]
  · rw [if_neg c, if_neg c]; exact e
theorem LOC_up {q : Nat} {v : Int32} {f g : px_OF} {i : Nat} (e : f i = g i) : upd f q v i = upd g q v i := by
  by_cases c : i = q
  · rw [c, upd_eq, upd_eq]
  · rw [upd_ne c, upd_ne c]; exact e
theorem LOC_q1 {q s : Nat} : LOC (rsq1 q s) := fun f g i e => by
  unfold rsq1
  by_cases c : s = 1
  · rw [if_pos c, if_pos c]; exact LOC_up e
  · rw [if_neg c, if_neg c]; exact e
theorem LOC_q2 {q s : Nat} : LOC (rsq2 q s) := fun f g i e => by
  unfold rsq2
  by_cases c : s = 2
  · rw [if_pos c, if_pos c]; exact LOC_rp f g i e
  · rw [if_neg c, if_neg c]; exact e
theorem LOC_q3 {q s : Nat} : LOC (rsq3 q s) := fun f g i e => by
  unfold rsq3
  by_cases c : s = 3
  · rw [if_pos c, if_pos c]; exact LOC_up (LOC_up e)
  · rw [if_neg c, if_neg c]; exact e
theorem LOC_si {q n s : Nat} {v : Int64} : LOC (rsi q n s v) := fun f g i e => by
  unfold rsi
  exact LOC_q3 _ _ i (LOC_q2 _ _ i (LOC_q1 _ _ i (LOC_rp f g i e)))
theorem LOC_itr {g : Nat → px_OF → px_OF} (h : ∀ j, LOC (g j)) : ∀ (d j : Nat), LOC (itr g j d) := by
  intro d
  induction d with
  | zero => intro j f f' i e; rw [itr_0, itr_0]; exact e
  | succ d ih => intro j f f' i e; rw [itr_s, itr_s]; exact ih (j + 1) _ _ i (h j f f' i e)
theorem LOC_fold {r : px_OF → Nat → px_OF} (h : ∀ x, LOC (fun f => r f x)) : ∀ (l : List Nat), LOC (fun f => l.foldl r f) := by
  intro l
  induction l with
  | nil => intro f g i e; exact e
  | cons x l ih =>
    intro f g i e
    show (l.foldl r (r f x)) i = (l.foldl r (r g x)) i
    exact ih _ _ i (h x f g i e)
section LCF
variable {B tO : Nat → Nat} {tb : Nat → Nat → Nat} {dr : Nat → Bool} {xs : px_NL} {sy : Nat → Nat → Bool} {ll sl : List Nat} {NA : Nat → Int64} {ad fpS bgS : Nat → Nat} {sp tp pp T t i : Nat} {SV : Nat → Nat → Nat → Int64} {SY : Nat → Nat → Int64}
theorem LOC_1F {j : Nat} : LOC (r1F tb dr xs ad fpS bgS SV t i j) := fun f g k e => by
  unfold r1F
  by_cases c : sH (tb t) i j = 0
  · rw [if_pos c, if_pos c]; exact e
  · rw [if_neg c, if_neg c]; exact LOC_si f g k e
theorem LOC_IF : LOC (rIF tb dr xs sy ad fpS bgS SV t i) := fun f g k e => by
  unfold rIF
  by_cases c : isS (tb t) i = true ∧ sy t (oI (tb t) i) = true
  · rw [if_pos c, if_pos c]; exact LOC_itr (fun j => LOC_1F) _ _ f g k e
  · rw [if_neg c, if_neg c]; exact e
theorem LOC_TF : LOC (rTF tb dr xs sy ad fpS bgS SV t) := fun f g k e => by
  unfold rTF
  exact LOC_itr (fun j => LOC_IF) _ _ f g k e
theorem LOC_sl {k : Nat} : LOC (rslF fpS bgS sp SY tp sl k) := fun f g j e => by
  unfold rslF
  exact LOC_rp f g j e
theorem LOC_se (x : Nat) : LOC (fun f => rseF tb tO B ad fpS bgS f x) := fun f g k e => by
  show rseF tb tO B ad fpS bgS f x k = rseF tb tO B ad fpS bgS g x k
  unfold rseF
  by_cases c : oG (tb (x / 24)) (x % 24) = 3 ∨ oG (tb (x / 24)) (x % 24) = 5 ∨ oStr (tb (x / 24)) (x % 24) = true
  · rw [if_pos c, if_pos c]; exact e
  · rw [if_neg c, if_neg c]; exact LOC_rc f g k e
/-- what the file of a link holds behind its rows, written over f -/
def wfF (T : Nat) (tO : Nat → Nat) (tb : Nat → Nat → Nat) (dr : Nat → Bool) (xs : px_NL) (sy : Nat → Nat → Bool) (ll sl : List Nat) (NA : Nat → Int64) (B ad fpS bgS : Nat → Nat) (sp tp pp : Nat) (f : px_OF) : px_OF := itr (rTF tb dr xs sy ad fpS bgS (svF B tO tb dr xs sy ll sl NA ad sp tp pp)) 0 T (itr (rslF fpS bgS sp (syA tb xs (ownV B (pf0 B tO tb ll) tO tb dr sy pp ad) NA) tp sl) 0 sl.length (ll.foldl (rseF tb tO B ad fpS bgS) (rpoF B (pf0 B tO tb ll) fpS bgS pp f)))
theorem LOC_wf : LOC (wfF T tO tb dr xs sy ll sl NA B ad fpS bgS sp tp pp) := fun f g i e => by
  unfold wfF
  refine LOC_itr (fun j => LOC_TF) _ _ _ _ i (LOC_itr (fun j => LOC_sl) _ _ _ _ i (LOC_fold (fun x => LOC_se x) ll _ _ i ?_))
  unfold rpoF
  exact LOC_rc f g i e
end LCF
/-- the same, from what a link laid out -/
def wfV (T : Nat) (tO : Nat → Nat) (tb : Nat → Nat → Nat) (dr : Nat → Bool) (xs : px_NL) (sy : Nat → Nat → Bool) (ll sl : List Nat) (NA : Nat → Int64) (B ad : Nat → Nat) (V : px_VV) : px_OF := wfF T tO tb dr xs sy ll sl NA B ad (seg3 (upN V.1 16) (upN V.2.2.2.1 16) (upN V.2.2.2.2.2.2.2.1 16)) (seg3 V.2.1 V.2.2.2.2.2.1 V.2.2.2.2.2.2.2.2.2.1) V.2.2.2.2.2.2.2.2.2.2.2.2.2.1 (tpN V.2.2.2.2.2.2.2.2.2.1 (ll.foldl (ft1 tb ad) (false, 0, 1, 0))) V.2.2.2.2.2.2.1.1 (fun _ => nI 0)
theorem wfV_mk {T : Nat} {tO : Nat → Nat} {tb : Nat → Nat → Nat} {dr : Nat → Bool} {xs : px_NL} {sy : Nat → Nat → Bool} {ll sl : List Nat} {NA : Nat → Int64} {B ad : Nat → Nat} {fe0 bg0 : Nat} {G0 : px_PG} {fe1 mem1 bg1 : Nat} {G1 : px_PG} {fe2 mem2 bg2 : Nat} {G4 G5 G2 : px_PG} {sp : Nat} {G3 CM : px_PG} {fe3 : Nat} : wfV T tO tb dr xs sy ll sl NA B ad (fe0, bg0, G0, fe1, mem1, bg1, G1, fe2, mem2, bg2, G4, G5, G2, sp, G3, CM, fe3) = wfF T tO tb dr xs sy ll sl NA B ad (seg3 (upN fe0 16) (upN fe1 16) (upN fe2 16)) (seg3 bg0 bg1 bg2) sp (tpN bg2 (ll.foldl (ft1 tb ad) (false, 0, 1, 0))) G1.1 (fun _ => nI 0) := rfl
/-- the bytes of a link's file -/
def w7 (fs : px_FS) (s : px_TK) (B : Nat → Nat) (ll : List Nat) (ad : Nat → Nat) (NA : px_NA) : px_OF := wfV s.2.2.1.length (tOf fs s.2.2.1) (tB fs s.2.2.1) s.2.1.1 (xsN s) NA.2.2.2.1 ll NA.2.2.1 NA.1 B ad NA.2.2.2.2
theorem sgN_up {th : Nat → Bool} {s : Nat} (hs : s < 3) (h : th s = true) : sgN th s + 1 ≤ sgN th 3 := by
  have s1 : ∀ n, sgN th (n + 1) = sgN th n + (if th n = true then 1 else 0) := fun _ => rfl
  have m1 : sgN th 1 ≤ sgN th 2 := by rw [s1 1]; omega
  have m2 : sgN th 2 ≤ sgN th 3 := by rw [s1 2]; omega
  have e := s1 s
  rw [if_pos h] at e
  have : s = 0 ∨ s = 1 ∨ s = 2 := by omega
  rcases this with rfl | rfl | rfl
  · have e : sgN th 1 = sgN th 0 + 1 := e
    omega
  · have e : sgN th 2 = sgN th 1 + 1 := e
    omega
  · have e : sgN th 3 = sgN th 2 + 1 := e
    omega
theorem mpA3 {m : Nat} {h : px_H} {σ σ' : px_S} (hm : m ≤ h.length) (e : mh m h σ = mh m h σ') : gA σ' 3 = gA σ 3 := by
  have w := e_A (σ := σ) (k := 3) hm rfl
  rw [e, e_A (k := 3) hm rfl] at w
  exact (Prod.mk.inj (Option.some.inj w)).2
theorem st_ll {sk : Nat → Nat × Nat × Nat} {L : Nat} {own : Nat → Nat × Nat} {τ : px_TT} {fs : px_FS} {s : px_TK} {xs : px_NL} {ST rn : Nat → Bool} {ll : List Nat} {C B : Nat → Nat} {cpf : List Nat} {tO : Nat → Nat} {pp : Nat} {ad : Nat → Nat} {on : Bool} {R : Nat → Bool} (hL : LAc sk L own τ fs s xs ST rn ll C B cpf tO pp ad) (hr : STr fs s on R ST) : ∀ t i, t < s.2.2.1.length → 1 ≤ i → i < oS (tB fs s.2.2.1 t) → sta (tB fs s.2.2.1) s.2.1.1 on R t i = true → 24 * t + i ∈ ll := fun t i ht _ hi hs => by
  obtain ⟨q, _, _, _, _, he, _⟩ := TKe_ob hL.1 ht
  have hoS := ((eObj_0 he).1).1.2.1
  refine hL.2.1.2.2 _ (by omega) ?_
  rw [hr _ (by omega), show (24 * t + i) / 24 = t by omega, show (24 * t + i) % 24 = i by omega]
  unfold sta at hs
  unfold kpB
  rw [decide_eq_true hi, Bool.true_and]
  exact hs
end
section
/-! where the rows of a link's file point, and what is loaded of them -/
/-- rows that are loaded lie behind the rows' table and within the file -/
def R7o (l : List px_R7) (fe : Nat) : Prop := ∀ r, r ∈ l → r.1 = 1 → 64 + 56 * l.length ≤ r.2.2.1 ∧ r.2.2.1 + r.2.2.2.2.1 ≤ fe
theorem rL7_mem {th : Nat → Bool} {f : Nat → px_R7} {r : px_R7} : ∀ (n : Nat), r ∈ rL7 th f n → ∃ s, s < n ∧ th s = true ∧ r = f s := by
  intro n
  induction n with
  | zero => intro h; exact absurd h List.not_mem_nil
  | succ n ih =>
    intro h
    have h : r ∈ rL7 th f n ++ (if th n = true then [f n] else []) := h
    rcases List.mem_append.mp h with h | h
    · obtain ⟨s, h1, h2⟩ := ih h
      exact ⟨s, by omega, h2⟩
    · by_cases c : th n = true
      · rw [if_pos c] at h
        exact ⟨n, by omega, c, List.mem_singleton.mp h⟩
      · rw [if_neg c] at h
        exact absurd h List.not_mem_nil
theorem rT7_fp {th : Nat → Bool} {fp bg fz mz : Nat → Nat} {thr : Bool} {H fe : Nat} (h : ∀ s, s < 3 → th s = true → H ≤ fp s ∧ fp s + fz s ≤ fe) : ∀ r, r ∈ rT7 th (r7s fp bg fz mz) thr → r.1 = 1 → H ≤ r.2.2.1 ∧ r.2.2.1 + r.2.2.2.2.1 ≤ fe := fun r hr h1 => by
  unfold rT7 at hr
  rcases List.mem_append.mp hr with hr | hr
  · obtain ⟨s, s1, s2, s3⟩ := rL7_mem 3 hr
    rw [s3]
    exact h s s1 s2
  · by_cases c : thr = true
    · rw [if_pos c] at hr
      rw [List.mem_singleton.mp hr] at h1
      exact absurd h1 (by decide)
    · rw [if_neg c] at hr
      exact absurd hr List.not_mem_nil
theorem xrG_m {T : Nat → Bool} {E : Nat → Nat → Nat} {W : Nat → px_XR} {w : px_XR} : ∀ (d k : Nat) (R : List px_XR), w ∈ (xrG T E W d k R).2 → w ∈ R ∨ ∃ j e, k ≤ j ∧ j < k + d ∧ T j = true ∧ E j e = 0 ∧ w = W j := by
  intro d
  induction d with
  | zero => intro k R h; exact Or.inl h
  | succ d ih =>
    intro k R h
    cases hT : T k with
    | false =>
      rw [xrG_f hT] at h
      rcases ih (k + 1) R h with q | ⟨j, e, h1, h2, h3⟩
      · exact Or.inl q
      · exact Or.inr ⟨j, e, by omega, by omega, h3⟩
    | true =>
      by_cases c : E k (xrE R) = 0
      · rw [xrG_t hT c] at h
        rcases ih (k + 1) (R ++ [W k]) h with q | ⟨j, e, h1, h2, h3⟩
        · rcases List.mem_append.mp q with q | q
          · exact Or.inl q
          · exact Or.inr ⟨k, _, Nat.le_refl _, by omega, hT, c, List.mem_singleton.mp q⟩
        · exact Or.inr ⟨j, e, by omega, by omega, h3⟩
      · rw [xrG_e hT c] at h
        exact Or.inl h
theorem xrP_z {z e pl ad fi me : Nat} {ok : Bool} (h : xrP z e pl ad fi me ok = 0) : pl + fi ≤ z := by
  unfold xrP at h
  by_cases c : pl + fi ≤ z
  · exact c
  · rw [if_neg c] at h
    cases h
theorem xrS_in {b : Nat → Nat} {z : Nat} {w : px_XR} (h : w ∈ xrS b z) : w.2.1 + w.2.2.2.1 ≤ z := by
  unfold xrS xrL at h
  rcases xrG_m _ _ _ h with q | ⟨j, e, _, _, _, h4, h5⟩
  · exact absurd q List.not_mem_nil
  · rw [h5]
    exact xrP_z h4
theorem ALK_b {b b' : Nat → Nat} {z en fe : Nat} {l : List px_R7} (h : EXb b z en l.length l) (hr : R7o l fe) (hfe : fe ≤ 65536) (hb : ∀ i, 64 + 56 * l.length ≤ i → i < fe → b i = b' i) : ∀ w, w ∈ xrS b z → ∀ i, i < w.2.2.2.1 → b (w.2.1 + i) = b' (w.2.1 + i) := fun w hw i hi => by
  obtain ⟨g, e1, ⟨⟨a1, a2, a3, a4, a5, a6, a7, a8⟩, hrow⟩, el, hz⟩ := h
  have v6 : le b 32 8 = 64 := vAt_le a6 (fun i _ hi => e1 i (by omega))
  have v8 : le b 56 2 = l.length % 256 ^ 2 := vAt_le a8 (fun i _ hi => e1 i (by omega))
  unfold xrS xrL at hw
  rw [v6, v8] at hw
  rcases xrG_m _ _ _ hw with q | ⟨j, e, h1, h2, h3, h4, h5⟩
  · exact absurd q List.not_mem_nil
  · subst h5
    have hj : j < l.length := by
      have := Nat.mod_le l.length (256 ^ 2)
      omega
    obtain ⟨r, er⟩ : ∃ r, l[j]? = some r := ⟨_, List.getElem?_eq_getElem hj⟩
    obtain ⟨⟨t1, t0⟩, t2⟩ := hrow j r er
    have w1 : le b (64 + 56 * j) 4 = r.1 % 256 ^ 4 := vAt_le t1 (fun i _ hi => e1 i (by omega))
    have hT1 : le b (64 + 56 * j) 4 = 1 := of_decide_eq_true h3
    have hr1 : r.1 = 1 := by
      rw [Nat.mod_eq_of_lt (by omega)] at w1
      omega
    obtain ⟨b1, b2, b3, b4, b5, b6⟩ := t2 hr1
    obtain ⟨q1, q2⟩ := hr r (List.mem_of_getElem? er) hr1
    have u3 : le b (64 + 56 * j + 8) 8 = r.2.2.1 % 256 ^ 8 := vAt_le b2 (fun i _ hi => e1 i (by omega))
    have u5 : le b (64 + 56 * j + 32) 8 = r.2.2.2.2.1 % 256 ^ 8 := vAt_le b4 (fun i _ hi => e1 i (by omega))
    rw [Nat.mod_eq_of_lt (by omega)] at u3
    rw [Nat.mod_eq_of_lt (by omega)] at u5
    have hi : i < le b (64 + 56 * j + 32) 8 := hi
    show b (le b (64 + 56 * j + 8) 8 + i) = b' (le b (64 + 56 * j + 8) 8 + i)
    rw [u3]
    exact hb _ (by omega) (by omega)
end
