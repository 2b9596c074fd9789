/-! the reference's errors of sites -/
/-- a how's bytes; 16 for one that is not told -/
def wd (x : Nat) : Nat := if x = 1 ∨ x = 18 then 8 else if x = 2 ∨ x = 4 ∨ x = 9 ∨ x = 10 ∨ x = 11 ∨ x = 22 ∨ x = 23 ∨ x = 41 ∨ x = 42 then 4 else if x = 0 then 0 else 16
theorem wd_cases (x : Nat) : wd x = 8 ∨ wd x = 4 ∨ wd x = 0 ∨ wd x = 16 := by
  unfold wd
  split
  · exact Or.inl rfl
  · split
    · exact Or.inr (Or.inl rfl)
    · split
      · exact Or.inr (Or.inr (Or.inl rfl))
      · exact Or.inr (Or.inr (Or.inr rfl))
def wI (x : Nat) : Int32 := if wd x = 16 then Int32.ofInt (-1) else nI (wd x)
/-- sites of section i count -/
def isS (b : Nat → Nat) (i : Nat) : Bool := decide (oT b i = 4 ∧ oI b i < oS b ∧ oK b (oI b i) = true)
/-- how many sites -/
def sN (b : Nat → Nat) (i : Nat) : Nat := oZ b i / 24
/-- where site j of section i lies -/
def sP (b : Nat → Nat) (i j : Nat) : Nat := oP b i + 24 * j
def sL (b : Nat → Nat) (i j : Nat) : Nat := le b (sP b i j) 8
def sH (b : Nat → Nat) (i j : Nat) : Nat := le b (sP b i j + 8) 4
def sY (b : Nat → Nat) (i j : Nat) : Nat := le b (sP b i j + 12) 4
def sD (b : Nat → Nat) (i j : Nat) : Nat := le b (sP b i j + 16) 8
/-- no byte of site (a, c) is one of site (i, j) -/
def sFree (b : Nat → Nat) (i j a c : Nat) : Bool := decide (wd (sH b a c) = 0 ∨ sL b a c + wd (sH b a c) ≤ sL b i j ∨ sL b i j + wd (sH b i j) ≤ sL b a c)
/-- no byte of site (i, j) is one of a site of section a, of those ahead of it -/
def sFr (b : Nat → Nat) (i j a : Nat) : Bool := !(isS b a && decide (oI b a = oI b i)) || al (sFree b i j a) 0 (if a < i then sN b a else j)
/-- the site is as told, but for others' bytes -/
def sOK0 (b : Nat → Nat) (i j : Nat) : Bool := decide (wd (sH b i j) ≠ 16 ∧ sY b i j < oM b ∧ (wd (sH b i j) = 0 ∨ oT b (oI b i) ≠ 8 ∧ sL b i j + wd (sH b i j) ≤ oZ b (oI b i)))
def sOK (b : Nat → Nat) (i j : Nat) : Bool := sOK0 b i j && (decide (wd (sH b i j) = 0) || al (sFr b i j) 1 i)
def sSec (b : Nat → Nat) (i : Nat) : Bool := decide (oZ b i % 24 = 0 ∧ oY b ≠ 0 ∧ oL b i = oY b) && al (sOK b i) 0 (sN b i)
def eSit (b : Nat → Nat) : Nat := if al (fun i => !isS b i || sSec b i) 1 (oS b - 1) = true then 0 else 7
theorem bI_1 (c : Bool) : (bI c = nI 1) ↔ c = true := by cases c <;> decide
section SIT
variable {F : Nat} {h : px_H} {m o n : Nat} {B : Nat → Int32}
theorem q_isSlotted {x : Nat} (hx : x < 4294967296) : f_M_isSlotted F (lN x) h = some (bI (decide (x = 9 ∨ x = 22 ∨ x = 41 ∨ x = 42)), h) := by
  simp only [f_M_isSlotted, f_M_isSlotted_32, f_M_isSlotted_37, lk, lEQ (show x < 2 ^ 64 by omega) (show 9 < 2 ^ 64 by decide), lEQ (show x < 2 ^ 64 by omega) (show 22 < 2 ^ 64 by decide), lEQ (show x < 2 ^ 64 by omega) (show 41 < 2 ^ 64 by decide), lEQ (show x < 2 ^ 64 by omega) (show 42 < 2 ^ 64 by decide), xz_0, xz_1]
  by_cases c1 : x = 9
  · simp [c1]
  · by_cases c2 : x = 22
    · simp [c2]
    · by_cases c3 : x = 41
      · simp [c3]
      · by_cases c4 : x = 42 <;> simp [c1, c2, c3, c4]
theorem q_width {x : Nat} (hx : x < 4294967296) : f_M_width F (lN x) h = some (wI x, h) := by
  have k0 : (0 : Int32) = nI 0 := rfl
  have E : ∀ y, y < 4294967296 → (lN x = lN y ↔ x = y) := fun y hy => lEQ (by omega) (by omega)
  simp only [f_M_width, f_M_width_14, f_M_width_66, f_M_width_81, q_isSlotted hx, xb_mk, lk, E 1 (by decide), E 18 (by decide), E 2 (by decide), E 4 (by decide), E 10 (by decide), E 11 (by decide), E 23 (by decide), E 0 (by decide), k0, bI_0, decide_eq_false_iff_not]
  unfold wI wd
  by_cases c1 : x = 1
  · simp [c1]
  · by_cases c2 : x = 18
    · simp [c2]
    · by_cases c3 : x = 2 ∨ x = 4 ∨ x = 10 ∨ x = 11 ∨ x = 23
      · rcases c3 with c | c | c | c | c <;> simp [c]
      · by_cases c4 : x = 9 ∨ x = 22 ∨ x = 41 ∨ x = 42
        · rcases c4 with c | c | c | c <;> simp [c]
        · have d7 : ¬ x = 9 := by omega
          have d8 : ¬ x = 22 := by omega
          have d9 : ¬ x = 41 := by omega
          have d1 : ¬ x = 42 := by omega
          have d2 : ¬ x = 2 := by omega
          have d3 : ¬ x = 4 := by omega
          have d4 : ¬ x = 10 := by omega
          have d5 : ¬ x = 11 := by omega
          have d6 : ¬ x = 23 := by omega
          simp only [c1, c2, d1, d2, d3, d4, d5, d6, d7, d8, d9, if_false, or_self, not_false_eq_true, if_true]
          by_cases c5 : x = 0 <;> simp [c5]
theorem q_isSites {i : Nat} (hb : mb h m B) (hF : 8 < F) (ho : rk B o n) (hi : i < oS (cb B o n)) : f_M_isSites F m (nI o) (nI i) h = some (bI (isS (cb B o n) i), h) := by
  obtain ⟨fs, h1⟩ := mb_o hb
  have hs := ho.2.2
  have e1 := oT_lt (cb_lt B o n) i
  have e2 := oI_lt (cb_lt B o n) i
  have k0 : (0 : Int32) = nI 0 := rfl
  simp only [f_M_isSites, f_M_isSites_48, f_M_isSites_49, h1, bs, xb_mk, q_type hb hF ho hi, q_info hb hF ho hi, q_sections hb hF ho.1, nI_l (show oS (cb B o n) < 2 ^ 31 by omega), lN_i, lk, k0, lEQ (show oT (cb B o n) i < 2 ^ 64 by omega) (show 4 < 2 ^ 64 by decide), pk_lLE (show oS (cb B o n) < 2 ^ 63 by omega) (show oI (cb B o n) i < 2 ^ 63 by omega), xz_0, xz_1]
  unfold isS
  by_cases c1 : oT (cb B o n) i = 4
  · by_cases c2 : oI (cb B o n) i < oS (cb B o n)
    · rw [if_pos c1, if_neg (by omega), q_isKept hb hF ho c2, xb_mk]
      simp only [bI_0]
      by_cases c3 : oK (cb B o n) (oI (cb B o n) i) = true <;> simp [c1, c2, c3]
    · rw [if_pos c1, if_pos (by omega)]; simp [c2]
  · rw [if_neg c1]; simp [c1]
theorem q_siteMany {i : Nat} (hb : mb h m B) (hF : 8 < F) (ho : rk B o n) (hi : i < oS (cb B o n)) (hz : oZ (cb B o n) i < 2 ^ 63) : f_M_siteMany F m (nI o) (nI i) h = some (nI (sN (cb B o n) i), h) := by
  obtain ⟨fs, h1⟩ := mb_o hb
  unfold f_M_siteMany
  rw [h1, bs, q_size hb hF ho hi, xb_mk, lk, pk_lDiv hz (by decide) (by decide), lN_i]
  rfl
theorem q_site {i j : Nat} (hb : mb h m B) (hF : 8 < F) (ho : rk B o n) (hi : i < oS (cb B o n)) : f_M_site F m (nI o) (nI i) (nI j) h = some (nI (o + sP (cb B o n) i j), h) := by
  obtain ⟨fs, h1⟩ := mb_o hb
  unfold f_M_site
  rw [h1, bs, q_beginning hb hF ho hi, xb_mk, lN_i, pk_mul, nI_add, nI_add, Nat.add_assoc]
  rfl
theorem ar_s {n P Z j : Nat} (h1 : P + Z ≤ n) (hj : j < Z / 24) : P + 24 * j + 24 ≤ n := by omega
/-- a section of sites has its bytes in the object -/
theorem w1_s {b : Nat → Nat} {i : Nat} (hw : w1 b n) (hi : i < oS b) (ht : oT b i = 4) : oP b i + oZ b i ≤ n := hw.2.2.2.1 _ hi (by rw [ht]; decide) (by rw [ht]; decide)
theorem w1_sp {b : Nat → Nat} {i j : Nat} (hw : w1 b n) (hi : i < oS b) (ht : oT b i = 4) (hj : j < sN b i) : sP b i j + 24 ≤ n := ar_s (w1_s hw hi ht) hj
theorem isS_T {b : Nat → Nat} {i : Nat} (h : isS b i = true) : oT b i = 4 ∧ oI b i < oS b ∧ oK b (oI b i) = true := of_decide_eq_true h
theorem ar_8 {y n : Nat} (h : y + 24 ≤ n) : y + 8 ≤ n := by omega
theorem ar_12 {y n : Nat} (h : y + 24 ≤ n) : y + 8 + 4 ≤ n := by omega
theorem ar_16 {y n : Nat} (h : y + 24 ≤ n) : y + 12 + 4 ≤ n := by omega
theorem ar_24 {y n : Nat} (h : y + 24 ≤ n) : y + 16 + 8 ≤ n := by omega
theorem q_sL {p : Nat} (hb : mb h m B) (hF : 8 < F) (hn : o + n ≤ 65536) (hp : p + 24 ≤ n) : f_M_num F m (nI (o + p)) (nI 8) h = some (lN (le (cb B o n) p 8), h) := q_numo hb hF (by decide) hn (ar_8 hp)
theorem q_sH {p : Nat} (hb : mb h m B) (hF : 8 < F) (hn : o + n ≤ 65536) (hp : p + 24 ≤ n) : f_M_num F m (nI (o + p + 8)) (nI 4) h = some (lN (le (cb B o n) (p + 8) 4), h) := by rw [Nat.add_assoc]; exact q_numo hb hF (by decide) hn (ar_12 hp)
theorem q_sY {p : Nat} (hb : mb h m B) (hF : 8 < F) (hn : o + n ≤ 65536) (hp : p + 24 ≤ n) : f_M_num F m (nI (o + p + 12)) (nI 4) h = some (lN (le (cb B o n) (p + 12) 4), h) := by rw [Nat.add_assoc]; exact q_numo hb hF (by decide) hn (ar_16 hp)
theorem q_sD {p : Nat} (hb : mb h m B) (hF : 8 < F) (hn : o + n ≤ 65536) (hp : p + 24 ≤ n) : f_M_num F m (nI (o + p + 16)) (nI 8) h = some (lN (le (cb B o n) (p + 16) 8), h) := by rw [Nat.add_assoc]; exact q_numo hb hF (by decide) hn (ar_24 hp)
/-- the site's bytes: a hypothesis of those looked at before -/
def sB4 (b : Nat → Nat) (i j a : Nat) : Prop := isS b a = true → oI b a = oI b i → ∀ c, c < (if a < i then sN b a else j) → sOK0 b a c = true
theorem sH_lt {b : Nat → Nat} (hb : ∀ k, b k < 256) (i j : Nat) : sH b i j < 4294967296 := le_lt hb _ 4
theorem sY_lt {b : Nat → Nat} (hb : ∀ k, b k < 256) (i j : Nat) : sY b i j < 4294967296 := le_lt hb _ 4
theorem sL_lt {b : Nat → Nat} (hb : ∀ k, b k < 256) (i j : Nat) : sL b i j < 2 ^ 64 := le_lt hb _ 8
theorem wI_0 (x : Nat) : (wI x = nI 0) ↔ wd x = 0 := by
  unfold wI
  rcases wd_cases x with c | c | c | c <;> rw [c] <;> decide
theorem wI_l {x : Nat} (h : wd x ≠ 16) : (wI x).toInt64 = lN (wd x) := by
  unfold wI
  rw [if_neg h]
  rcases wd_cases x with c | c | c | c <;> rw [c] <;> rfl
theorem wI_n (x : Nat) : (wI x < 0) ↔ wd x = 16 := by
  unfold wI
  rcases wd_cases x with c | c | c | c <;> rw [c] <;> decide
theorem wI_n0 (x : Nat) : (wI x < nI 0) ↔ wd x = 16 := wI_n x
theorem wd_le {x : Nat} (h : wd x ≠ 16) : wd x ≤ 8 := by
  rcases wd_cases x with c | c | c | c <;> omega
theorem sOK0_le {b : Nat → Nat} {i j : Nat} (h : sOK0 b i j = true) (hz : oZ b (oI b i) ≤ 16384) : wd (sH b i j) ≠ 16 ∧ (wd (sH b i j) = 0 ∨ sL b i j + wd (sH b i j) ≤ 16384) := by
  have h1 := of_decide_eq_true h
  refine ⟨h1.1, ?_⟩
  rcases h1.2.2 with c | c
  · exact Or.inl c
  · exact Or.inr (Nat.le_trans c.2 hz)
theorem fr_pick {α : Type} (K : Bool → α) {fr : Bool} {x u y w : Nat} (hx : u = 0 ∨ x + u < 2 ^ 63) (hy : y + w < 2 ^ 63) : (if fr = false then K false else if u = 0 then K true else if lN (x + u) ≤ lN y then K true else if lN x < lN (y + w) then K false else K true) = K (fr && decide (u = 0 ∨ x + u ≤ y ∨ y + w ≤ x)) := by
  cases fr with
  | false => rfl
  | true =>
    rw [if_neg (by decide), Bool.true_and]
    by_cases c1 : u = 0
    · rw [if_pos c1, decide_eq_true (Or.inl c1)]
    · have hx := hx.resolve_left c1
      rw [if_neg c1]
      simp only [pk_lLE hx (show y < 2 ^ 63 by omega), pk_lLT (show x < 2 ^ 63 by omega) hy]
      by_cases c2 : x + u ≤ y
      · rw [if_pos c2, decide_eq_true (Or.inr (Or.inl c2))]
      · rw [if_neg c2]
        by_cases c3 : x < y + w
        · rw [if_pos c3, decide_eq_false (by omega)]
        · rw [if_neg c3, decide_eq_true (by omega)]
section SIT2
variable {k : Nat → Int32 → Int32 → Int32 → Int32 → Int32 → Int32 → Int32 → Int32 → px_H → Option (Int32 × px_H)}
theorem q_isSite_149 {i j a w p t : Nat} (hb : mb h m B) (hF : 8 < F) (hw : w1 (cb B o n) n) (hn : o + n ≤ 65536) (hi : i < oS (cb B o n)) (ha : a ≤ i) (h1a : 1 ≤ a) (haS : isS (cb B o n) a = true) (hT : oI (cb B o n) a = oI (cb B o n) i) (hw0 : wd (sH (cb B o n) i j) = w) (hw1 : w ≤ 8) (hp : sP (cb B o n) i j = p) (hpp : p + 24 ≤ n) (hL : sL (cb B o n) i j ≤ 16384) (hB : sB4 (cb B o n) i j a) (hj : j ≤ sN (cb B o n) i) : ∀ (c d f : Nat) (fr : Bool), d + c = (if a < i then sN (cb B o n) a else j) → c < f → f_M_isSite_149 F k f m (nI o) (nI i) (nI j) (nI (o + p)) (nI w) (nI t) (bI fr) (nI a) (nI d) h = k m (nI o) (nI i) (nI j) (nI (o + p)) (nI w) (nI t) (bI (fr && al (sFree (cb B o n) i j a) d c)) (nI (a + 1)) h := by
  obtain ⟨fs, h1⟩ := mb_o hb
  have ho := w1_rk hw hn
  have hs := hw.2.1.2
  have k0 : (0 : Int32) = nI 0 := rfl
  have haS' := isS_T haS
  have haI : a < oS (cb B o n) := Nat.lt_of_le_of_lt ha hi
  have hz := hw.2.2.2.2 _ haS'.2.1 haS'.2.2
  have hZa := w1_s hw haI haS'.1
  have hZ63 : oZ (cb B o n) a < 2 ^ 63 := by
    generalize oZ (cb B o n) a = z at *
    generalize oP (cb B o n) a = y at *
    omega
  have hsn : sN (cb B o n) a ≤ 65536 := by
    unfold sN
    generalize oZ (cb B o n) a = z at *
    generalize oP (cb B o n) a = y at *
    omega
  have hja : (if a < i then sN (cb B o n) a else j) ≤ sN (cb B o n) a := by
    by_cases c : a < i
    · rw [if_pos c]; exact Nat.le_refl _
    · rw [if_neg c, show a = i by omega]; exact hj
  intro c
  induction c with
  | zero =>
    intro d f fr hd hf
    obtain ⟨f, rfl⟩ : ∃ g, f = g + 1 := ⟨f - 1, by omega⟩
    unfold f_M_isSite_149
    have e : ∀ x, x = d → x ≤ 65536 → f_M_isSite_168 F k (f_M_isSite_149 F k f) m (nI o) (nI i) (nI j) (nI (o + p)) (nI w) (nI t) (bI fr) (nI a) (nI d) (nI d) (nI x) h = k m (nI o) (nI i) (nI j) (nI (o + p)) (nI w) (nI t) (bI (fr && al (sFree (cb B o n) i j a) d 0)) (nI (a + 1)) h := by
      intro x hx hx2
      unfold f_M_isSite_168 f_M_isSite_268
      rw [if_pos (nI_le (by omega) (by omega)), nI_add]
      simp [al]
    by_cases c1 : a < i
    · rw [if_neg (nI_ge c1 (by omega)), h1, bs, q_siteMany hb hF ho haI hZ63, xb_mk]
      rw [if_pos c1] at hd
      exact e _ hd.symm hsn
    · rw [if_pos (nI_le (by omega) (by omega))]
      rw [if_neg c1] at hd hja
      exact e _ hd.symm (Nat.le_trans hja hsn)
  | succ c ih =>
    intro d f fr hd hf
    obtain ⟨f, rfl⟩ : ∃ g, f = g + 1 := ⟨f - 1, by omega⟩
    unfold f_M_isSite_149
    have hds : d < sN (cb B o n) a := by omega
    have hq := w1_sp hw haI haS'.1 hds
    have h0 := hB haS hT d (by omega)
    obtain ⟨g1, g2⟩ := sOK0_le h0 hz
    have g3 := wd_le g1
    have g4 := sL_lt (cb_lt B o n) a d
    have e : ∀ x, d < x → x ≤ 65536 → f_M_isSite_168 F k (f_M_isSite_149 F k f) m (nI o) (nI i) (nI j) (nI (o + p)) (nI w) (nI t) (bI fr) (nI a) (nI d) (nI d) (nI x) h = k m (nI o) (nI i) (nI j) (nI (o + p)) (nI w) (nI t) (bI (fr && al (sFree (cb B o n) i j a) d (c + 1))) (nI (a + 1)) h := by
      intro x hx hx2
      unfold f_M_isSite_168
      rw [if_neg (nI_ge hx (by omega)), h1, bs, q_site hb hF ho haI, xb_mk, h1, bs, nI_add, q_sH hb hF hn hq, xb_mk, show le (cb B o n) (sP (cb B o n) a d + 8) 4 = sH (cb B o n) a d from rfl, q_width (sH_lt (cb_lt B o n) a d), xb_mk]
      simp only [f_M_isSite_259, f_M_isSite_255, f_M_isSite_260, nI_add, h1, bs, q_sL hb hF hn hq, q_sL hb hF hn hpp, xb_mk, k0, bI_0, wI_0]
      rw [show nI 0 = bI false from rfl, show nI 1 = bI true from rfl]
      rw [ih (d + 1) f false (by omega) (by omega), ih (d + 1) f true (by omega) (by omega), al_s]
      rw [show le (cb B o n) (sP (cb B o n) a d) 8 = sL (cb B o n) a d from rfl, show le (cb B o n) p 8 = sL (cb B o n) i j by rw [← hp]; rfl, wI_l g1, nI_l (show w < 2 ^ 31 by omega), lN_add, lN_add]
      rw [← Bool.and_assoc, show sFree (cb B o n) i j a d = decide (wd (sH (cb B o n) a d) = 0 ∨ sL (cb B o n) a d + wd (sH (cb B o n) a d) ≤ sL (cb B o n) i j ∨ sL (cb B o n) i j + w ≤ sL (cb B o n) a d) by unfold sFree; rw [hw0]]
      exact fr_pick (fun q => k m (nI o) (nI i) (nI j) (nI (o + p)) (nI w) (nI t) (bI (q && al (sFree (cb B o n) i j a) (d + 1) c)) (nI (a + 1)) h) (g2.imp_right (fun g => Nat.lt_of_le_of_lt g (by decide))) (Nat.lt_of_le_of_lt (Nat.add_le_add hL hw1) (by decide))
    by_cases c1 : a < i
    · rw [if_neg (nI_ge c1 (by omega)), h1, bs, q_siteMany hb hF ho haI hZ63, xb_mk]
      exact e _ hds hsn
    · rw [if_pos (nI_le (by omega) (by omega))]
      rw [if_neg c1] at hd
      rw [if_neg c1] at hja
      exact e _ (by omega) (Nat.le_trans hja hsn)
end SIT2
end SIT
