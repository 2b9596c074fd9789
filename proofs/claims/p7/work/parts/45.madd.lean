/-! the reference's fileError and add -/
/-- s bytes from a on -/
def sub (b : Nat → Nat) (a s k : Nat) : Nat := if k < s then b (a + k) else 0
def isAr (b : Nat → Nat) (n : Nat) : Bool := decide (7 < n ∧ le b 0 8 = 738142165265366049)
/-- the members of a file -/
def fMem (b : Nat → Nat) (n : Nat) : Option (List (Nat × Nat × Bool)) := if isAr b n = true then ams b n 8 8 else some [(0, n, false)]
/-- the error of the first member that has one -/
def eMem (b : Nat → Nat) : List (Nat × Nat × Bool) → Nat
  | [] => 0
  | x :: l => if x.2.2 = false ∧ eObj (sub b x.1 x.2.1) x.2.1 ≠ 0 then eObj (sub b x.1 x.2.1) x.2.1 else eMem b l
theorem eMem_s (b : Nat → Nat) (x : Nat × Nat × Bool) (l : List (Nat × Nat × Bool)) : eMem b (x :: l) = if x.2.2 = false ∧ eObj (sub b x.1 x.2.1) x.2.1 ≠ 0 then eObj (sub b x.1 x.2.1) x.2.1 else eMem b l := rfl
/-- the error of a file -/
def eFil (b : Nat → Nat) (n : Nat) : Nat := match fMem b n with
  | none => 8
  | some l => eMem b l
theorem ams_le {b : Nat → Nat} {n : Nat} : ∀ {c p : Nat} {l : List (Nat × Nat × Bool)}, ams b n c p = some l → l.length ≤ c ∧ ∀ x, x ∈ l → x.1 + x.2.1 ≤ n
  | 0, p, l, h => by
    unfold ams at h
    by_cases c : n ≤ p
    · rw [if_pos c] at h; cases h; exact ⟨Nat.le_refl _, fun x hx => nomatch hx⟩
    · rw [if_neg c] at h; cases h
  | c + 1, p, l, h => by
    rw [ams_s] at h
    by_cases c1 : n ≤ p
    · rw [if_pos c1] at h; cases h; exact ⟨Nat.zero_le _, fun x hx => nomatch hx⟩
    · rw [if_neg c1] at h
      by_cases c2 : aOK b n p = true
      · rw [if_pos c2] at h
        obtain ⟨l', e1, e2⟩ := Option.map_eq_some_iff.mp h
        subst e2
        have := ams_le e1
        refine ⟨by rw [List.length_cons]; omega, fun x hx => ?_⟩
        rcases List.mem_cons.mp hx with e | e
        · rw [e]; exact (aOK_p c2).2.2.2.2.1
        · exact this.2 x e
      · rw [if_neg c2] at h; cases h
theorem fMem_le {b : Nat → Nat} {n : Nat} {l : List (Nat × Nat × Bool)} (h : fMem b n = some l) : l.length ≤ 8 ∧ ∀ x, x ∈ l → x.1 + x.2.1 ≤ n := by
  unfold fMem at h
  by_cases c : isAr b n = true
  · rw [if_pos c] at h; exact ams_le h
  · rw [if_neg c] at h
    cases h
    exact ⟨(by decide : 1 ≤ 8), fun x hx => by rw [List.mem_singleton.mp hx]; show 0 + n ≤ n; omega⟩
theorem eObj_le (b : Nat → Nat) (n : Nat) : eObj b n ≤ 9 := by
  have h1 := fst0_le (M := 4) (fun i => eSec_3 b n i) (c := oS b) (i := 0)
  have h2 : eSym b ≤ 6 := by
    unfold eSym
    split
    · decide
    · split
      · decide
      · split
        · split <;> decide
        · decide
  have h3 : eSit b ≤ 7 := by unfold eSit; split <;> decide
  have h4 : eGrp b ≤ 9 := by unfold eGrp; split <;> decide
  unfold eObj
  split
  · decide
  · split
    · decide
    · split
      · omega
      · split
        · omega
        · split <;> omega
theorem eMem_le (b : Nat → Nat) : ∀ l, eMem b l ≤ 9
  | [] => Nat.zero_le _
  | x :: l => by
    rw [eMem_s]
    split
    · exact eObj_le _ _
    · exact eMem_le b l
theorem eFil_le (b : Nat → Nat) (n : Nat) : eFil b n ≤ 9 := by
  unfold eFil
  split
  · decide
  · exact eMem_le b _
section ADD
variable {F : Nat} {h : px_H} {m f n : Nat} {σ : px_S}
theorem cb_sub {B : Nat → Int32} {o n a s : Nat} (hs : a + s ≤ n) : cb B (o + a) s = sub (cb B o n) a s := by
  funext k
  unfold sub
  by_cases c : k < s
  · rw [if_pos c, cb_at c, cb_at (by omega), Nat.add_assoc]
  · rw [if_neg c]
    unfold cb
    rw [if_neg c]
theorem sub_0 {B : Nat → Int32} {o n : Nat} : sub (cb B o n) 0 n = cb B o n := by
  rw [← cb_sub (Nat.le_of_eq (Nat.zero_add n)), Nat.add_zero]
theorem mrow_96 {g : Nat → Int32} : ∀ {l : List (Nat × Nat × Bool)} {c : Nat}, mrow (sA σ 96 g) f c l ↔ mrow σ f c l
  | [], _ => Iff.rfl
  | x :: l, c => by
    unfold mrow
    rw [mrow_96]
    exact Iff.rfl
theorem q_fileError_e {e k g : Nat} (he : 0 < e) (he2 : e ≤ 9) (hm : m ≤ h.length) (hf : f < 8) : f_M_fileError_120 F (g + 1) m (nI f) (nI e) (nI k) (mh m h σ) = some (nI e, mh m h σ) := by
  unfold f_M_fileError_120
  rw [Mr8 hm, bs, Ma8 hm hf, bs, if_neg (show ¬ nI e = 0 from nI_ne0 he (by omega)), ite_self]
  rfl
theorem q_fileError_120 (hF : 65536 < F) (hf : f < 8) (hn : n ≤ 8192) : ∀ (l : List (Nat × Nat × Bool)) (k g : Nat) (σ : px_S), m ≤ h.length → (∀ k, isB (gA σ 6 k)) → mrow σ f k l → gA σ 8 f = nI (k + l.length) → k + l.length ≤ 8 → (∀ x, x ∈ l → x.1 + x.2.1 ≤ n) → l.length + 1 < g → ∃ q, f_M_fileError_120 F g m (nI f) (nI 0) (nI k) (mh m h σ) = some (nI (eMem (fb σ f n) l), mh m h (sA σ 96 q)) := by
  intro l
  induction l with
  | nil =>
    intro k g σ hm hB hr hc hk hx hg
    obtain ⟨g, rfl⟩ : ∃ x, g = x + 1 := ⟨g - 1, by omega⟩
    refine ⟨gA σ 96, ?_⟩
    unfold f_M_fileError_120
    rw [Mr8 hm, bs, Ma8 hm hf, bs, hc, if_pos (nI_le (by simp) (by omega)), sA_self]
    rfl
  | cons x l ih =>
    intro k g σ hm hB hr hc hk hx hg
    rw [List.length_cons] at hc hk hg
    obtain ⟨g, rfl⟩ : ∃ x, g = x + 1 := ⟨g - 1, by omega⟩
    have hx1 := hx x (List.mem_cons_self ..)
    unfold mrow at hr
    obtain ⟨⟨r1, r2, r3⟩, r4⟩ := hr
    unfold f_M_fileError_120
    rw [Mr8 hm, bs, Ma8 hm hf, bs, hc, if_neg (nI_ge (by omega) (by omega)), if_pos (show nI 0 = 0 from rfl), Mr12 hm, bs, pk_mul, nI_add, Ma12 hm (by omega), bs, r3, Mr9 hm, bs, Ma9 hm (by omega), bs, r1, Mr10 hm, bs, Ma10 hm (by omega), bs, r2, e_o hm, bs]
    simp only [f_M_fileError_173, nI_add]
    rw [show (0 : Int32) = nI 0 from rfl]
    simp only [bI_0]
    rw [eMem_s]
    by_cases c1 : x.2.2 = false
    · rw [if_pos c1]
      obtain ⟨q, e⟩ := q_objectError (F := F) (h := h) (σ := σ) (o := 8192 * f + x.1) (n := x.2.1) hF hm hB (by omega)
      rw [e, xb_mk, cb_sub hx1]
      rw [show cb (gA σ 6) (8192 * f) n = fb σ f n from rfl]
      have h9 := eObj_le (sub (fb σ f n) x.1 x.2.1) x.2.1
      by_cases c2 : eObj (sub (fb σ f n) x.1 x.2.1) x.2.1 = 0
      · rw [c2, if_neg (fun q => q.2 rfl)]
        obtain ⟨q2, e2⟩ := ih (k + 1) g (sA σ 96 q) hm hB (mrow_96.mpr r4) (by rw [show gA (sA σ 96 q) 8 f = gA σ 8 f from rfl, hc]; congr 1; omega) (by omega) (fun y hy => hx y (List.mem_cons_of_mem _ hy)) (by omega)
        exact ⟨q2, by rw [e2, sA_sA]; rfl⟩
      · rw [if_pos ⟨c1, c2⟩]
        obtain ⟨g, rfl⟩ : ∃ x, g = x + 1 := ⟨g - 1, by omega⟩
        exact ⟨q, q_fileError_e (by omega) h9 hm hf⟩
    · rw [if_neg c1, if_neg (fun q => c1 q.1)]
      exact ih (k + 1) g σ hm hB r4 (by rw [hc]; congr 1; omega) (by omega) (fun y hy => hx y (List.mem_cons_of_mem _ hy)) (by omega)
theorem fst_up {σ : px_S} {v : Int32} : mfr f σ (sA σ 8 (upd (gA σ 8) f v)) := by
  refine ⟨fun _ => rfl, fun _ => rfl, fun _ => rfl, ?_, ?_, ?_⟩
  · intro k h8 _ _ _ _ _
    rw [gA_sA, if_neg h8]
  · intro i hi
    refine ⟨?_, rfl⟩
    show upd (gA σ 8) f v i = _
    exact upd_ne hi
  · intro i hi
    exact ⟨rfl, rfl, rfl⟩
theorem fst_11 {σ : px_S} {v : Int32} : mfr f σ (sA σ 11 (upd (gA σ 11) f v)) := by
  refine ⟨fun _ => rfl, fun _ => rfl, fun _ => rfl, ?_, ?_, ?_⟩
  · intro k _ _ _ h11 _ _
    rw [gA_sA, if_neg h11]
  · intro i hi
    refine ⟨rfl, ?_⟩
    show upd (gA σ 11) f v i = _
    exact upd_ne hi
  · intro i hi
    exact ⟨rfl, rfl, rfl⟩
theorem mfr_6 {σ σ' : px_S} (hq : mfr f σ σ') : gA σ' 6 = gA σ 6 := hq.2.2.2.1 6 (by decide) (by decide) (by decide) (by decide) (by decide) (by decide)
theorem q_fileError_41 (hF : 65536 < F) (hf : f < 8) (hn : n ≤ 8192) (hm : m ≤ h.length) (hB : ∀ k, isB (gA σ 6 k)) (hd : gA σ 8 f = nI 0) : ∃ σ', mfr f σ σ' ∧ f_M_fileError_41 F m (nI f) (nI n) (m + 8) (nI f) (bI (isAr (fb σ f n) n)) (mh m h σ) = some (nI (eFil (fb σ f n) n), mh m h σ') ∧ gA σ' 11 f = bI (isAr (fb σ f n) n) ∧ ∀ l, fMem (fb σ f n) n = some l → mrow σ' f 0 l ∧ gA σ' 8 f = nI l.length := by
  unfold f_M_fileError_41
  rw [z_and, Ms11 hm hf, bs, Mr11 hm, bs, Ma11 hm hf, bs]
  have e11 : gA (sA σ 11 (upd (gA σ 11) f (bI (isAr (fb σ f n) n)))) 11 f = bI (isAr (fb σ f n) n) := upd_eq
  rw [e11, show (0 : Int32) = nI 0 from rfl]
  have fr1 : mfr f σ (sA σ 11 (upd (gA σ 11) f (bI (isAr (fb σ f n) n)))) := fst_11
  simp only [bI_0]
  by_cases c1 : isAr (fb σ f n) n = true
  · rw [if_neg (show ¬ isAr (fb σ f n) n = false by rw [c1]; decide), e_o hm, bs]
    have h8 : 7 < n := (of_decide_eq_true c1).1
    obtain ⟨σ2, f1, f2, f3, f4⟩ := q_isMembers (F := F) (h := h) (m := m) (f := f) (n := n) (by omega) hf hn (by omega) (sA σ 11 (upd (gA σ 11) f (bI (isAr (fb σ f n) n)))) hm hB hd
    rw [f3, xb_mk]
    rw [show fb (sA σ 11 (upd (gA σ 11) f (bI (isAr (fb σ f n) n)))) f n = fb σ f n from rfl] at f4 ⊢
    have hM : fMem (fb σ f n) n = ams (fb σ f n) n 8 8 := if_pos c1
    have h11 : gA σ2 11 f = bI (isAr (fb σ f n) n) := (f2 f).trans e11
    unfold eFil
    rw [hM]
    cases hq : ams (fb σ f n) n 8 8 with
    | none =>
      refine ⟨σ2, mfr_trans fr1 f1, ?_, h11, fun l hl => nomatch hl⟩
      rfl
    | some l =>
      have h5 := ams_le hq
      have h6 := f4 l hq
      have e6 : gA σ2 6 = gA σ 6 := mfr_6 (mfr_trans fr1 f1)
      obtain ⟨q, e⟩ := q_fileError_120 (F := F) (h := h) (m := m) (f := f) (n := n) hF hf hn l 0 F σ2 hm (by rw [e6]; exact hB) h6.1 (by rw [h6.2, Nat.zero_add]) (by omega) h5.2 (by omega)
      refine ⟨sA σ2 96 q, mfr_trans (mfr_trans fr1 f1) (mfr_96 f σ2 q), ?_, h11, ?_⟩
      · rw [show (some l).isSome = true from rfl, if_neg (show ¬ bI true = nI 0 by decide), e]
        unfold fb
        rw [e6]
      · intro l' hl'
        cases hl'
        exact ⟨mrow_96.mpr h6.1, h6.2⟩
  · have c2 := Bool.eq_false_iff.mpr c1
    rw [if_pos c2, Mr8 hm, bs, Ms8 hm hf, bs, Mr9 hm, bs, pk_mul, pk_mul, Ms9 hm (by omega), bs, Mr10 hm, bs, Ms10 hm (by omega), bs, Mr12 hm, bs, z_0, Ms12 hm (by omega), bs, e_o hm, bs]
    have h1 : ∃ σ', σ' = sA (sA (sA (sA (sA σ 11 (upd (gA σ 11) f (bI (isAr (fb σ f n) n)))) 8 (upd (gA σ 8) f (nI 1))) 9 (upd (gA σ 9) (8 * f) (nI (8192 * f)))) 10 (upd (gA σ 10) (8 * f) (nI n))) 12 (upd (gA σ 12) (8 * f) (bI false)) := ⟨_, rfl⟩
    obtain ⟨σ', hσ⟩ := h1
    have e6 : gA σ' 6 = gA σ 6 := by rw [hσ]; rfl
    obtain ⟨q, e⟩ := q_objectError (F := F) (h := h) (m := m) (σ := σ') (o := 8192 * f) (n := n) hF hm (by rw [e6]; exact hB) (by omega)
    rw [hσ] at e
    have fr : mfr f σ σ' := by
      rw [hσ]
      refine ⟨fun _ => rfl, fun _ => rfl, fun _ => rfl, ?_, ?_, ?_⟩
      · intro k h8 h9 h10 h11 h12 _
        rw [gA_sA, if_neg h12, gA_sA, if_neg h10, gA_sA, if_neg h9, gA_sA, if_neg h8, gA_sA, if_neg h11]
      · intro i hi
        exact ⟨upd_ne hi, upd_ne hi⟩
      · intro i hi
        have : i ≠ 8 * f := by omega
        exact ⟨upd_ne this, upd_ne this, upd_ne this⟩
    have hM : fMem (fb σ f n) n = some [(0, n, false)] := if_neg c1
    have hE : eFil (fb σ f n) n = eObj (fb σ f n) n := by
      unfold eFil
      rw [hM]
      show eMem (fb σ f n) [(0, n, false)] = _
      rw [eMem_s]
      rw [show sub (fb σ f n) (0, n, false).1 (0, n, false).2.1 = fb σ f n from sub_0]
      show (if false = false ∧ eObj (fb σ f n) n ≠ 0 then eObj (fb σ f n) n else 0) = _
      by_cases c : eObj (fb σ f n) n = 0
      · rw [if_neg (fun q => q.2 c), c]
      · rw [if_pos ⟨rfl, c⟩]
    refine ⟨sA σ' 96 q, mfr_trans fr (mfr_96 f σ' q), ?_, ?_, ?_⟩
    · rw [hE, hσ]
      refine (congrArg (fun z => xb z (fun t14 ph15 => some (t14, ph15))) e).trans ?_
      rw [xb_mk]
      rfl
    · rw [hσ]; exact upd_eq
    · intro l hl
      rw [hM] at hl
      cases hl
      rw [hσ]
      exact ⟨⟨⟨upd_eq, upd_eq, upd_eq⟩, trivial⟩, upd_eq⟩
theorem q_fileError (hF : 65536 < F) (hf : f < 8) (hn : n ≤ 8192) (hm : m ≤ h.length) (hB : ∀ k, isB (gA σ 6 k)) : ∃ σ', mfr f σ σ' ∧ f_M_fileError F m (nI f) (nI n) (mh m h σ) = some (nI (eFil (fb σ f n) n), mh m h σ') ∧ gA σ' 11 f = bI (isAr (fb σ f n) n) ∧ ∀ l, fMem (fb σ f n) n = some l → mrow σ' f 0 l ∧ gA σ' 8 f = nI l.length := by
  unfold f_M_fileError f_M_fileError_40
  rw [Mr8 hm, bs, Ms8 hm hf, bs, Mr11 hm, bs]
  obtain ⟨σ2, f1, f2, f3, f4⟩ := q_fileError_41 (F := F) (h := h) (m := m) (σ := sA σ 8 (upd (gA σ 8) f (nI 0))) (n := n) hF hf hn hm hB upd_eq
  refine ⟨σ2, mfr_trans fst_up f1, ?_, f3, f4⟩
  refine Eq.trans ?_ f2
  have eb : fb (sA σ 8 (upd (gA σ 8) f (nI 0))) f n = fb σ f n := rfl
  by_cases c1 : n ≤ 7
  · rw [if_pos (nI_le c1 (by decide)), show isAr (fb (sA σ 8 (upd (gA σ 8) f (nI 0))) f n) n = false from decide_eq_false (fun q => by have := q.1; omega)]
    rfl
  · have hb : mb (mh m h (sA σ 8 (upd (gA σ 8) f (nI 0)))) m (gA σ 6) := Mmb hm hB
    have hL : le (fb σ f n) 0 8 < 2 ^ 64 := le_lt (cb_lt (gA σ 6) (8192 * f) n) 0 8
    have e := q_numo (F := F) (o := 8192 * f) (x := 0) (k := 8) (n := n) hb (by omega) (by decide) (by omega) (by omega)
    rw [Nat.add_zero] at e
    rw [if_neg (nI_ge (by omega) (by omega)), e_o hm, bs, pk_mul, e, xb_mk, show cb (gA σ 6) (8192 * f) n = fb σ f n from rfl, show (738142165265366049 : Int64) = lN 738142165265366049 from rfl]
    simp only [lEQ hL (show 738142165265366049 < 2 ^ 64 by decide)]
    rw [eb]
    by_cases c2 : le (fb σ f n) 0 8 = 738142165265366049
    · rw [if_pos c2, show isAr (fb σ f n) n = true from decide_eq_true ⟨by omega, c2⟩]
      rfl
    · rw [if_neg c2, show isAr (fb σ f n) n = false from decide_eq_false (fun q => c2 q.2)]
      rfl
/-- the n bytes of the tape behind those that are there at o -/
def put (B T : Nat → Int32) (o n x : Nat) : Int32 := if o ≤ x ∧ x < o + n then T (x - o) else B x
theorem put_0 (B T : Nat → Int32) (o : Nat) : put B T o 0 = B := by
  funext x
  exact if_neg (by omega)
theorem put_s (B T : Nat → Int32) (o n : Nat) : upd (put B T o n) (o + n) (T n) = put B T o (n + 1) := by
  funext x
  unfold upd put
  by_cases c : x = o + n
  · rw [if_pos c, if_pos (by omega), c, Nat.add_sub_cancel_left]
  · rw [if_neg c]
    by_cases c2 : o ≤ x ∧ x < o + n
    · rw [if_pos c2, if_pos (by omega)]
    · rw [if_neg c2, if_neg (by omega)]
theorem isB_n {x : Int32} (h : isB x) : x.toInt8.toInt32 = x := by
  have h1 : ∀ n, n < 256 → (nI n).toInt8.toInt32.toInt8.toInt32 = (nI n).toInt8.toInt32 := by decide +kernel
  have h2 := h1 _ (b8_lt x)
  rw [← h] at h2
  exact h2
theorem q_add_31 (hm : m ≤ h.length) (hf : f < 8) (hn : n ≤ 8192) : ∀ (c k g : Nat) (σ : px_S) (B : Nat → Int32), k + c = n → c < g → gI σ 5 = nI f → (∀ k, isB (gA σ 1 k)) → gA σ 6 = put B (gA σ 1) (8192 * f) k → f_M_add_31 F g m (nI n) (nI k) (mh m h σ) = f_M_add_63 F m (nI n) (mh m h (sA σ 6 (put B (gA σ 1) (8192 * f) n))) := by
  intro c
  induction c with
  | zero =>
    intro k g σ B hk hg h5 hB h6
    obtain ⟨g, rfl⟩ : ∃ x, g = x + 1 := ⟨g - 1, by omega⟩
    unfold f_M_add_31
    rw [if_pos (nI_le (by omega) (by omega)), show n = k by omega, ← h6, sA_self]
  | succ c ih =>
    intro k g σ B hk hg h5 hB h6
    obtain ⟨g, rfl⟩ : ∃ x, g = x + 1 := ⟨g - 1, by omega⟩
    unfold f_M_add_31
    rw [if_neg (nI_ge (by omega) (by omega)), Mr6 hm, bs, Mg5 hm, bs, h5, Mr1 hm, bs, Ma1 hm (by omega), bs, pk_mul, nI_add, isB_n (hB k), Ms6 hm (by omega), bs, h6, put_s, nI_add, ih (k + 1) g (sA σ 6 (put B (gA σ 1) (8192 * f) (k + 1))) B (by omega) (by omega) h5 hB rfl, sA_sA]
    rfl
end ADD
