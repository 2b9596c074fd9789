/-! what the reference's state says: tape, files -/
/-- the tape: n bytes b -/
def RT (σ : px_S) (n : Nat) (b : Nat → Nat) : Prop := gI σ 2 = nI n ∧ n ≤ 8192 ∧ (∀ k, isB (gA σ 1 k)) ∧ cb (gA σ 1) 0 n = b
/-- file f: n bytes b, and what was read of them -/
def RF1 (σ : px_S) (f n : Nat) (b : Nat → Nat) : Prop := n ≤ 8192 ∧ fb σ f n = b ∧ eFil b n = 0 ∧ gA σ 11 f = bI (isAr b n) ∧ ∃ l, fMem b n = some l ∧ mrow σ f 0 l ∧ gA σ 8 f = nI l.length
/-- the files -/
def RF (σ : px_S) (fs : List (Nat × (Nat → Nat))) : Prop := gI σ 5 = nI fs.length ∧ fs.length ≤ 8 ∧ (∀ k, isB (gA σ 6 k)) ∧ ∀ f x, fs[f]? = some x → RF1 σ f x.1 x.2
/-- nothing has changed but what add changes -/
def frA (σ σ' : px_S) : Prop := (∀ k, k ≠ 0 → k ≠ 2 → k ≠ 5 → gI σ' k = gI σ k) ∧ (∀ k, gJ σ' k = gJ σ k) ∧ (∀ k, gB σ' k = gB σ k) ∧ (∀ k, k ≠ 6 → k ≠ 7 → k ≠ 8 → k ≠ 9 → k ≠ 10 → k ≠ 11 → k ≠ 12 → k ≠ 19 → k ≠ 96 → gA σ' k = gA σ k)
theorem mrow_eq {σ σ' : px_S} {f : Nat} (h9 : ∀ i, 8 * f ≤ i → i < 8 * f + 8 → gA σ' 9 i = gA σ 9 i ∧ gA σ' 10 i = gA σ 10 i ∧ gA σ' 12 i = gA σ 12 i) : ∀ {l : List (Nat × Nat × Bool)} {c : Nat}, c + l.length ≤ 8 → mrow σ f c l → mrow σ' f c l
  | [], _, _, _ => trivial
  | x :: l, c, hc, h => by
    rw [List.length_cons] at hc
    unfold mrow at h ⊢
    have e := h9 (8 * f + c) (by omega) (by omega)
    rw [e.1, e.2.1, e.2.2]
    exact ⟨h.1, mrow_eq h9 (by omega) h.2⟩
theorem put_cb {B T : Nat → Int32} {o n o' n' : Nat} (h : o' + n' ≤ o) : cb (put B T o n) o' n' = cb B o' n' := by
  funext k
  unfold cb
  by_cases c : k < n'
  · rw [if_pos c, if_pos c]
    unfold put
    rw [if_neg (by omega)]
  · rw [if_neg c, if_neg c]
theorem put_same {B T : Nat → Int32} {o n : Nat} : cb (put B T o n) o n = cb T 0 n := by
  funext k
  unfold cb
  by_cases c : k < n
  · rw [if_pos c, if_pos c]
    unfold put
    rw [if_pos (by omega), Nat.add_sub_cancel_left, Nat.zero_add]
  · rw [if_neg c, if_neg c]
theorem put_B {B T : Nat → Int32} {o n : Nat} (hB : ∀ k, isB (B k)) (hT : ∀ k, isB (T k)) (k : Nat) : isB (put B T o n k) := by
  unfold put
  split
  · exact hT _
  · exact hB _
/-- a file's row holds on where nothing of it changes -/
theorem RF1_eq {σ σ' : px_S} {f n : Nat} {b : Nat → Nat} (h : RF1 σ f n b) (h6 : fb σ' f n = fb σ f n) (h8 : gA σ' 8 f = gA σ 8 f) (h11 : gA σ' 11 f = gA σ 11 f) (h9 : ∀ i, 8 * f ≤ i → i < 8 * f + 8 → gA σ' 9 i = gA σ 9 i ∧ gA σ' 10 i = gA σ 10 i ∧ gA σ' 12 i = gA σ 12 i) : RF1 σ' f n b := by
  obtain ⟨a1, a2, a3, a4, l, a5, a6, a7⟩ := h
  exact ⟨a1, h6.trans a2, a3, h11.trans a4, l, a5, mrow_eq h9 (by rw [Nat.zero_add]; exact (fMem_le a5).1) a6, h8.trans a7⟩
section ADD2
variable {F : Nat} {h : px_H} {m : Nat} {σ : px_S}
/-- the exceptions' code -/
def thr (a b : Bool) : Nat := if a = true then 1 else if b = true then 2 else 0
theorem q_throwing (hm : m ≤ h.length) (a b : Bool) : f_M_throwing F m (bI a) (bI b) (mh m h σ) = some (bI (a || b), mh m h (sI σ 0 (nI (thr a b)))) := by
  unfold f_M_throwing f_M_throwing_18 f_M_throwing_33 thr
  cases a with
  | true =>
    rw [if_neg (show ¬ bI true = 0 by decide), Mp0 hm, bs, Mg0 hm, bs, gI_sI, if_pos rfl, if_neg (by decide), xz_1]
    rfl
  | false =>
    cases b with
    | true =>
      rw [if_pos (show bI false = 0 from rfl), if_neg (show ¬ bI true = 0 by decide), Mp0 hm, bs, Mg0 hm, bs, gI_sI, if_pos rfl, if_neg (by decide), xz_1]
      rfl
    | false =>
      rw [if_pos (show bI false = 0 from rfl), if_pos (show bI false = 0 from rfl), Mp0 hm, bs, Mg0 hm, bs, gI_sI, if_pos rfl, if_pos (by decide), xz_0]
      rfl
theorem q_add {n : Nat} {b : Nat → Nat} {fs : List (Nat × (Nat → Nat))} (hF : 65536 < F) (hm : m ≤ h.length) (ht : RT σ n b) (hr : RF σ fs) : ∃ σ', f_M_add F m (mh m h σ) = some (nI (if fs.length = 8 then 0 else eFil b n), mh m h σ') ∧ frA σ σ' ∧ gI σ' 0 = nI (if fs.length = 8 then 1 else 0) ∧ (if fs.length = 8 then RT σ' n b ∧ RF σ' fs ∧ (∀ i, gA σ' 19 i = gA σ 19 i) else RT σ' 0 (fun _ => 0) ∧ (if eFil b n = 0 then RF σ' (fs ++ [(n, b)]) ∧ gA σ' 19 fs.length = nI 0 ∧ ∀ i, i ≠ fs.length → gA σ' 19 i = gA σ 19 i else RF σ' fs ∧ ∀ i, gA σ' 19 i = gA σ 19 i)) := by
  obtain ⟨t1, t2, t3, t4⟩ := ht
  obtain ⟨r1, r2, r3, r4⟩ := hr
  unfold f_M_add
  rw [Mg5 hm, bs, r1]
  simp only [nI_eq (show fs.length < 2 ^ 31 by omega) (show 8 < 2 ^ 31 by decide)]
  by_cases c1 : fs.length = 8
  · rw [if_pos c1, if_pos c1, if_pos c1]
    unfold f_M_add_15
    rw [e_o hm, bs, show nI 1 = bI true from rfl, show nI 0 = bI false from rfl, q_throwing hm true false, xb_mk, if_neg (show ¬ bI (true || false) = 0 by decide)]
    refine ⟨_, rfl, ⟨fun k h0 _ _ => by rw [gI_sI, if_neg h0], fun _ => rfl, fun _ => rfl, fun _ _ _ _ _ _ _ _ _ _ => rfl⟩, rfl, ?_⟩
    rw [if_pos c1]
    exact ⟨⟨t1, t2, t3, t4⟩, ⟨r1, r2, r3, fun f x hx => RF1_eq (r4 f x hx) rfl rfl rfl (fun _ _ _ => ⟨rfl, rfl, rfl⟩)⟩, fun _ => rfl⟩
  · have hf : fs.length < 8 := by omega
    rw [if_neg c1, if_neg c1, if_neg c1]
    unfold f_M_add_15
    rw [e_o hm, bs, show nI 0 = bI false from rfl, q_throwing hm false false, xb_mk, if_pos (show bI (false || false) = 0 from rfl), Mg2 hm, bs, show gI (sI σ 0 (nI (thr false false))) 2 = nI n from t1, show bI false = nI 0 from rfl]
    rw [q_add_31 (F := F) (h := h) hm hf t2 n 0 F (sI σ 0 (nI (thr false false))) (gA σ 6) (by omega) (by omega) r1 t3 (put_0 _ _ _).symm]
    unfold f_M_add_63
    rw [Mp2 hm, bs, Mg5 hm, bs, e_o hm, bs]
    obtain ⟨σ1, hσ1⟩ : ∃ s, s = sI (sA (sI σ 0 (nI (thr false false))) 6 (put (gA σ 6) (gA σ 1) (8192 * fs.length) n)) 2 (nI 0) := ⟨_, rfl⟩
    have g5 : gI σ1 5 = nI fs.length := by rw [hσ1]; exact r1
    have g6 : gA σ1 6 = put (gA σ 6) (gA σ 1) (8192 * fs.length) n := by rw [hσ1]; rfl
    have gB6 : ∀ k, isB (gA σ1 6 k) := by rw [g6]; exact put_B r3 t3
    have gfb : fb σ1 fs.length n = b := by
      unfold fb
      rw [g6, put_same]
      exact t4
    obtain ⟨σ2, f1, f2, f3, f4⟩ := q_fileError (F := F) (h := h) (m := m) (f := fs.length) (n := n) (σ := σ1) hF hf t2 hm gB6
    rw [gfb] at f2 f3 f4
    have hh : mh m h (sI (sA (sI σ 0 (nI (thr false false))) 6 (put (gA σ 6) (gA (sI σ 0 (nI (thr false false))) 1) (8192 * fs.length) n)) 2 (nI 0)) = mh m h σ1 := by rw [hσ1]; rfl
    rw [hh, show gI (sI (sA (sI σ 0 (nI (thr false false))) 6 (put (gA σ 6) (gA (sI σ 0 (nI (thr false false))) 1) (8192 * fs.length) n)) 2 (nI 0)) 5 = nI fs.length from r1, f2, xb_mk, show (0 : Int32) = nI 0 from rfl]
    have e9 := eFil_le b n
    have e5 : gI σ2 5 = nI fs.length := (f1.1 5).trans g5
    have e6 : gA σ2 6 = put (gA σ 6) (gA σ 1) (8192 * fs.length) n := (mfr_6 f1).trans g6
    have old : ∀ f x, fs[f]? = some x → RF1 σ2 f x.1 x.2 := by
      intro f x hx
      have hfl : f < fs.length := (List.getElem?_eq_some_iff.mp hx).1
      have hr := r4 f x hx
      refine RF1_eq hr ?_ ?_ ?_ ?_
      · unfold fb
        rw [e6, put_cb (by have := hr.1; omega)]
      · rw [(f1.2.2.2.2.1 f (by omega)).1, hσ1]; rfl
      · rw [(f1.2.2.2.2.1 f (by omega)).2, hσ1]; rfl
      · intro i h1 h2
        have := f1.2.2.2.2.2 i (Or.inl (by omega))
        rw [this.1, this.2.1, this.2.2, hσ1]
        exact ⟨rfl, rfl, rfl⟩
    have fr2 : ∀ k, k ≠ 6 → k ≠ 8 → k ≠ 9 → k ≠ 10 → k ≠ 11 → k ≠ 12 → k ≠ 96 → gA σ2 k = gA σ k := by
      intro k h6 h8 h9 h10 h11 h12 h96
      rw [f1.2.2.2.1 k h8 h9 h10 h11 h12 h96, hσ1]
      show gA (sA (sI σ 0 (nI (thr false false))) 6 _) k = _
      rw [gA_sA, if_neg h6]
      rfl
    have frI : ∀ k, k ≠ 0 → k ≠ 2 → gI σ2 k = gI σ k := by
      intro k h0 h2
      rw [f1.1 k, hσ1, gI_sI, if_neg h2]
      show gI (sI σ 0 (nI (thr false false))) k = _
      rw [gI_sI, if_neg h0]
    have t2' : RT σ2 0 (fun _ => 0) := by
      refine ⟨?_, Nat.zero_le _, ?_, ?_⟩
      · rw [f1.1 2, hσ1]; rfl
      · rw [fr2 1 (by decide) (by decide) (by decide) (by decide) (by decide) (by decide) (by decide)]; exact t3
      · funext k
        exact if_neg (Nat.not_lt_zero k)
    by_cases c2 : eFil b n = 0
    · simp only [c1, c2, if_false, if_true]
      rw [if_pos (show nI 0 ≤ nI 0 by decide), Mr7 hm, bs, Mg5 hm, bs, e5, Ms7 hm hf, bs, Mr19 hm, bs, Mg5 hm, bs, show gI (sA σ2 7 (upd (gA σ2 7) fs.length (nI n))) 5 = nI fs.length from e5, z_0, Ms19 hm hf, bs, Mg5 hm, bs]
      rw [show gI (sA (sA σ2 7 (upd (gA σ2 7) fs.length (nI n))) 19 (upd (gA (sA σ2 7 (upd (gA σ2 7) fs.length (nI n))) 19) fs.length (bI false))) 5 = nI fs.length from e5, nI_add, Mp5 hm, bs]
      have e19 : gA σ2 19 = gA σ 19 := fr2 19 (by decide) (by decide) (by decide) (by decide) (by decide) (by decide) (by decide)
      refine ⟨_, rfl, ⟨?_, ?_, ?_, ?_⟩, ?_, ?_, ?_, ?_, ?_⟩
      · intro k h0 h2 h5
        rw [gI_sI, if_neg h5]
        exact frI k h0 h2
      · intro k
        rw [gJ_sI, gJ_sA, gJ_sA, f1.2.1 k, hσ1]; rfl
      · intro k
        rw [gB_sI, gB_sA, gB_sA, f1.2.2.1 k, hσ1]; rfl
      · intro k h6 h7 h8 h9 h10 h11 h12 h19 h96
        rw [gA_sI, gA_sA, if_neg h19, gA_sA, if_neg h7]
        exact fr2 k h6 h8 h9 h10 h11 h12 h96
      · rw [gI_sI, if_neg (by decide), gI_sA, gI_sA, f1.1 0, hσ1]; rfl
      · exact t2'
      · refine ⟨?_, by rw [List.length_append]; exact hf, ?_, ?_⟩
        · rw [List.length_append]
          rfl
        · show ∀ k, isB (gA σ2 6 k)
          rw [e6]
          exact put_B r3 t3
        · intro f x hx
          by_cases cf : f < fs.length
          · rw [List.getElem?_append_left cf] at hx
            exact RF1_eq (old f x hx) rfl rfl rfl (fun i _ _ => ⟨rfl, rfl, rfl⟩)
          · have hfe : f = fs.length := by
              have := (List.getElem?_eq_some_iff.mp hx).1
              rw [List.length_append] at this
              have : f < fs.length + 1 := this
              omega
            subst hfe
            rw [List.getElem?_append_right (Nat.le_refl _), Nat.sub_self] at hx
            have hx' : (n, b) = x := Option.some.inj hx
            rw [← hx']
            have hMs : ∃ l, fMem b n = some l := by
              unfold eFil at c2
              cases hq : fMem b n with
              | none => rw [hq] at c2; exact absurd c2 (show ¬ (8 : Nat) = 0 by decide)
              | some l => exact ⟨l, rfl⟩
            obtain ⟨l, hl⟩ := hMs
            have f5 := f4 l hl
            have hR : RF1 σ2 fs.length n b := by
              refine ⟨t2, ?_, c2, f3, l, hl, f5.1, f5.2⟩
              show cb (gA σ2 6) (8192 * fs.length) n = b
              rw [e6, put_same]
              exact t4
            exact RF1_eq hR rfl rfl rfl (fun i _ _ => ⟨rfl, rfl, rfl⟩)
      · exact upd_eq
      · intro i hi
        show upd (gA σ2 19) fs.length (bI false) i = _
        rw [upd_ne hi, e19]
    · simp only [c1, c2, if_false]
      rw [if_neg (nI_ge (by omega) (by omega))]
      refine ⟨σ2, rfl, ⟨fun k h0 h2 _ => frI k h0 h2, fun k => by rw [f1.2.1 k, hσ1]; rfl, fun k => by rw [f1.2.2.1 k, hσ1]; rfl, fun k h6 _ h8 h9 h10 h11 h12 _ h96 => fr2 k h6 h8 h9 h10 h11 h12 h96⟩, ?_, t2', ?_, ?_⟩
      · rw [f1.1 0, hσ1]; rfl
      · exact ⟨e5, r2, by rw [e6]; exact put_B r3 t3, old⟩
      · intro i
        rw [fr2 19 (by decide) (by decide) (by decide) (by decide) (by decide) (by decide) (by decide)]
end ADD2
