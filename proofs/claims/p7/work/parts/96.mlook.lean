/-! look2 of the reference -/
/-- one of c, from k on -/
def ex1 (g : Nat → Bool) : Nat → Nat → Bool
  | _, 0 => false
  | k, c + 1 => g k || ex1 g (k + 1) c
theorem ex1_s {g : Nat → Bool} {k c : Nat} : ex1 g k (c + 1) = (g k || ex1 g (k + 1) c) := rfl
theorem ex1_iff {g : Nat → Bool} : ∀ {c k : Nat}, ex1 g k c = true ↔ ∃ i, k ≤ i ∧ i < k + c ∧ g i = true := by
  intro c
  induction c with
  | zero => intro k; exact ⟨fun q => (nomatch q), fun ⟨i, h1, h2, _⟩ => by omega⟩
  | succ c ih =>
    intro k
    rw [ex1_s, Bool.or_eq_true, ih]
    constructor
    · rintro (q | ⟨i, h1, h2, h3⟩)
      · exact ⟨k, Nat.le_refl _, by omega, q⟩
      · exact ⟨i, by omega, by omega, h3⟩
    · rintro ⟨i, h1, h2, h3⟩
      by_cases e : i = k
      · exact Or.inl (e ▸ h3)
      · exact Or.inr ⟨i, by omega, by omega, h3⟩
theorem nI_self (y : Int32) : nI y.toBitVec.toNat = y := by
  apply Int32.toBitVec_inj.mp
  show BitVec.ofNat 32 y.toBitVec.toNat = _
  exact BitVec.eq_of_toNat_eq (by rw [BitVec.toNat_ofNat]; exact Nat.mod_eq_of_lt y.toBitVec.isLt)
theorem isB_8 (y : Int32) : isB y.toInt8.toInt32 := by
  rw [← nI_self y, toInt8_mod]
  exact isB_n8 _ (Nat.mod_lt _ (by decide))
/-- a name is told: answer 2, OUT -/
def LK (σ σ' : px_S) : Prop := gI σ' 13 = nI 2 ∧ FR [4, 13] [] [3] [] σ σ' ∧ (∀ k, isB (gA σ' 3 k)) ∧ ∃ n, n ≤ 20 ∧ gI σ' 4 = nI n
/-- symbol k of object t is missed -/
def lkY (dr : Nat → Bool) (xs : px_NL) (t : Nat) (b : Nat → Nat) (k : Nat) : Bool := decide (yB b k = 1) && (decide (wNo dr t b k = 0) && decide (stN xs (plc (yT b k) (xs.map Prod.fst)) = 0))
def lkT (fs : px_FS) (s : px_TK) (xs : px_NL) (t : Nat) : Bool := match s.2.2.1[t]? with
  | none => false
  | some q => match obAt fs q with
    | none => false
    | some y => ex1 (lkY s.2.1.1 xs t y.2.2.1) 1 (oM y.2.2.1 - 1)
def lkW (ws : List (List Nat)) (xs : px_NL) (w : Nat) : Bool := decide (stN xs (plc (ws.getD w []) (xs.map Prod.fst)) = 0)
/-- a name is left without a definition -/
def lkA (fs : px_FS) (ws : List (List Nat)) (s : px_TK) (xs : px_NL) : Bool := ex1 (lkW ws xs) 0 ws.length || (ex1 (lkT fs s xs) 0 s.2.2.1.length || (dfI wST xs).isNone)
/-- the names of the objects taken are there -/
def nmI (fs : px_FS) (tq : List Nat) (xs : px_NL) : Prop := ∀ (t q o n : Nat) (b : Nat → Nat), tq[t]? = some q → obAt fs q = some (o, n, b, false) → ∀ k, 1 ≤ k → k < oM b → yB b k ≠ 0 → (idx (yT b k) 0 (xs.map Prod.fst)).isSome = true
section MLK
variable {F m : Nat} {h : px_H} {xs : px_NL} {fs : px_FS} {σ : px_S}
theorem q_blame {i : Nat} {x : List Nat × px_NR} (hm : m ≤ h.length) (hF : 20 < F) (hr : RL σ xs) (hx : xs[i]? = some x) (h3 : ∀ k, isB (gA σ 3 k)) : ∃ σ', (∀ {K : Unit → px_H → Option (Unit × px_H)}, ((xpI (mh m h σ) 12 13 m (nI 2)).bind fun ph12 => (xgR ph12 12 21 m).bind fun t13 => (xgR ph12 12 22 m).bind fun t14 => (xaI ph12 1 t14 (nI i)).bind fun t15 => (xo ph12 12 m).bind fun _ => xb (f_M_say F m t13 ((nI 20) * nI i) t15 ph12) K) = K () (mh m h σ')) ∧ LK σ σ' := by
  have hxl : xs.length ≤ 4096 := by have := hr.1.2.1; rw [List.length_map] at this; exact this
  have hi := (List.getElem?_eq_some_iff.mp hx).1
  have fr := FR_I σ 13 (nI 2)
  have hr1 : RL (sI σ 13 (nI 2)) xs := RL_FR hr fr (by decide) (by decide) (by decide)
  have g13 : gI (sI σ 13 (nI 2)) 13 = nI 2 := by rw [gI_sI, if_pos rfl]
  obtain ⟨ok, e1, e2⟩ := hr1.1.2.2 i x.1 (by rw [List.getElem?_map, hx]; rfl)
  have h31 : ∀ k, isB (gA (sI σ 13 (nI 2)) 3 k) := h3
  have hp : xpI (mh m h σ) 12 13 m (nI 2) = some (mh m h (sI σ 13 (nI 2))) := Mp13 hm _
  generalize sI σ 13 (nI 2) = σ1 at *
  have okl := ok.1
  obtain ⟨σ', a1, a2, a3, a4, a5, a6⟩ := q_say (F := F) (p := 20 * i) (pa := m + 13) (ks := 21) (M := 81920) hm (by omega) (fun σ i hi => Ma21 hm hi) (by decide) ok e2 (by omega) h31
  refine ⟨σ', fun {K} => ?_, ?_, ?_, a2.2.2.1, x.1.length, by omega, a2.1⟩
  · rw [hp, bs, Mr21 hm, bs, Mr22 hm, bs, Ma22 hm (by omega), bs, e1, e_o hm, bs, pk_mul, a1, xb_mk]
  · rw [a3 13 (by decide)]; exact g13
  · refine FR_trans (FR_mono fr (by decide) (by decide) (by decide) (by decide)) ⟨fun k hk => a3 k (fun e => hk (by rw [e]; decide)), fun k _ => a4 k, fun k hk => a5 k (fun e => hk (by rw [e]; decide)), fun k _ => a6 k⟩
theorem q_lk_203 (hm : m ≤ h.length) (h13 : gI σ 13 = nI 2) : f_M_look2_203 F m (mh m h σ) = some ((), mh m h σ) := by
  unfold f_M_look2_203 f_M_look2_217
  rw [Mg13 hm, bs, h13, if_neg (by decide)]
theorem q_lk_84n {g t : Nat} (hm : m ≤ h.length) (h13 : gI σ 13 = nI 2) : f_M_look2_84 F (g + 1) m (nI t) (mh m h σ) = some ((), mh m h σ) := by
  unfold f_M_look2_84
  rw [Mg14 hm, bs, Mg13 hm, bs, h13, q_lk_203 hm h13, if_neg (show ¬ nI 2 = 0 by decide)]
  split <;> rfl
theorem q_lk_2n {g t : Nat} (hm : m ≤ h.length) (hF : 0 < F) (h13 : gI σ 13 = nI 2) : f_M_look2_2 F (g + 1) m (nI t) (mh m h σ) = some ((), mh m h σ) := by
  obtain ⟨F1, hF1⟩ : ∃ x, F = x + 1 := ⟨F - 1, by omega⟩
  have e : f_M_look2_82 F m (mh m h σ) = some ((), mh m h σ) := by
    unfold f_M_look2_82
    rw [show f_M_look2_84 F F m = f_M_look2_84 F (F1 + 1) m by rw [← hF1]]
    exact q_lk_84n hm h13
  unfold f_M_look2_2
  rw [Mg32 hm, bs, Mg13 hm, bs, h13, e, if_neg (show ¬ nI 2 = 0 by decide)]
  split <;> rfl
theorem q_lk_107n {g g0 k o n t : Nat} {b : Nat → Nat} (hm : m ≤ h.length) (hF : 24 < F) (hB : ∀ k, isB (gA σ 6 k)) (hcb : cb (gA σ 6) o n = b) (hw : w2 b n) (hn : o + n ≤ 65536) (h13 : gI σ 13 = nI 2) : f_M_look2_107 F (f_M_look2_84 F (g0 + 1)) (g + 1) m (nI t) (nI o) (nI k) (mh m h σ) = some ((), mh m h σ) := by
  have hrk : rk (gA σ 6) o n := w1_rk (by rw [hcb]; exact hw.1) hn
  unfold f_M_look2_107 f_M_look2_197
  rw [e_o hm, bs, q_symbolMany (Mmb hm hB) (by omega) hrk (by rw [hcb]; exact hw.1.2.1.1) (by rw [hcb]; exact w2_z hw), xb_mk, Mg13 hm, bs, h13, if_neg (show ¬ nI 2 = 0 by decide), nI_add, q_lk_84n hm h13]
  split <;> rfl
theorem q_lk_107 {g0 o n t : Nat} {b : Nat → Nat} {dr : Nat → Bool} (hm : m ≤ h.length) (hF : 65536 < F) (hB : ∀ k, isB (gA σ 6 k)) (h3 : ∀ k, isB (gA σ 3 k)) (hcb : cb (gA σ 6) o n = b) (hw : w2 b n) (hn : o + n ≤ 65536) (hy : ∀ k, 1 ≤ k → k < oM b → yOK b k = true) (ht : RTa σ t o) (hd : RDr σ dr) (hr : RL σ xs) (hok : okL xs) (h13 : gI σ 13 = nI 0) (hnm : ∀ k, 1 ≤ k → k < oM b → yB b k ≠ 0 → (idx (yT b k) 0 (xs.map Prod.fst)).isSome = true) : ∀ (c k g : Nat), 1 ≤ k → c = oM b - k → k < 2 ^ 30 → c + 1 < g → ∃ σ', f_M_look2_107 F (f_M_look2_84 F (g0 + 1)) g m (nI t) (nI o) (nI k) (mh m h σ) = (if ex1 (lkY dr xs t b) k c = true then some ((), mh m h σ') else f_M_look2_84 F (g0 + 1) m (nI (t + 1)) (mh m h σ)) ∧ (ex1 (lkY dr xs t b) k c = true → LK σ σ') := by
  have hM := w2_M hw
  have hwc : w2 (cb (gA σ 6) o n) n := by rw [hcb]; exact hw
  have hrk : rk (gA σ 6) o n := w1_rk (by rw [hcb]; exact hw.1) hn
  have hsm := q_symbolMany (F := F) (h := mh m h σ) (m := m) (Mmb hm hB) (by omega) hrk (by rw [hcb]; exact hw.1.2.1.1) (by rw [hcb]; exact w2_z hw)
  rw [hcb] at hsm
  intro c
  induction c with
  | zero =>
    intro k g h1 hc hk hg
    obtain ⟨g, rfl⟩ : ∃ x, g = x + 1 := ⟨g - 1, by omega⟩
    refine ⟨σ, ?_, fun q => nomatch q⟩
    unfold f_M_look2_107 f_M_look2_197
    rw [e_o hm, bs, hsm, xb_mk, if_pos (nI_le (by omega) (by omega)), nI_add, if_neg (show ¬ ex1 (lkY dr xs t b) k 0 = true from fun q => nomatch q)]
  | succ c ih =>
    intro k g h1 hc hk hg
    obtain ⟨g, rfl⟩ : ∃ x, g = x + 2 := ⟨g - 2, by omega⟩
    have hkM : k < oM b := by omega
    have hyk := hy k h1 hkM
    have hbn := q_bind (F := F) (h := mh m h σ) (m := m) (k := k) (Mmb hm hB) (by omega) hrk (by rw [hcb]; exact hw.1.2.1.1) (by rw [hcb]; exact w2_y hw hkM)
    have hwn := q_whereNow (F := F) (k := k) (dr := dr) hm (by omega) hB hwc hn (by rw [hcb]; exact hkM) ht hd
    rw [hcb] at hbn hwn
    have hB15 : yB b k < 16 := by
      have := yB_lt (cb_lt (gA σ 6) o n) k
      rw [hcb] at this
      exact this
    have hW : wNo dr t b k < 65536 := by
      have := yW_2 (B := gA σ 6) (o := o) (n := n) (k := k)
      rw [hcb] at this
      unfold wNo
      split <;> omega
    have nx : lkY dr xs t b k = false → ∃ σ', f_M_look2_107 F (f_M_look2_84 F (g0 + 1)) (g + 1) m (nI t) (nI o) (nI (k + 1)) (mh m h σ) = (if ex1 (lkY dr xs t b) k (c + 1) = true then some ((), mh m h σ') else f_M_look2_84 F (g0 + 1) m (nI (t + 1)) (mh m h σ)) ∧ (ex1 (lkY dr xs t b) k (c + 1) = true → LK σ σ') := by
      intro e
      rw [ex1_s, e, Bool.false_or]
      exact ih (k + 1) (g + 1) (by omega) (by omega) (by omega) (by omega)
    unfold f_M_look2_107 f_M_look2_191
    rw [e_o hm, bs, hsm, xb_mk, if_neg (nI_ge (by omega) (by omega)), Mg13 hm, bs, h13, if_pos (show nI 0 = 0 from rfl), e_o hm, bs, hbn, xb_mk, nI_add]
    by_cases c1 : yB b k = 1
    · rw [if_pos (by rw [c1]), e_o hm, bs, hwn, xb_mk]
      by_cases c2 : wNo dr t b k = 0
      · obtain ⟨y1, y2, y3⟩ := yOK_n hyk (by omega)
        have hno := q_nameOf (F := F) (o := o) (n := n) (k := k) hm (by omega) hB hwc hn (by rw [hcb]; exact hkM) (by rw [hcb]; exact y2) hr
        rw [hcb] at hno
        have hsome := hnm k h1 hkM (by omega)
        have e0 : lkY dr xs t b k = decide (stN xs (plc (yT b k) (xs.map Prod.fst)) = 0) := by
          unfold lkY
          rw [decide_eq_true c1, decide_eq_true c2, Bool.true_and, Bool.true_and]
        have hexs : lkY dr xs t b k = true → ex1 (lkY dr xs t b) k (c + 1) = true := fun e => by rw [ex1_s, e, Bool.true_or]
        generalize ex1 (lkY dr xs t b) k (c + 1) = EX at *
        generalize lkY dr xs t b k = LY at *
        unfold plc at e0
        generalize yT b k = w at *
        obtain ⟨i, ei⟩ := Option.isSome_iff_exists.mp hsome
        have hi := idx_lt ei
        rw [List.length_map] at hi
        have hxl : xs.length ≤ 4096 := by have := hr.1.2.1; rw [List.length_map] at this; exact this
        obtain ⟨x, hx⟩ : ∃ x, xs[i]? = some x := ⟨xs[i]'(by omega), List.getElem?_eq_getElem (by omega)⟩
        have hx4 := (hok i x hx).1
        rw [ei] at hno e0
        rw [show (some i).getD (xs.map Prod.fst).length = i from rfl, stN_at hx] at e0
        rw [if_pos (by rw [c2]; rfl), e_o hm, bs, hno, xb_mk, show tdA (some i) = nI i from rfl, Mr23 hm, bs, Ma23 hm (by omega), bs, (hr.2 i x hx).1]
        by_cases c3 : x.2.1 = 0
        · obtain ⟨σ', b1, b2⟩ := q_blame (F := F) hm (by omega) hr hx h3
          rw [if_pos (by rw [c3]; decide), b1, hexs (by rw [e0]; exact decide_eq_true c3)]
          refine ⟨σ', ?_, fun _ => b2⟩
          rw [if_pos rfl]
          have g6 : gA σ' 6 = gA σ 6 := b2.2.1.2.2.1 6 (by decide)
          exact q_lk_107n (b := b) (n := n) hm (by omega) (by rw [g6]; exact hB) (by rw [g6]; exact hcb) hw hn b2.1
        · rw [if_neg (show ¬ nI x.2.1 ≤ 0 from nI_ge (a := 0) (by omega) (by omega))]
          exact nx (by rw [e0]; exact decide_eq_false c3)
      · rw [if_neg (show ¬ nI (wNo dr t b k) = 0 from fun q => c2 ((nI_eq (b := 0) (by omega) (by decide)).mp q))]
        exact nx (by unfold lkY; rw [decide_eq_false c2, Bool.false_and, Bool.and_false])
    · rw [if_neg (show ¬ nI (yB b k) = nI 1 from fun q => c1 ((nI_eq (by omega) (by decide)).mp q))]
      exact nx (by unfold lkY; rw [decide_eq_false c1, Bool.false_and])
theorem q_lk_84 {s : px_TK} {σ0 : px_S} (hm : m ≤ h.length) (hF : 65536 < F) (hfs : RF σ fs) (h3 : ∀ k, isB (gA σ 3 k)) (hb : BK fs s) (hd : RDr σ s.2.1.1) (h14 : gI σ 14 = nI s.2.2.1.length) (h17 : ∀ i q, s.2.2.1[i]? = some q → gA σ 17 i = nI q) (hr : RL σ xs) (hok : okL xs) (hc : RC σ) (h13 : gI σ 13 = nI 0) (hnm : nmI fs s.2.2.1 xs) : ∀ (c t g : Nat), t + c = s.2.2.1.length → c + 1 < g → ∃ σ', f_M_look2_84 F g m (nI t) (mh m h σ) = some ((), mh m h σ') ∧ ((ex1 (lkT fs s xs) t c || (dfI wST xs).isNone) = false → σ' = σ) ∧ ((ex1 (lkT fs s xs) t c || (dfI wST xs).isNone) = true → LK σ σ') := by
  have hT : s.2.2.1.length ≤ 64 := nodup_le 0 64 _ hb.2.2.2.2.2.1 (fun x hx => by have := (hb.2.2.2.2.2.2 x hx).1; omega)
  intro c
  induction c with
  | zero =>
    intro t g htc hg
    obtain ⟨g, rfl⟩ : ∃ x, g = x + 1 := ⟨g - 1, by omega⟩
    unfold f_M_look2_84 f_M_look2_203 f_M_look2_217
    rw [Mg14 hm, bs, h14, if_pos (nI_le (by omega) (by omega)), Mg13 hm, bs, h13, if_pos (show nI 0 = 0 from rfl), e_o hm, bs, q_start hm (by omega) hr hok hc, xb_mk]
    show ∃ σ', _ ∧ ((false || (dfI wST xs).isNone) = false → σ' = σ) ∧ ((false || (dfI wST xs).isNone) = true → LK σ σ')
    rw [Bool.false_or]
    cases ed : dfI wST xs with
    | some i =>
      have hi : i < 2 ^ 31 := by
        unfold dfI at ed
        split at ed
        · cases ed
        · rename_i ei
          split at ed
          · cases ed
          · have := idx_lt ei
            rw [List.length_map] at this
            have h2 := hr.1.2.1
            rw [List.length_map] at h2
            have := Option.some.inj ed
            omega
      rw [if_neg (show ¬ tdA (some i) < 0 from nI_pos hi)]
      exact ⟨σ, rfl, fun _ => rfl, fun q => nomatch q⟩
    | none =>
      rw [if_pos (show tdA none < 0 from m1_neg), Mp13 hm, bs]
      obtain ⟨σ1, hσ1⟩ : ∃ x, x = sI σ 13 (nI 2) := ⟨_, rfl⟩
      have f1 : FR [13] [] [] [] σ σ1 := by rw [hσ1]; exact FR_I σ 13 _
      have e13 : gI σ1 13 = nI 2 := by rw [hσ1, gI_sI, if_pos rfl]
      rw [← hσ1]
      have lp : ∀ (c k g : Nat) (σ2 : px_S), k + c = 6 → c < g → FR [13] [] [3] [] σ σ2 → gI σ2 13 = nI 2 → (∀ k, isB (gA σ2 3 k)) → ∃ σ', f_M_look2_225 F g m (nI k) (mh m h σ2) = some ((), mh m h σ') ∧ LK σ σ' := by
        intro c
        induction c with
        | zero =>
          intro k g σ2 hk hg a1 a2 a3
          obtain ⟨g, rfl⟩ : ∃ x, g = x + 1 := ⟨g - 1, by omega⟩
          unfold f_M_look2_225 f_M_look2_249
          rw [if_pos (nI_le (by omega) (by omega)), Mp4 hm, bs]
          refine ⟨_, rfl, ?_, FR_trans (FR_mono a1 (by decide) (by decide) (by decide) (by decide)) (FR_mono (FR_I σ2 4 _) (by decide) (by decide) (by decide) (by decide)), a3, 6, by decide, ?_⟩
          · rw [gI_sI, if_neg (by decide)]; exact a2
          · rw [gI_sI, if_pos rfl]
        | succ c ih =>
          intro k g σ2 hk hg a1 a2 a3
          obtain ⟨g, rfl⟩ : ∃ x, g = x + 1 := ⟨g - 1, by omega⟩
          unfold f_M_look2_225
          rw [if_neg (nI_ge (by omega) (by omega)), Mr3 hm, bs, Mr116 hm, bs, Ma116 hm (by omega), bs, Ms3 hm (by omega), bs, nI_add]
          refine ih (k + 1) g _ (by omega) (by omega) (FR_trans a1 (FR_mono (FR_A σ2 3 _) (by decide) (by decide) (by decide) (by decide))) a2 (fun q => ?_)
          show isB (upd (gA σ2 3) k _ q)
          by_cases cq : q = k
          · rw [cq, upd_eq]; exact isB_8 _
          · rw [upd_ne cq]; exact a3 q
      obtain ⟨σ', l1, l2⟩ := lp 6 0 F σ1 (by omega) (by omega) (FR_mono f1 (by decide) (by decide) (by decide) (by decide)) e13 (by rw [f1.2.2.1 3 (by decide)]; exact h3)
      exact ⟨σ', l1, fun q => (nomatch q), fun _ => l2⟩
  | succ c ih =>
    intro t g htc hg
    obtain ⟨g, rfl⟩ : ∃ x, g = x + 2 := ⟨g - 2, by omega⟩
    obtain ⟨q, hq⟩ : ∃ q, s.2.2.1[t]? = some q := ⟨s.2.2.1[t]'(by omega), List.getElem?_eq_getElem (by omega)⟩
    obtain ⟨hq64, o, n, b, hob⟩ := hb.2.2.2.2.2.2 q (List.mem_of_getElem? hq)
    obtain ⟨o1, o2, o3, o4, o5, o6, o7⟩ := RF_ob hfs hob
    obtain ⟨w, hy, hg'⟩ := eObj_0 (o7 rfl)
    have hta : RTa σ t o := ⟨by omega, q, hq64, h17 t q hq, o2⟩
    have hM := w2_M w
    obtain ⟨σ1, a1, a2⟩ := q_lk_107 (F := F) (g0 := g) (o := o) (n := n) (t := t) (dr := s.2.1.1) hm hF hfs.2.2.1 h3 o5 w o6 hy hta hd hr hok h13 (fun k h1 h2 h3 => hnm t q o n b hq hob k h1 h2 h3) (oM b - 1) 1 F (by omega) rfl (by decide) (by omega)
    have e1 : lkT fs s xs t = ex1 (lkY s.2.1.1 xs t b) 1 (oM b - 1) := by
      unfold lkT
      rw [hq]
      show (match obAt fs q with
        | none => false
        | some y => ex1 (lkY s.2.1.1 xs t y.2.2.1) 1 (oM y.2.2.1 - 1)) = _
      rw [hob]
    unfold f_M_look2_84
    rw [Mg14 hm, bs, h14, if_neg (nI_ge (by omega) (by omega)), Mg13 hm, bs, h13, if_pos (show nI 0 = 0 from rfl), e_o hm, bs, q_object hm hta, xb_mk, a1, ex1_s, e1]
    generalize ex1 (lkY s.2.1.1 xs t b) 1 (oM b - 1) = E at *
    cases E with
    | true =>
      rw [if_pos rfl]
      exact ⟨σ1, rfl, fun q => (nomatch q), fun _ => a2 rfl⟩
    | false =>
      rw [if_neg (by decide), Bool.false_or]
      exact ih (t + 1) (g + 1) (by omega) (by omega)
theorem q_look2 {s : px_TK} {σ0 : px_S} {ws : List (List Nat)} (hm : m ≤ h.length) (hF : 65536 < F) (hfs : RF σ fs) (h3 : ∀ k, isB (gA σ 3 k)) (hb : BK fs s) (hd : RDr σ s.2.1.1) (h14 : gI σ 14 = nI s.2.2.1.length) (h17 : ∀ i q, s.2.2.1[i]? = some q → gA σ 17 i = nI q) (hr : RL σ xs) (hok : okL xs) (hc : RC σ) (h13 : gI σ 13 = nI 0) (hnm : nmI fs s.2.2.1 xs) (hw : RW σ ws) (hwn : ∀ w, w ∈ ws → (idx w 0 (xs.map Prod.fst)).isSome = true) : ∃ σ', f_M_look2 F m (mh m h σ) = some ((), mh m h σ') ∧ (lkA fs ws s xs = false → σ' = σ) ∧ (lkA fs ws s xs = true → LK σ σ') := by
  have hT : s.2.2.1.length ≤ 64 := nodup_le 0 64 _ hb.2.2.2.2.2.1 (fun x hx => by have := (hb.2.2.2.2.2.2 x hx).1; omega)
  have hxl : xs.length ≤ 4096 := by have := hr.1.2.1; rw [List.length_map] at this; exact this
  have hwl := hw.2.1
  have lp : ∀ (c k g : Nat), k + c = ws.length → c + 1 < g → ∃ σ', f_M_look2_2 F g m (nI k) (mh m h σ) = some ((), mh m h σ') ∧ ((ex1 (lkW ws xs) k c || (ex1 (lkT fs s xs) 0 s.2.2.1.length || (dfI wST xs).isNone)) = false → σ' = σ) ∧ ((ex1 (lkW ws xs) k c || (ex1 (lkT fs s xs) 0 s.2.2.1.length || (dfI wST xs).isNone)) = true → LK σ σ') := by
    intro c
    induction c with
    | zero =>
      intro k g hk hg
      obtain ⟨g, rfl⟩ : ∃ x, g = x + 1 := ⟨g - 1, by omega⟩
      unfold f_M_look2_2 f_M_look2_82
      rw [Mg32 hm, bs, hw.1, if_pos (nI_le (by omega) (by omega))]
      show ∃ σ', _ ∧ ((false || _) = false → σ' = σ) ∧ ((false || _) = true → LK σ σ')
      rw [Bool.false_or]
      exact q_lk_84 (σ0 := σ0) hm hF hfs h3 hb hd h14 h17 hr hok hc h13 hnm s.2.2.1.length 0 F (by omega) (by omega)
    | succ c ih =>
      intro k g hk hg
      obtain ⟨g, rfl⟩ : ∃ x, g = x + 2 := ⟨g - 2, by omega⟩
      obtain ⟨w, hwk⟩ : ∃ w, ws[k]? = some w := ⟨ws[k]'(by omega), List.getElem?_eq_getElem (by omega)⟩
      obtain ⟨okw, e1, e2⟩ := hw.2.2 k w hwk
      have okl := okw.1
      have hf := q_find (F := F) (h := h) (σ := σ) (pa := m + 24) (p := 20 * k) (w := w) (M := 320) hm (by omega) hr.1 (fun i hi => Ma34 hm hi) e2 okw.2 (by omega) (by decide)
      obtain ⟨i, ei⟩ := Option.isSome_iff_exists.mp (hwn w (List.mem_of_getElem? hwk))
      have hi := idx_lt ei
      rw [List.length_map] at hi
      obtain ⟨x, hx⟩ : ∃ x, xs[i]? = some x := ⟨xs[i]'(by omega), List.getElem?_eq_getElem (by omega)⟩
      have hx4 := (hok i x hx).1
      rw [ei] at hf
      have el : lkW ws xs k = decide (x.2.1 = 0) := by
        unfold lkW plc
        rw [List.getD_eq_getElem?_getD, hwk]
        show decide (stN xs ((idx w 0 (xs.map Prod.fst)).getD _) = 0) = _
        rw [ei]
        show decide (stN xs i = 0) = _
        rw [stN_at hx]
      unfold f_M_look2_2 f_M_look2_76
      rw [Mg32 hm, bs, hw.1, if_neg (nI_ge (by omega) (by omega)), Mg13 hm, bs, h13, if_pos (show nI 0 = 0 from rfl), Mr34 hm, bs, Mr36 hm, bs, Ma36 hm (by omega), bs, e1, e_o hm, bs, pk_mul, nI_add, hf, xb_mk, show tdA (some i) = nI i from rfl, Mr23 hm, bs, Ma23 hm (by omega), bs, (hr.2 i x hx).1, nI_add, ex1_s, el]
      by_cases c3 : x.2.1 = 0
      · obtain ⟨σ', b1, b2⟩ := q_blame (F := F) hm (by omega) hr hx h3
        rw [if_pos (by rw [c3]; decide), b1, decide_eq_true c3]
        exact ⟨σ', q_lk_2n hm (by omega) b2.1, fun q => (nomatch q), fun _ => b2⟩
      · rw [if_neg (show ¬ nI x.2.1 ≤ 0 from nI_ge (a := 0) (by omega) (by omega)), decide_eq_false c3, Bool.false_or]
        exact ih (k + 1) (g + 1) (by omega) (by omega)
  unfold lkA f_M_look2
  exact lp ws.length 0 F (by omega) (by omega)
end MLK
