/-! takeFrom, takeAll of the reference -/
abbrev tkI : List Nat := [4, 13, 14, 20, 48, 69, 70]
abbrev tkA : List Nat := [3, 17, 18, 21, 22, 23, 24, 25, 26, 27, 28, 40, 49, 65, 71, 72, 73]
def RK (σ0 σ : px_S) (s : px_TK) : Prop := gI σ 13 = nI s.1.1 ∧ RL σ s.1.2.1 ∧ RO σ s.1.2.2.1 ∧ OU σ0 σ s.1.2.2.2 ∧ RDr σ s.2.1.1 ∧ gI σ 69 = nI s.2.1.2.1 ∧ RSg σ s.2.1.2.2 ∧ gI σ 14 = nI s.2.2.1.length ∧ (∀ i q, s.2.2.1[i]? = some q → gA σ 17 i = nI q) ∧ (∀ q, q < 64 → gA σ 18 q = bI (decide (q ∈ s.2.2.1))) ∧ ∀ q, q < 64 → gA σ 40 q = tdA (s.2.2.2 q)
theorem frY_FR {σ σ' : px_S} (h : frY σ σ') : FR tkI [] tkA [30] σ σ' := by
  refine ⟨fun k hk => ?_, fun k _ => h.2.1 k, fun k hk => ?_, fun k hk => ?_⟩
  · simp only [tkI, List.mem_cons, List.not_mem_nil, not_or, or_false] at hk
    exact h.1 k (by omega) (by omega) (by omega) (by omega) (by omega) (by omega) (by omega)
  · simp only [tkA, List.mem_cons, List.not_mem_nil, not_or, or_false] at hk
    exact h.2.2.1 k (by omega) (by omega) (by omega) (by omega) (by omega) (by omega) (by omega) (by omega) (by omega)
  · simp only [List.mem_cons, List.not_mem_nil, or_false] at hk
    exact h.2.2.2 k hk
theorem OU_3 {σ0 σ : px_S} {bl : Option (List Nat)} (h : OU σ0 σ bl) (h0 : ∀ k, isB (gA σ0 3 k)) : ∀ k, isB (gA σ 3 k) := by
  cases bl with
  | none => rw [(h.1 rfl).2]; exact h0
  | some w => exact (h.2 w rfl).2.2.1
section MTF
variable {F m q o n f : Nat} {h : px_H} {b : Nat → Nat} {σ0 : px_S} {fs : px_FS}
theorem q_takeK {σ : px_S} {s : px_TK} (hm : m ≤ h.length) (hF : 65536 < F) (hr : RF σ fs) (hB0 : ∀ k, isB (gA σ0 3 k)) (hk : RK σ0 σ s) (hb : BK fs s) (hq : obAt fs q = some (o, n, b, false)) (hnt : q ∉ s.2.2.1) : ∃ σ', f_M_take F m (nI q) (mh m h σ) = some ((), mh m h σ') ∧ RK σ0 σ' (tkM b q s) ∧ BK fs (tkM b q s) ∧ FR tkI [] tkA [30] σ σ' := by
  obtain ⟨r1, r2, r3, r4, r5, r6, r7⟩ := RF_ob hr hq
  obtain ⟨k1, k2, k3, k4, k5, k6, k7, k8, k9, k10, k11⟩ := hk
  have hb0 := hb
  obtain ⟨b1, b2, b3, b4, b5, b6, b7⟩ := hb
  have he := r7 rfl
  obtain ⟨w, y, g⟩ := eObj_0 he
  have hT : s.2.2.1.length < 64 := by
    have hnd : (q :: s.2.2.1).Nodup := List.nodup_cons.mpr ⟨hnt, b6⟩
    have := nodup_le 0 64 (q :: s.2.2.1) hnd (fun x hx => by
      rcases List.mem_cons.mp hx with e | e
      · omega
      · have := (b7 x e).1; omega)
    rw [List.length_cons] at this
    omega
  obtain ⟨σ', t1, t2, t3, t4, t5, t6, t7, t8, t9, t10, t11, t12, t13⟩ := q_take (F := F) (o := o) (n := n) (q := q) (T := s.2.2.1.length) (dm := s.2.1.2.1) (an := s.1.1) (dr := s.2.1.1) (b := b) (σ0 := σ0) (sg := s.2.1.2.2) (xs := s.1.2.1) (od := s.1.2.2.1) (bl := s.1.2.2.2) hm hF he r6 hr.2.2.1 (OU_3 k4 hB0) r5 hT k8 r1 r2 k5 k6 k7 (by omega) k1 b1 k2 b2 (by omega) k3 (by omega) k4 (itr (dg1 s.2.2.1.length b) 1 (oS b - 1) s.2.1) rfl (itr (tk1 (itr (dg1 s.2.2.1.length b) 1 (oS b - 1) s.2.1).1 s.2.2.1.length b) 1 (oM b - 1) s.1) rfl
  have hbk := BK_tk hb0 hq r1 hnt (by have := w.1.2.1.2; omega) (by have := w2_M w; omega) y
  refine ⟨σ', t1, ⟨t8, t9, t11, t12, t5, t6, t7, ?_, ?_, ?_, ?_⟩, hbk, frY_FR t13⟩
  · rw [t2]
    show _ = nI (s.2.2.1 ++ [q]).length
    rw [List.length_append]; rfl
  · intro i x hx
    have hx : (s.2.2.1 ++ [q])[i]? = some x := hx
    rw [t3]
    by_cases c : i < s.2.2.1.length
    · rw [List.getElem?_append_left c] at hx
      rw [upd_ne (by omega)]
      exact k9 i x hx
    · have hl := (List.getElem?_eq_some_iff.mp hx).1
      rw [List.length_append] at hl
      have hl : i < s.2.2.1.length + 1 := hl
      have e : i = s.2.2.1.length := by omega
      rw [e, List.getElem?_append_right (Nat.le_refl _), Nat.sub_self] at hx
      have hx : q = x := Option.some.inj hx
      rw [e, upd_eq, hx]
  · intro x hx
    rw [t4]
    by_cases c : x = q
    · rw [c, upd_eq]
      show nI 1 = bI (decide (q ∈ s.2.2.1 ++ [q]))
      rw [decide_eq_true (List.mem_append_right _ (List.mem_singleton.mpr rfl))]
      rfl
    · rw [upd_ne c, k10 x hx]
      show _ = bI (decide (x ∈ s.2.2.1 ++ [q]))
      have : (x ∈ s.2.2.1 ++ [q]) ↔ (x ∈ s.2.2.1) := by
        rw [List.mem_append]
        exact ⟨fun hh => hh.elim id (fun hh => absurd (List.mem_singleton.mp hh) c), Or.inl⟩
      rw [decide_eq_decide.mpr this]
  · intro x hx
    rw [t13.2.2.1 40 (by omega) (by decide) (by decide) (by decide) (by decide) (by decide) (by decide) (by decide) (by decide)]
    exact k11 x hx
/-- one member of file f; whether one was taken -/
def tf1 (fs : px_FS) (f k : Nat) (p : px_TK × Bool) : px_TK × Bool := if p.1.1.1 = 1 then p else match obAt fs (8 * f + k) with
  | none => p
  | some y => if y.2.2.2 = true ∨ 8 * f + k ∈ p.1.2.2.1 then p else match hpf (hp1 y.2.2.1 p.1.1.2.1) 1 (oM y.2.2.1 - 1) with
    | none => p
    | some i => (tkM y.2.2.1 (8 * f + k) (p.1.1, p.1.2.1, p.1.2.2.1, fun x => if x = 8 * f + k then some i else p.1.2.2.2 x), true)
theorem itr_id {α : Type} {g : Nat → α → α} {s : α} (h : ∀ i, g i s = s) : ∀ (c i : Nat), itr g i c s = s := by
  intro c
  induction c with
  | zero => intro i; rfl
  | succ c ih => intro i; rw [itr_s, h i, ih]
theorem tf1_1 {k : Nat} {p : px_TK × Bool} (h : p.1.1.1 = 1) : tf1 fs f k p = p := by unfold tf1; rw [if_pos h]
theorem obAt_none {σ : px_S} (hr : RF σ fs) {l : List (Nat × Nat × Bool)} {x : Nat × (Nat → Nat)} (hx : fs[f]? = some x) (hl : fMem x.2 x.1 = some l) {k : Nat} (hk : k < 8) : obAt fs (8 * f + k) = (l[k]?).map (fun y => (8192 * f + y.1, y.2.1, sub x.2 y.1 y.2.1, y.2.2)) := by
  unfold obAt
  rw [show (8 * f + k) / 8 = f by omega, show (8 * f + k) % 8 = k by omega, hx]
  show (match fMem x.2 x.1 with
    | none => none
    | some l => match l[k]? with
      | none => none
      | some y => some (8192 * f + y.1, y.2.1, sub x.2 y.1 y.2.1, y.2.2)) = _
  rw [hl]
  show (match l[k]? with
      | none => none
      | some y => some (8192 * f + y.1, y.2.1, sub x.2 y.1 y.2.1, y.2.2)) = _
  cases l[k]? <;> rfl
end MTF
theorem itr_idr {α : Type} {g : Nat → α → α} {s : α} : ∀ (c i : Nat), (∀ j, i ≤ j → j < i + c → g j s = s) → itr g i c s = s := by
  intro c
  induction c with
  | zero => intro i _; rfl
  | succ c ih => intro i h; rw [itr_s, h i (Nat.le_refl _) (by omega), ih (i + 1) (fun j h1 h2 => h j (by omega) (by omega))]
theorem RL_FR {σ σ' : px_S} {I J A B : List Nat} {xs : px_NL} (h : RL σ xs) (f : FR I J A B σ σ') (h20 : 20 ∉ I) (hA : ∀ k, k ∈ [21, 22, 23, 24, 25, 26, 27, 28, 73] → k ∉ A) (hB : 30 ∉ B) : RL σ' xs :=
  ⟨RNm_eq h.1 (f.1 20 h20) (f.2.2.1 21 (hA 21 (by decide))) (f.2.2.1 22 (hA 22 (by decide))), fun i x hx => rrec_eq (h.2 i x hx) (fun k hk => by rw [f.2.2.1 k (hA k (by rcases hk with e | e | e | e | e | e | e <;> rw [e] <;> decide))]) (by rw [f.2.2.2 30 hB])⟩
theorem RO_FR {σ σ' : px_S} {I J A B : List Nat} {od : List Nat} (h : RO σ od) (f : FR I J A B σ σ') (h48 : 48 ∉ I) (h49 : 49 ∉ A) : RO σ' od :=
  ⟨(f.1 48 h48).trans h.1, h.2.1, fun i d hd => by rw [f.2.2.1 49 h49]; exact h.2.2 i d hd⟩
theorem OU_FR {σ0 σ σ' : px_S} {I J A B : List Nat} {bl : Option (List Nat)} (h : OU σ0 σ bl) (f : FR I J A B σ σ') (h4 : 4 ∉ I) (h3 : 3 ∉ A) : OU σ0 σ' bl := by
  have e4 := f.1 4 h4
  have e3 := f.2.2.1 3 h3
  unfold OU ROu at h ⊢
  rw [e4, e3]; exact h
theorem RK_FR {σ0 σ σ' : px_S} {I J A B : List Nat} {s : px_TK} {ca : Nat → Option Nat} (h : RK σ0 σ s) (f : FR I J A B σ σ') (hI : ∀ k, k ∈ [4, 13, 14, 20, 48, 69, 70] → k ∉ I) (hA : ∀ k, k ∈ [3, 6, 17, 18, 21, 22, 23, 24, 25, 26, 27, 28, 49, 65, 71, 72, 73] → k ∉ A) (hB : 30 ∉ B) (hc : ∀ q, q < 64 → gA σ' 40 q = tdA (ca q)) : RK σ0 σ' (s.1, s.2.1, s.2.2.1, ca) := by
  obtain ⟨k1, k2, k3, k4, k5, k6, k7, k8, k9, k10, k11⟩ := h
  refine ⟨(f.1 13 (hI 13 (by decide))).trans k1, RL_FR k2 f (hI 20 (by decide)) (fun k hk => hA k (by revert k; decide)) hB, RO_FR k3 f (hI 48 (by decide)) (hA 49 (by decide)), OU_FR k4 f (hI 4 (by decide)) (hA 3 (by decide)), ?_, (f.1 69 (hI 69 (by decide))).trans k6, RSg_eq k7 (f.1 70 (hI 70 (by decide))) (f.2.2.1 71 (hA 71 (by decide))) (f.2.2.1 72 (hA 72 (by decide))) (f.2.2.1 6 (hA 6 (by decide))), (f.1 14 (hI 14 (by decide))).trans k8, ?_, ?_, hc⟩
  · intro i hi
    rw [f.2.2.1 65 (hA 65 (by decide))]; exact k5 i hi
  · intro i q hq
    rw [f.2.2.1 17 (hA 17 (by decide))]; exact k9 i q hq
  · intro q hq
    rw [f.2.2.1 18 (hA 18 (by decide))]; exact k10 q hq
theorem hp1_lt {b : Nat → Nat} {xs : px_NL} {k i : Nat} (h : hp1 b xs k = some i) : i < xs.length := by
  unfold hp1 at h
  split at h
  · cases h
  · split at h
    · cases h
    · split at h
      · cases h
      · rename_i e
        split at h
        · have := Option.some.inj h
          rw [← this]
          exact (List.getElem?_eq_some_iff.mp e).1
        · cases h
theorem hpf_lt {b : Nat → Nat} {xs : px_NL} {i : Nat} : ∀ {c k : Nat}, hpf (hp1 b xs) k c = some i → i < xs.length := by
  intro c
  induction c with
  | zero => intro k h; exact nomatch h
  | succ c ih =>
    intro k h
    unfold hpf at h
    cases e : hp1 b xs k with
    | none => rw [e] at h; exact ih (by cases c <;> exact h)
    | some j =>
      rw [e] at h
      have h : some j = some i := h
      rw [← Option.some.inj h]
      exact hp1_lt e
theorem nI_0le {i : Nat} (h : i < 2 ^ 31) : (0 : Int32) ≤ nI i := nI_le (a := 0) (Nat.zero_le _) h
section MTG
variable {F m f : Nat} {h : px_H} {σ0 : px_S} {fs : px_FS} {k2 : Nat → Int32 → Int32 → px_H → Option (Unit × px_H)}
theorem RF_row {σ : px_S} {x : Nat × (Nat → Nat)} {l : List (Nat × Nat × Bool)} (hr : RF σ fs) (hx : fs[f]? = some x) (hl : fMem x.2 x.1 = some l) : gA σ 8 f = nI l.length ∧ l.length ≤ 8 ∧ f < 8 ∧ gA σ 11 f = bI (isAr x.2 x.1) := by
  obtain ⟨r1, r2, r3, r4⟩ := hr
  obtain ⟨a1, a2, a3, a4, l', a5, a6, a7⟩ := r4 f x hx
  rw [hl] at a5
  have e : l = l' := Option.some.inj a5
  subst e
  have := (fMem_le hl).1
  have hf := (List.getElem?_eq_some_iff.mp hx).1
  exact ⟨a7, by omega, by omega, a4⟩
theorem q_tF_18 (hm : m ≤ h.length) (hF : 65536 < F) (hB0 : ∀ k, isB (gA σ0 3 k)) {x : Nat × (Nat → Nat)} {l : List (Nat × Nat × Bool)} (hx : fs[f]? = some x) (hl : fMem x.2 x.1 = some l) : ∀ (c k g : Nat) (σ : px_S) (p : px_TK × Bool), k + c = 8 → c < g → RF σ fs → RK σ0 σ p.1 → BK fs p.1 → ∃ σ', f_M_takeFrom_18 F k2 g m (nI f) (bI p.2) (nI k) (mh m h σ) = k2 m (nI f) (bI (itr (tf1 fs f) k c p).2) (mh m h σ') ∧ RK σ0 σ' (itr (tf1 fs f) k c p).1 ∧ BK fs (itr (tf1 fs f) k c p).1 ∧ RF σ' fs ∧ FR tkI [] tkA [30] σ σ' := by
  intro c
  induction c with
  | zero =>
    intro k g σ p hk hg hr hR hb
    obtain ⟨g, rfl⟩ : ∃ x, g = x + 1 := ⟨g - 1, by omega⟩
    obtain ⟨r1, r2, r3, r4⟩ := RF_row hr hx hl
    refine ⟨σ, ?_, hR, hb, hr, FR_refl σ⟩
    unfold f_M_takeFrom_18 f_M_takeFrom_106
    rw [Mr8 hm, bs, Ma8 hm r3, bs, r1, if_pos (nI_le (by omega) (by omega))]
    rfl
  | succ c ih =>
    intro k g σ p hk hg hr hR hb
    obtain ⟨g, rfl⟩ : ∃ x, g = x + 1 := ⟨g - 1, by omega⟩
    obtain ⟨r1, r2, r3, r4⟩ := RF_row hr hx hl
    have hob := obAt_none (k := k) hr hx hl (by omega)
    unfold f_M_takeFrom_18 f_M_takeFrom_106
    rw [Mr8 hm, bs, Ma8 hm r3, bs, r1]
    by_cases c1 : l.length ≤ k
    · rw [if_pos (nI_le (by omega) (by omega))]
      have e : itr (tf1 fs f) k (c + 1) p = p := by
        refine itr_idr (c + 1) k (fun j h1 h2 => ?_)
        have := obAt_none (k := j) hr hx hl (by omega)
        unfold tf1
        rw [this, List.getElem?_eq_none (by omega)]
        split <;> rfl
      rw [e]
      exact ⟨σ, rfl, hR, hb, hr, FR_refl σ⟩
    · rw [if_neg (nI_ge (by omega) (by omega)), Mg13 hm, bs, hR.1]
      have han := hb.1
      by_cases c2 : p.1.1.1 = 1
      · rw [if_pos (by rw [c2])]
        have e : itr (tf1 fs f) k (c + 1) p = p := itr_id (fun i => tf1_1 c2) (c + 1) k
        rw [e]
        exact ⟨σ, rfl, hR, hb, hr, FR_refl σ⟩
      · rw [if_neg (fun q => c2 ((nI_eq (by omega) (by decide)).mp q))]
        obtain ⟨y, hy⟩ : ∃ y, l[k]? = some y := ⟨l[k]'(by omega), List.getElem?_eq_getElem (by omega)⟩
        rw [hy] at hob
        have hob : obAt fs (8 * f + k) = some (8192 * f + y.1, y.2.1, sub x.2 y.1 y.2.1, y.2.2) := hob
        obtain ⟨o1, o2, o3, o4, o5, o6, o7⟩ := RF_ob hr hob
        have hst : tf1 fs f k p = if y.2.2 = true ∨ 8 * f + k ∈ p.1.2.2.1 then p else match hpf (hp1 (sub x.2 y.1 y.2.1) p.1.1.2.1) 1 (oM (sub x.2 y.1 y.2.1) - 1) with
            | none => p
            | some i => (tkM (sub x.2 y.1 y.2.1) (8 * f + k) (p.1.1, p.1.2.1, p.1.2.2.1, fun x => if x = 8 * f + k then some i else p.1.2.2.2 x), true) := by
          unfold tf1
          rw [if_neg c2, hob]
        generalize hB : sub x.2 y.1 y.2.1 = B at *
        have step : ∀ σ1 p1, FR tkI [] tkA [30] σ σ1 → RK σ0 σ1 p1.1 → BK fs p1.1 → tf1 fs f k p = p1 → ∃ σ', f_M_takeFrom_18 F k2 g m (nI f) (bI p1.2) (nI (k + 1)) (mh m h σ1) = k2 m (nI f) (bI (itr (tf1 fs f) k (c + 1) p).2) (mh m h σ') ∧ RK σ0 σ' (itr (tf1 fs f) k (c + 1) p).1 ∧ BK fs (itr (tf1 fs f) k (c + 1) p).1 ∧ RF σ' fs ∧ FR tkI [] tkA [30] σ σ' := by
          intro σ1 p1 a1 a2 a3 a4
          obtain ⟨σ', j1, j2, j3, j4, j5⟩ := ih (k + 1) g σ1 p1 (by omega) (by omega) (RF_FR hr a1 (by decide) (by decide)) a2 a3
          rw [itr_s, a4]
          exact ⟨σ', j1, j2, j3, j4, FR_trans a1 j5⟩
        unfold f_M_takeFrom_100
        rw [pk_mul, nI_add, Mr12 hm, bs, Ma12 hm o1, bs, o4, nI_add]
        cases es : y.2.2 with
        | true =>
          rw [if_neg (show ¬ bI true = 0 by decide)]
          exact step σ p (FR_refl σ) hR hb (by rw [hst, es, if_pos (Or.inl rfl)])
        | false =>
          rw [es] at hst o7 hob
          rw [if_pos (show bI false = 0 from rfl), Mr18 hm, bs, Ma18 hm o1, bs, hR.2.2.2.2.2.2.2.2.2.1 _ o1]
          by_cases c3 : 8 * f + k ∈ p.1.2.2.1
          · rw [decide_eq_true c3, if_neg (show ¬ bI true = 0 by decide)]
            exact step σ p (FR_refl σ) hR hb (by rw [hst, if_pos (Or.inr c3)])
          · rw [decide_eq_false c3, if_pos (show bI false = 0 from rfl), e_o hm, bs, q_helps hm hF (o7 rfl) o6 hr.2.2.1 o5 o1 o2 hR.2.1 hb.2.1, xb_mk]
            rw [if_neg (fun q => q.elim (fun q => nomatch q) c3)] at hst
            have hxl : p.1.1.2.1.length ≤ 4096 := by have := hR.2.1.1.2.1; rw [List.length_map] at this; exact this
            cases ep : hpf (hp1 B p.1.1.2.1) 1 (oM B - 1) with
            | none =>
              rw [ep] at hst
              rw [if_neg (show ¬ (0 : Int32) ≤ tdA none by decide)]
              exact step σ p (FR_refl σ) hR hb hst
            | some i =>
              rw [ep] at hst
              have hi := hpf_lt ep
              rw [show tdA (some i) = nI i from rfl, if_pos (nI_0le (by omega)), Mr40 hm, bs, Ms40 hm o1, bs, e_o hm, bs]
              have fa : FR tkI [] tkA [30] σ (sA σ 40 (upd (gA σ 40) (8 * f + k) (nI i))) := FR_mono (FR_A σ 40 _) (by decide) (by decide) (by decide) (by decide)
              have hR1 : RK σ0 (sA σ 40 (upd (gA σ 40) (8 * f + k) (nI i))) (p.1.1, p.1.2.1, p.1.2.2.1, fun x => if x = 8 * f + k then some i else p.1.2.2.2 x) := by
                refine RK_FR hR (FR_A σ 40 _) (by decide) (by decide) (by decide) (fun q hq => ?_)
                show upd (gA σ 40) (8 * f + k) (nI i) q = tdA (if q = 8 * f + k then some i else p.1.2.2.2 q)
                by_cases cq : q = 8 * f + k
                · rw [if_pos cq, cq, upd_eq]; rfl
                · rw [if_neg cq, upd_ne cq]; exact hR.2.2.2.2.2.2.2.2.2.2 q hq
              generalize sA σ 40 (upd (gA σ 40) (8 * f + k) (nI i)) = σ1 at *
              obtain ⟨σ2, t1, t2, t3, t4⟩ := q_takeK (F := F) (σ := σ1) (s := (p.1.1, p.1.2.1, p.1.2.2.1, fun x => if x = 8 * f + k then some i else p.1.2.2.2 x)) hm hF (RF_FR hr fa (by decide) (by decide)) hB0 hR1 hb hob c3
              rw [t1, xb_mk]
              exact step σ2 _ (FR_trans fa t4) t2 t3 hst
end MTG
def whl {α : Type} (st : α → Bool) (g : α → α × Bool) : Nat → α → α
  | 0, s => s
  | c + 1, s => if st s = true then s else if (g s).2 = true then whl st g c (g s).1 else (g s).1
theorem whl_s {α : Type} {st : α → Bool} {g : α → α × Bool} {c : Nat} {s : α} : whl st g (c + 1) s = if st s = true then s else if (g s).2 = true then whl st g c (g s).1 else (g s).1 := rfl
/-- one round over the members of file f -/
def rdF (fs : px_FS) (f : Nat) (s : px_TK) : px_TK × Bool := itr (tf1 fs f) 0 8 (s, false)
def tfS (s : px_TK) : Bool := decide (s.1.1 = 1)
/-- the members that are needed of file f -/
def tfL (fs : px_FS) (f c : Nat) (s : px_TK) : px_TK := whl tfS (rdF fs f) c s
/-- how many of file f are taken -/
def nuF (f : Nat) (s : px_TK) : Nat := (s.2.2.1.filter (fun q => decide (q / 8 = f))).length
theorem nuF_8 {fs : px_FS} {f : Nat} {s : px_TK} (hb : BK fs s) : nuF f s ≤ 8 := by
  refine nodup_le (8 * f) 8 _ (List.Pairwise.filter _ hb.2.2.2.2.2.1) (fun x hx => ?_)
  have := (List.mem_filter.mp hx).2
  have : x / 8 = f := of_decide_eq_true this
  omega
theorem tf1_cs {fs : px_FS} {f k : Nat} {p : px_TK × Bool} : tf1 fs f k p = p ∨ ∃ b ca, tf1 fs f k p = (tkM b (8 * f + k) (p.1.1, p.1.2.1, p.1.2.2.1, ca), true) := by
  unfold tf1
  split
  · exact Or.inl rfl
  · split
    · exact Or.inl rfl
    · split
      · exact Or.inl rfl
      · split
        · exact Or.inl rfl
        · exact Or.inr ⟨_, _, rfl⟩
theorem tf1_nu {fs : px_FS} {f k n0 : Nat} {p : px_TK × Bool} (hk : k < 8) (h : n0 ≤ nuF f p.1 ∧ (p.2 = true → n0 + 1 ≤ nuF f p.1)) : n0 ≤ nuF f (tf1 fs f k p).1 ∧ ((tf1 fs f k p).2 = true → n0 + 1 ≤ nuF f (tf1 fs f k p).1) := by
  rcases tf1_cs (fs := fs) (f := f) (k := k) (p := p) with e | ⟨b, ca, e⟩
  · rw [e]; exact h
  · rw [e]
    have e2 : nuF f (tkM b (8 * f + k) (p.1.1, p.1.2.1, p.1.2.2.1, ca)) = nuF f p.1 + 1 := by
      show ((p.1.2.2.1 ++ [8 * f + k]).filter _).length = _
      rw [List.filter_append, List.length_append]
      congr 1
      rw [List.filter_cons, if_pos (decide_eq_true (show (8 * f + k) / 8 = f by omega))]
      rfl
    dsimp only
    rw [e2]
    exact ⟨by omega, fun _ => by omega⟩
theorem rdF_nu {fs : px_FS} {f : Nat} {s : px_TK} (h : (rdF fs f s).2 = true) : nuF f s + 1 ≤ nuF f (rdF fs f s).1 :=
  (itr_inv (P := fun p : px_TK × Bool => nuF f s ≤ nuF f p.1 ∧ (p.2 = true → nuF f s + 1 ≤ nuF f p.1)) (a := 0) (e := 8) (fun _ _ _ hk hp => tf1_nu hk hp) 8 0 (s, false) (Nat.le_refl _) (Nat.le_refl _) ⟨Nat.le_refl _, fun q => nomatch q⟩).2 h
section MTH
variable {F m f : Nat} {h : px_H} {σ0 : px_S} {fs : px_FS}
theorem q_tF_2 (hm : m ≤ h.length) (hF : 65536 < F) (hB0 : ∀ k, isB (gA σ0 3 k)) {x : Nat × (Nat → Nat)} {l : List (Nat × Nat × Bool)} (hx : fs[f]? = some x) (hl : fMem x.2 x.1 = some l) : ∀ (d c g : Nat) (σ : px_S) (s : px_TK), 8 - nuF f s ≤ d → d < c → d + 1 < g → RF σ fs → RK σ0 σ s → BK fs s → ∃ σ', f_M_takeFrom_2 F g m (nI f) (bI true) (mh m h σ) = some ((), mh m h σ') ∧ RK σ0 σ' (tfL fs f c s) ∧ BK fs (tfL fs f c s) ∧ RF σ' fs ∧ FR tkI [] tkA [30] σ σ' := by
  intro d
  induction d with
  | zero =>
    intro c g σ s hd hc hg hr hR hb
    obtain ⟨g, rfl⟩ : ∃ x, g = x + 2 := ⟨g - 2, by omega⟩
    obtain ⟨c, rfl⟩ : ∃ x, c = x + 1 := ⟨c - 1, by omega⟩
    have han := hb.1
    unfold f_M_takeFrom_2 f_M_takeFrom_109
    rw [if_neg (show ¬ bI true = 0 by decide), Mg13 hm, bs, hR.1]
    unfold tfL
    rw [whl_s]
    by_cases c1 : s.1.1 = 1
    · rw [if_pos (by rw [c1]), if_pos (show tfS s = true from decide_eq_true c1)]
      exact ⟨σ, rfl, hR, hb, hr, FR_refl σ⟩
    · rw [if_neg (fun q => c1 ((nI_eq (by omega) (by decide)).mp q)), if_neg (show ¬ tfS s = true from fun q => c1 (of_decide_eq_true q))]
      obtain ⟨σ1, i1, i2, i3, i4, i5⟩ := q_tF_18 (F := F) (k2 := f_M_takeFrom_2 F (g + 1)) (σ0 := σ0) hm hF hB0 hx hl 8 0 F σ (s, false) (by omega) (by omega) hr hR hb
      rw [show itr (tf1 fs f) 0 8 (s, false) = rdF fs f s from rfl] at i1 i2 i3
      rw [show nI 0 = bI false from rfl]
      rw [show nI 0 = bI false from rfl] at i1
      rw [i1]
      have h8 := nuF_8 (f := f) hb
      have h8' := nuF_8 (f := f) i3
      cases e2 : (rdF fs f s).2 with
      | true =>
        have := rdF_nu e2
        omega
      | false =>
        rw [if_neg (by decide)]
        refine ⟨σ1, ?_, i2, i3, i4, i5⟩
        unfold f_M_takeFrom_2 f_M_takeFrom_109
        rw [if_pos (show bI false = 0 from rfl)]
  | succ d ih =>
    intro c g σ s hd hc hg hr hR hb
    obtain ⟨g, rfl⟩ : ∃ x, g = x + 2 := ⟨g - 2, by omega⟩
    obtain ⟨c, rfl⟩ : ∃ x, c = x + 1 := ⟨c - 1, by omega⟩
    have han := hb.1
    unfold f_M_takeFrom_2 f_M_takeFrom_109
    rw [if_neg (show ¬ bI true = 0 by decide), Mg13 hm, bs, hR.1]
    unfold tfL
    rw [whl_s]
    by_cases c1 : s.1.1 = 1
    · rw [if_pos (by rw [c1]), if_pos (show tfS s = true from decide_eq_true c1)]
      exact ⟨σ, rfl, hR, hb, hr, FR_refl σ⟩
    · rw [if_neg (fun q => c1 ((nI_eq (by omega) (by decide)).mp q)), if_neg (show ¬ tfS s = true from fun q => c1 (of_decide_eq_true q))]
      obtain ⟨σ1, i1, i2, i3, i4, i5⟩ := q_tF_18 (F := F) (k2 := f_M_takeFrom_2 F (g + 1)) (σ0 := σ0) hm hF hB0 hx hl 8 0 F σ (s, false) (by omega) (by omega) hr hR hb
      rw [show itr (tf1 fs f) 0 8 (s, false) = rdF fs f s from rfl] at i1 i2 i3
      rw [show nI 0 = bI false from rfl]
      rw [show nI 0 = bI false from rfl] at i1
      rw [i1]
      have h8 := nuF_8 (f := f) hb
      have h8' := nuF_8 (f := f) i3
      cases e2 : (rdF fs f s).2 with
      | true =>
        have := rdF_nu e2
        rw [if_pos rfl]
        obtain ⟨σ2, j1, j2, j3, j4, j5⟩ := ih c (g + 1) σ1 (rdF fs f s).1 (by omega) (by omega) (by omega) i4 i2 i3
        exact ⟨σ2, j1, j2, j3, j4, FR_trans i5 j5⟩
      | false =>
        rw [if_neg (by decide)]
        refine ⟨σ1, ?_, i2, i3, i4, i5⟩
        unfold f_M_takeFrom_2 f_M_takeFrom_109
        rw [if_pos (show bI false = 0 from rfl)]
theorem q_takeFrom {σ : px_S} {s : px_TK} (hm : m ≤ h.length) (hF : 65536 < F) (hB0 : ∀ k, isB (gA σ0 3 k)) {x : Nat × (Nat → Nat)} {l : List (Nat × Nat × Bool)} (hx : fs[f]? = some x) (hl : fMem x.2 x.1 = some l) (hr : RF σ fs) (hR : RK σ0 σ s) (hb : BK fs s) : ∃ σ', f_M_takeFrom F m (nI f) (mh m h σ) = some ((), mh m h σ') ∧ RK σ0 σ' (tfL fs f 9 s) ∧ BK fs (tfL fs f 9 s) ∧ RF σ' fs ∧ FR tkI [] tkA [30] σ σ' :=
  q_tF_2 hm hF hB0 hx hl 8 9 F σ s (by omega) (by omega) (by omega) hr hR hb
end MTH
