/-! the reference's safety, step by step; its small calls (steps spelled out by sf/pp.py) -/
def Sm (m : Nat) (h : px_H) (I : px_S → Prop) {α : Type} (V : α → Prop) (o : Option (α × px_H)) : Prop := ∃ v σ, o = some (v, mh m h σ) ∧ V v ∧ I σ
/-- the field whose array stands in the c-th cell -/
def mrc (c : Nat) : Option Nat := mA[c - 1]?
section MSF
variable {m : Nat} {h : px_H} {I I1 : px_S → Prop} {α β : Type} {V : α → Prop} {W : β → Prop} {σ : px_S}
theorem sm_r {v : α} (hv : V v) (hI : I σ) : Sm m h I V (some (v, mh m h σ)) := ⟨v, σ, rfl, hv, hI⟩
theorem sm_z {V : Int32 → Prop} {v : Int32} (hz : isZ v) (hv : V v) (hI : I σ) : Sm m h I V (xz v (mh m h σ)) := by
  obtain ⟨b, rfl⟩ := hz
  exact ⟨bI b, σ, xz_b b _, hv, hI⟩
theorem sm_i {p : Prop} [Decidable p] {x y : Option (α × px_H)} (h1 : p → Sm m h I V x) (h2 : ¬ p → Sm m h I V y) : Sm m h I V (if p then x else y) := by
  by_cases c : p
  · rw [if_pos c]; exact h1 c
  · rw [if_neg c]; exact h2 c
theorem sm_x {o : Option (β × px_H)} {f : β → px_H → Option (α × px_H)} (w : Sm m h I1 W o) (g : ∀ v σ, W v → I1 σ → Sm m h I V (f v (mh m h σ))) : Sm m h I V (xb o f) := by
  obtain ⟨v, σ, e, hw, hI⟩ := w
  rw [e, xb_mk]
  exact g v σ hw hI
theorem sm_o {f : List Value → Option (α × px_H)} (hm : m ≤ h.length) (g : ∀ l, Sm m h I V (f l)) : Sm m h I V ((xo (mh m h σ) 12 m).bind f) := by
  rw [e_o hm, bs]; exact g _
theorem sm_gI {f : Int32 → Option (α × px_H)} {k : Nat} (hm : m ≤ h.length) (hk : (mr k).1 = 0) (g : Sm m h I V (f (gI σ k))) : Sm m h I V ((xgI (mh m h σ) 12 k m).bind f) := by
  rw [e_gI hm hk, bs]; exact g
theorem sm_gJ {f : Int64 → Option (α × px_H)} {k : Nat} (hm : m ≤ h.length) (hk : (mr k).1 = 1) (g : Sm m h I V (f (gJ σ k))) : Sm m h I V ((xgJ (mh m h σ) 12 k m).bind f) := by
  rw [e_gJ hm hk, bs]; exact g
/-- what a field that is an array holds: the cell's number -/
def mrr (k : Nat) : Option Nat := if (mr k).1 = 2 ∨ (mr k).1 = 3 then some (mr k).2.1 else none
theorem sm_gR {f : Nat → Option (α × px_H)} {k c : Nat} (hm : m ≤ h.length) (hk : mrr k = some c) (g : Sm m h I V (f (m + c))) : Sm m h I V ((xgR (mh m h σ) 12 k m).bind f) := by
  unfold mrr at hk
  by_cases c1 : (mr k).1 = 2 ∨ (mr k).1 = 3
  · rw [if_pos c1] at hk
    injection hk with hk
    rw [e_gR hm c1, bs, hk]; exact g
  · rw [if_neg c1] at hk; cases hk
theorem sm_pW {f : px_H → Option (α × px_H)} {k : Nat} {v : Int32} (hm : m ≤ h.length) (hk : (mr k).1 = 0) (hI : I1 (sI σ k v)) (g : ∀ σ, I1 σ → Sm m h I V (f (mh m h σ))) : Sm m h I V ((xpI (mh m h σ) 12 k m v).bind f) := by
  rw [e_pI hm hk, bs]; exact g _ hI
theorem sm_pI {f : px_H → Option (α × px_H)} {k : Nat} {v : Int32} (hm : m ≤ h.length) (hk : (mr k).1 = 0) (hI : I (sI σ k v)) (g : ∀ σ, I σ → Sm m h I V (f (mh m h σ))) : Sm m h I V ((xpI (mh m h σ) 12 k m v).bind f) := sm_pW hm hk hI g
theorem sm_aI {f : Int32 → Option (α × px_H)} {c k t n : Nat} {i : Int32} (hm : m ≤ h.length) (_ : mrc c = some k) (hr : mr k = (2, c, t, n)) (hi : ∃ j, j < n ∧ i = nI j) (g : ∀ j, j < n → i = nI j → Sm m h I V (f (gA σ k j))) : Sm m h I V ((xaI (mh m h σ) t (m + c) i).bind f) := by
  obtain ⟨j, hj, rfl⟩ := hi
  have e := e_aI (σ := σ) (k := k) (i := j) hm (by rw [hr]) (by rw [hr]; exact hj)
  rw [hr] at e
  rw [e, bs]; exact g j hj rfl
theorem sm_aJ {f : Int64 → Option (α × px_H)} {c k t n : Nat} {i : Int32} (hm : m ≤ h.length) (_ : mrc c = some k) (hr : mr k = (3, c, t, n)) (hi : ∃ j, j < n ∧ i = nI j) (g : ∀ j, j < n → i = nI j → Sm m h I V (f (gB σ k j))) : Sm m h I V ((xaJ (mh m h σ) t (m + c) i).bind f) := by
  obtain ⟨j, hj, rfl⟩ := hi
  have e := e_aJ (σ := σ) (k := k) (i := j) hm (by rw [hr]) (by rw [hr]; exact hj)
  rw [hr] at e
  rw [e, bs]; exact g j hj rfl
theorem sm_sW {f : px_H → Option (α × px_H)} {c k t n : Nat} {i v : Int32} (hm : m ≤ h.length) (_ : mrc c = some k) (hr : mr k = (2, c, t, n)) (hi : ∃ j, j < n ∧ i = nI j) (hI : ∀ j, j < n → i = nI j → I1 (sA σ k (upd (gA σ k) j v))) (g : ∀ σ, I1 σ → Sm m h I V (f (mh m h σ))) : Sm m h I V ((xsI (mh m h σ) t (m + c) i v).bind f) := by
  obtain ⟨j, hj, rfl⟩ := hi
  have e := e_sI (σ := σ) (k := k) (i := j) hm (by rw [hr]) (by rw [hr]; exact hj) v
  rw [hr] at e
  rw [e, bs]; exact g _ (hI j hj rfl)
theorem sm_sI {f : px_H → Option (α × px_H)} {c k t n : Nat} {i v : Int32} (hm : m ≤ h.length) (hk : mrc c = some k) (hr : mr k = (2, c, t, n)) (hi : ∃ j, j < n ∧ i = nI j) (hI : ∀ j, j < n → i = nI j → I (sA σ k (upd (gA σ k) j v))) (g : ∀ σ, I σ → Sm m h I V (f (mh m h σ))) : Sm m h I V ((xsI (mh m h σ) t (m + c) i v).bind f) := sm_sW hm hk hr hi hI g
theorem sm_of {o : Option (β × px_H)} {f : β → px_H → Option (α × px_H)} (w : ∃ v, o = some (v, mh m h σ)) (g : ∀ v, Sm m h I V (f v (mh m h σ))) : Sm m h I V (xb o f) := by
  obtain ⟨v, e⟩ := w
  rw [e, xb_mk]; exact g v
end MSF
/-! what holds of the reference between two calls, besides files, names told, tape -/
/-- the memory's rows -/
def MV (σ : px_S) : Prop := ∃ r, r ≤ 8 ∧ gI σ 102 = nI r ∧ ∀ i, i < r → ∃ s p fz, gB σ 107 i = lN s ∧ s ≤ 2 ^ 48 ∧ gB σ 106 i = lN p ∧ gB σ 108 i = lN fz ∧ p + fz ≤ 65536
section MSC
variable {F m : Nat} {h : px_H} {σ0 σ : px_S}
theorem FR0 {v : Int32} (hf : FR [0] [] [] [] σ0 σ) : FR [0] [] [] [] σ0 (sI σ 0 v) := FR_trans hf (FR_I σ 0 v)
theorem FR0_I {k : Nat} (hf : FR [0] [] [] [] σ0 σ) (hk : k ≠ 0) : gI σ k = gI σ0 k := hf.1 k (by simpa using hk)
theorem sm_thr {a b : Int32} (hm : m ≤ h.length) (hf : FR [0] [] [] [] σ0 σ) : Sm m h (FR [0] [] [] [] σ0) isZ (f_M_throwing F m a b (mh m h σ)) := by
  unfold f_M_throwing f_M_throwing_18 f_M_throwing_33
  repeat' (first | ((with_reducible refine sm_pI hm (by with_unfolding_all exact rfl) ?_ (fun σ hi => ?_)); exact FR0 hf) | exact absurd (show nI 0 = 0 from rfl) (by assumption) | exact absurd (show nI 1 = 0 by assumption) (by decide) | ((with_reducible refine sm_i (fun hc => ?_) (fun hc => ?_))) | ((with_reducible refine sm_gI hm (by with_unfolding_all exact rfl) ?_)) | ((with_reducible refine sm_gJ hm (by with_unfolding_all exact rfl) ?_)) | ((with_reducible refine sm_gR hm (by with_unfolding_all exact rfl) ?_)) | ((with_reducible refine sm_o hm (fun l => ?_))) | ((with_reducible refine sm_r ?_ ?_); (first | exact any | assumption | first | exact ⟨false, rfl⟩ | exact ⟨true, rfl⟩ | assumption); assumption) | ((with_reducible refine sm_z ?_ ?_ ?_); (first | exact ⟨false, rfl⟩ | exact ⟨true, rfl⟩ | assumption); (first | exact any | exact ⟨false, rfl⟩ | exact ⟨true, rfl⟩ | assumption); assumption))
theorem MV_0 (hv : MV σ0) (hf : FR [0] [] [] [] σ0 σ) : MV σ := by
  obtain ⟨r, hr, er, hx⟩ := hv
  exact ⟨r, hr, (FR0_I hf (by decide)).trans er, fun i hi => by rw [hf.2.2.2 106 (by decide), hf.2.2.2 107 (by decide), hf.2.2.2 108 (by decide)]; exact hx i hi⟩
/-- the row of an address: none, or one that has it -/
theorem sm_row_2 {x : Int64} {r : Nat} (hm : m ≤ h.length) (hr : r ≤ 8) (er : gI σ 102 = nI r) : ∀ (d j f : Nat), j + d = r → d < f → Sm m h (fun σ' => σ' = σ) (fun v => v = Int32.ofInt (-1) ∨ ∃ i, i < r ∧ v = nI i ∧ ¬ x < gB σ 107 i) (f_M_rowOf_2 F f m x (nI j) (mh m h σ)) := by
  intro d
  induction d with
  | zero =>
    intro j f hj hf
    obtain ⟨f, rfl⟩ : ∃ y, f = y + 1 := ⟨f - 1, by omega⟩
    unfold f_M_rowOf_2 f_M_rowOf_47
    repeat' (first | (exact sm_r (Or.inl rfl) rfl) | (exact absurd (show gI σ 102 ≤ nI j by rw [er]; exact nI_le (by omega) (by omega)) (by assumption)) | exact absurd (show nI 0 = 0 from rfl) (by assumption) | exact absurd (show nI 1 = 0 by assumption) (by decide) | ((with_reducible refine sm_i (fun hc => ?_) (fun hc => ?_))) | ((with_reducible refine sm_gI hm (by with_unfolding_all exact rfl) ?_)) | ((with_reducible refine sm_gJ hm (by with_unfolding_all exact rfl) ?_)) | ((with_reducible refine sm_gR hm (by with_unfolding_all exact rfl) ?_)) | ((with_reducible refine sm_o hm (fun l => ?_))) | ((with_reducible refine sm_r ?_ ?_); (first | exact any | assumption | first | exact ⟨false, rfl⟩ | exact ⟨true, rfl⟩ | assumption); assumption) | ((with_reducible refine sm_z ?_ ?_ ?_); (first | exact ⟨false, rfl⟩ | exact ⟨true, rfl⟩ | assumption); (first | exact any | exact ⟨false, rfl⟩ | exact ⟨true, rfl⟩ | assumption); assumption))
  | succ d ih =>
    intro j f hj hf
    obtain ⟨f, rfl⟩ : ∃ y, f = y + 1 := ⟨f - 1, by omega⟩
    unfold f_M_rowOf_2 f_M_rowOf_47 f_M_rowOf_39 f_M_rowOf_41
    rw [nI_add]
    refine sm_gI hm rfl (sm_i (fun _ => sm_r (Or.inl rfl) rfl) (fun _ => ?_))
    refine sm_gR hm (c := 71) rfl (sm_aJ hm (k := 107) (n := 8) rfl rfl ⟨j, by omega, rfl⟩ (fun j' hj' ej => ?_))
    have e : j' = j := ((nI_eq (show j < 2 ^ 31 by omega) (show j' < 2 ^ 31 by omega)).mp ej).symm
    subst e
    refine sm_i (fun _ => ih _ _ (by omega) (by omega)) (fun hc => ?_)
    refine sm_gR hm (c := 71) rfl (sm_aJ hm (k := 107) (n := 8) rfl rfl ⟨j', by omega, rfl⟩ (fun _ _ _ => ?_))
    refine sm_gR hm (c := 73) rfl (sm_aJ hm (k := 109) (n := 8) rfl rfl ⟨j', by omega, rfl⟩ (fun _ _ _ => ?_))
    exact sm_i (fun _ => ih _ _ (by omega) (by omega)) (fun _ => sm_r (Or.inr ⟨j', by omega, rfl, hc⟩) rfl)
theorem sm_t0 {I : px_S → Prop} {α : Type} {V : α → Prop} {f : Int32 → px_H → Option (α × px_H)} (hm : m ≤ h.length) (hf : FR [0] [] [] [] σ0 σ) (g : ∀ σ, FR [0] [] [] [] σ0 σ → Sm m h I V (f (nI 0) (mh m h σ))) : Sm m h I V (xb (f_M_throwing F m (nI 0) (nI 0) (mh m h σ)) f) := by
  rw [show f_M_throwing F m (nI 0) (nI 0) (mh m h σ) = _ from q_throwing hm false false, xb_mk]; exact g _ (FR0 hf)
theorem sm_tA {I : px_S → Prop} {α : Type} {V : α → Prop} {f : Int32 → px_H → Option (α × px_H)} (hm : m ≤ h.length) (hf : FR [0] [] [] [] σ0 σ) (g : ∀ σ, FR [0] [] [] [] σ0 σ → Sm m h I V (f (nI 1) (mh m h σ))) : Sm m h I V (xb (f_M_throwing F m (nI 1) (nI 0) (mh m h σ)) f) := by
  rw [show f_M_throwing F m (nI 1) (nI 0) (mh m h σ) = _ from q_throwing hm true false, xb_mk]; exact g _ (FR0 hf)
theorem sm_tB {I : px_S → Prop} {α : Type} {V : α → Prop} {f : Int32 → px_H → Option (α × px_H)} (hm : m ≤ h.length) (hf : FR [0] [] [] [] σ0 σ) (g : ∀ σ, FR [0] [] [] [] σ0 σ → Sm m h I V (f (nI 1) (mh m h σ))) : Sm m h I V (xb (f_M_throwing F m (nI 0) (nI 1) (mh m h σ)) f) := by
  rw [show f_M_throwing F m (nI 0) (nI 1) (mh m h σ) = _ from q_throwing hm false true, xb_mk]; exact g _ (FR0 hf)
theorem sm_tC {I : px_S → Prop} {α : Type} {V : α → Prop} {f : Int32 → px_H → Option (α × px_H)} (hm : m ≤ h.length) (hf : FR [0] [] [] [] σ0 σ) (g : ∀ σ, FR [0] [] [] [] σ0 σ → Sm m h I V (f (nI 1) (mh m h σ))) : Sm m h I V (xb (f_M_throwing F m (nI 1) (nI 1) (mh m h σ)) f) := by
  rw [show f_M_throwing F m (nI 1) (nI 1) (mh m h σ) = _ from q_throwing hm true true, xb_mk]; exact g _ (FR0 hf)
theorem sm_look {a1 : Int32} (hm : m ≤ h.length) (hf : FR [0] [] [] [] σ0 σ) : Sm m h (FR [0] [] [] [] σ0) Any (f_M_look F m a1 (mh m h σ)) := by
  unfold f_M_look f_M_look_11 f_M_look_16 f_M_look_173 f_M_look_224
  repeat' (first | exact absurd (show nI 0 = 0 from rfl) (by assumption) | exact absurd (show nI 1 = 0 by assumption) (by decide) | ((with_reducible refine sm_i (fun hc => ?_) (fun hc => ?_))) | ((with_reducible refine sm_gI hm (by with_unfolding_all exact rfl) ?_)) | ((with_reducible refine sm_gJ hm (by with_unfolding_all exact rfl) ?_)) | ((with_reducible refine sm_gR hm (by with_unfolding_all exact rfl) ?_)) | ((with_reducible refine sm_o hm (fun l => ?_))) | ((with_reducible refine sm_r ?_ ?_); (first | exact any | assumption | first | exact ⟨false, rfl⟩ | exact ⟨true, rfl⟩ | assumption); assumption) | ((with_reducible refine sm_z ?_ ?_ ?_); (first | exact ⟨false, rfl⟩ | exact ⟨true, rfl⟩ | assumption); (first | exact any | exact ⟨false, rfl⟩ | exact ⟨true, rfl⟩ | assumption); assumption) | ((with_reducible refine sm_t0 hm (by assumption) (fun σ hi => ?_))) | ((with_reducible refine sm_tA hm (by assumption) (fun σ hi => ?_))) | ((with_reducible refine sm_tB hm (by assumption) (fun σ hi => ?_))) | ((with_reducible refine sm_tC hm (by assumption) (fun σ hi => ?_))))
theorem ixL {x : Int32} {n N : Nat} (h1 : ¬ x < 0) (h2 : x < nI n) (hn : n ≤ N) : ∃ j, j < N ∧ x = nI j := by
  obtain ⟨j, hj, rfl⟩ := nI_of h1
  have : ¬ n ≤ j := fun w => absurd h2 (nI_nlt w hj)
  exact ⟨j, by omega, rfl⟩
theorem ixG {x : Int32} {n N : Nat} (h1 : ¬ x < 0) (h2 : ¬ nI n ≤ x) (hn : n ≤ N) : ∃ j, j < N ∧ x = nI j := by
  obtain ⟨j, hj, rfl⟩ := nI_of h1
  have : ¬ n ≤ j := fun w => h2 (nI_le w hj)
  exact ⟨j, by omega, rfl⟩
theorem sm_place {a1 : Int32} {n : Nat} (hm : m ≤ h.length) (hn : n ≤ 1536) (en : gI σ0 50 = nI n) (hf : FR [0] [] [] [] σ0 σ) : Sm m h (FR [0] [] [] [] σ0) Any (f_M_place F m a1 (mh m h σ)) := by
  have e50 : gI σ 50 = nI n := (FR0_I hf (by decide)).trans en
  unfold f_M_place f_M_place_13 f_M_place_25 f_M_place_30
  repeat' (first | ((with_reducible refine sm_aJ hm (by with_unfolding_all exact rfl) (by with_unfolding_all exact rfl) ?_ (fun j hj ej => ?_)); exact ixL (by assumption) (by rw [← e50]; assumption) hn) | exact absurd (show nI 0 = 0 from rfl) (by assumption) | exact absurd (show nI 1 = 0 by assumption) (by decide) | ((with_reducible refine sm_i (fun hc => ?_) (fun hc => ?_))) | ((with_reducible refine sm_gI hm (by with_unfolding_all exact rfl) ?_)) | ((with_reducible refine sm_gJ hm (by with_unfolding_all exact rfl) ?_)) | ((with_reducible refine sm_gR hm (by with_unfolding_all exact rfl) ?_)) | ((with_reducible refine sm_o hm (fun l => ?_))) | ((with_reducible refine sm_r ?_ ?_); (first | exact any | assumption | first | exact ⟨false, rfl⟩ | exact ⟨true, rfl⟩ | assumption); assumption) | ((with_reducible refine sm_z ?_ ?_ ?_); (first | exact ⟨false, rfl⟩ | exact ⟨true, rfl⟩ | assumption); (first | exact any | exact ⟨false, rfl⟩ | exact ⟨true, rfl⟩ | assumption); assumption) | ((with_reducible refine sm_t0 hm (by assumption) (fun σ hi => ?_))) | ((with_reducible refine sm_tA hm (by assumption) (fun σ hi => ?_))) | ((with_reducible refine sm_tB hm (by assumption) (fun σ hi => ?_))) | ((with_reducible refine sm_tC hm (by assumption) (fun σ hi => ?_))))
theorem sm_section {a1 a2 : Int32} {n : Nat} (hm : m ≤ h.length) (hn : n ≤ 1536) (en : gI σ0 50 = nI n) (hf : FR [0] [] [] [] σ0 σ) : Sm m h (FR [0] [] [] [] σ0) Any (f_M_section F m a1 a2 (mh m h σ)) := by
  have e50 : gI σ 50 = nI n := (FR0_I hf (by decide)).trans en
  unfold f_M_section f_M_section_13 f_M_section_34 f_M_section_39 f_M_section_108
  repeat' (first | ((with_reducible refine sm_aI hm (by with_unfolding_all exact rfl) (by with_unfolding_all exact rfl) ?_ (fun j hj ej => ?_)); exact ixG (by assumption) (by rw [← e50]; assumption) hn) | exact absurd (show nI 0 = 0 from rfl) (by assumption) | exact absurd (show nI 1 = 0 by assumption) (by decide) | ((with_reducible refine sm_i (fun hc => ?_) (fun hc => ?_))) | ((with_reducible refine sm_gI hm (by with_unfolding_all exact rfl) ?_)) | ((with_reducible refine sm_gJ hm (by with_unfolding_all exact rfl) ?_)) | ((with_reducible refine sm_gR hm (by with_unfolding_all exact rfl) ?_)) | ((with_reducible refine sm_o hm (fun l => ?_))) | ((with_reducible refine sm_r ?_ ?_); (first | exact any | assumption | first | exact ⟨false, rfl⟩ | exact ⟨true, rfl⟩ | assumption); assumption) | ((with_reducible refine sm_z ?_ ?_ ?_); (first | exact ⟨false, rfl⟩ | exact ⟨true, rfl⟩ | assumption); (first | exact any | exact ⟨false, rfl⟩ | exact ⟨true, rfl⟩ | assumption); assumption) | ((with_reducible refine sm_t0 hm (by assumption) (fun σ hi => ?_))) | ((with_reducible refine sm_tA hm (by assumption) (fun σ hi => ?_))) | ((with_reducible refine sm_tB hm (by assumption) (fun σ hi => ?_))) | ((with_reducible refine sm_tC hm (by assumption) (fun σ hi => ?_))))
theorem sm_flags {x : Int64} (hm : m ≤ h.length) (hF : 8 < F) (hv : MV σ0) (hf : FR [0] [] [] [] σ0 σ) : Sm m h (FR [0] [] [] [] σ0) Any (f_M_flags F m x (mh m h σ)) := by
  unfold f_M_flags f_M_flags_27
  refine sm_pI hm rfl (FR0 hf) (fun σ hi => ?_)
  obtain ⟨r, hr, er, hx⟩ := MV_0 hv hi
  refine sm_o hm (fun _ => sm_x (sm_row_2 hm hr er r 0 F (Nat.zero_add _) (by omega)) ?_)
  rintro v _ hv rfl
  refine sm_i (fun hc => ?_) (fun hc => sm_r any hi)
  rcases hv with rfl | ⟨i, hi8, rfl, _⟩
  · exact absurd hc (by decide)
  · exact sm_gR hm (c := 69) rfl (sm_aJ hm (k := 105) (n := 8) rfl rfl ⟨i, by omega, rfl⟩ (fun _ _ _ => sm_r any hi))
theorem sm_out_33 {j n : Nat} (hm : m ≤ h.length) (hn : n ≤ 65536) (hj : j < n) (e4 : gI σ 4 = nI n) (hf : FR [0] [] [] [] σ0 σ) : ∀ (d f : Nat) (v : Int64), d ≤ 8 → d < f → Sm m h (FR [0] [] [] [] σ0) Any (f_M_out_33 F f m (nI j) v (nI d - nI 1) (mh m h σ)) := by
  intro d
  induction d with
  | zero =>
    intro f v hd hf'
    obtain ⟨f, rfl⟩ : ∃ y, f = y + 1 := ⟨f - 1, by omega⟩
    unfold f_M_out_33 f_M_out_79
    rw [if_pos (by decide)]
    exact sm_r any hf
  | succ d ih =>
    intro f v hd hf'
    obtain ⟨f, rfl⟩ : ∃ y, f = y + 1 := ⟨f - 1, by omega⟩
    rw [pk_sub (by omega), Nat.add_sub_cancel]
    unfold f_M_out_33 f_M_out_79 f_M_out_70
    rw [if_neg (nI_pos (by omega)), nI_add, nI_back]
    refine sm_gI hm rfl (sm_i (fun _ => ih _ _ (by omega) (by omega)) (fun hc => ?_))
    rw [e4] at hc
    have : j + d < n := Nat.lt_of_not_le (fun w => hc (nI_le w (by omega)))
    exact sm_gR hm (c := 2) rfl (sm_aI hm (k := 3) (n := 65536) rfl rfl ⟨j + d, by omega, rfl⟩ (fun _ _ _ => ih _ _ (by omega) (by omega)))
theorem sm_out {a1 : Int32} {n : Nat} (hm : m ≤ h.length) (hF : 8 < F) (hn : n ≤ 65536) (e4 : gI σ0 4 = nI n) (hf : FR [0] [] [] [] σ0 σ) : Sm m h (FR [0] [] [] [] σ0) Any (f_M_out F m a1 (mh m h σ)) := by
  have e : gI σ 4 = nI n := (FR0_I hf (by decide)).trans e4
  unfold f_M_out f_M_out_13 f_M_out_18
  refine sm_i (fun _ => ?_) (fun h1 => sm_gI hm rfl (sm_i (fun h2 => ?_) (fun _ => ?_)))
  · repeat' (first | exact absurd (show nI 0 = 0 from rfl) (by assumption) | exact absurd (show nI 1 = 0 by assumption) (by decide) | ((with_reducible refine sm_i (fun hc => ?_) (fun hc => ?_))) | ((with_reducible refine sm_gI hm (by with_unfolding_all exact rfl) ?_)) | ((with_reducible refine sm_gJ hm (by with_unfolding_all exact rfl) ?_)) | ((with_reducible refine sm_gR hm (by with_unfolding_all exact rfl) ?_)) | ((with_reducible refine sm_o hm (fun l => ?_))) | ((with_reducible refine sm_r ?_ ?_); (first | exact any | assumption | first | exact ⟨false, rfl⟩ | exact ⟨true, rfl⟩ | assumption); assumption) | ((with_reducible refine sm_z ?_ ?_ ?_); (first | exact ⟨false, rfl⟩ | exact ⟨true, rfl⟩ | assumption); (first | exact any | exact ⟨false, rfl⟩ | exact ⟨true, rfl⟩ | assumption); assumption) | ((with_reducible refine sm_t0 hm (by assumption) (fun σ hi => ?_))) | ((with_reducible refine sm_tA hm (by assumption) (fun σ hi => ?_))) | ((with_reducible refine sm_tB hm (by assumption) (fun σ hi => ?_))) | ((with_reducible refine sm_tC hm (by assumption) (fun σ hi => ?_))))
  · obtain ⟨j, hj, rfl⟩ := ixL h1 (by rw [← e]; exact h2) (Nat.le_refl n)
    refine sm_o hm (fun _ => sm_t0 hm hf (fun σ hi => sm_i (fun _ => ?_) (fun hc => absurd rfl hc)))
    exact sm_out_33 hm hn hj ((FR0_I hi (by decide)).trans e4) hi 8 F _ (Nat.le_refl _) (by omega)
  · repeat' (first | exact absurd (show nI 0 = 0 from rfl) (by assumption) | exact absurd (show nI 1 = 0 by assumption) (by decide) | ((with_reducible refine sm_i (fun hc => ?_) (fun hc => ?_))) | ((with_reducible refine sm_gI hm (by with_unfolding_all exact rfl) ?_)) | ((with_reducible refine sm_gJ hm (by with_unfolding_all exact rfl) ?_)) | ((with_reducible refine sm_gR hm (by with_unfolding_all exact rfl) ?_)) | ((with_reducible refine sm_o hm (fun l => ?_))) | ((with_reducible refine sm_r ?_ ?_); (first | exact any | assumption | first | exact ⟨false, rfl⟩ | exact ⟨true, rfl⟩ | assumption); assumption) | ((with_reducible refine sm_z ?_ ?_ ?_); (first | exact ⟨false, rfl⟩ | exact ⟨true, rfl⟩ | assumption); (first | exact any | exact ⟨false, rfl⟩ | exact ⟨true, rfl⟩ | assumption); assumption) | ((with_reducible refine sm_t0 hm (by assumption) (fun σ hi => ?_))) | ((with_reducible refine sm_tA hm (by assumption) (fun σ hi => ?_))) | ((with_reducible refine sm_tB hm (by assumption) (fun σ hi => ?_))) | ((with_reducible refine sm_tC hm (by assumption) (fun σ hi => ?_))))
end MSC
