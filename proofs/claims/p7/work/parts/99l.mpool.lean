/-! toPool of the reference -/
def sufB (u : List Nat) : List Nat → Bool
  | [] => decide (u = [])
  | c :: s => decide (u = c :: s) || sufB u s
theorem sufB_len {u : List Nat} : ∀ {s : List Nat}, sufB u s = true → u.length ≤ s.length := by
  intro s
  induction s with
  | nil => intro h; rw [of_decide_eq_true h]; exact Nat.le_refl _
  | cons c s ih =>
    intro h
    rw [show sufB u (c :: s) = (decide (u = c :: s) || sufB u s) from rfl, Bool.or_eq_true] at h
    rcases h with h | h
    · rw [of_decide_eq_true h]; exact Nat.le_refl _
    · have := ih h; rw [List.length_cons]; omega
theorem sufB_refl {u : List Nat} : sufB u u = true := by
  cases u with
  | nil => rfl
  | cons c s =>
    show (decide (c :: s = c :: s) || sufB (c :: s) s) = true
    rw [decide_eq_true rfl]; rfl
/-- the ends of s that end nowhere end at v -/
def pset (pe : List Nat → Option Nat) (v : Nat) (s u : List Nat) : Option Nat := match pe u with
  | some y => some y
  | none => if sufB u s = true then some v else none
theorem pset_s {pe : List Nat → Option Nat} {v c : Nat} {s u : List Nat} (h : u ≠ c :: s) : pset pe v (c :: s) u = pset pe v s u := by
  unfold pset
  rw [show sufB u (c :: s) = (decide (u = c :: s) || sufB u s) from rfl, decide_eq_false h, Bool.false_or]
theorem pset_e {pe : List Nat → Option Nat} {v c : Nat} {s : List Nat} : pset pe v (c :: s) (c :: s) = match pset pe v s (c :: s) with
    | some y => some y
    | none => some v := by
  unfold pset
  cases pe (c :: s) with
  | some y => rfl
  | none =>
    have h1 : sufB (c :: s) s = false := Bool.eq_false_iff.mpr (fun q => by have := sufB_len q; rw [List.length_cons] at this; omega)
    show (if sufB (c :: s) (c :: s) = true then some v else none) = _
    rw [sufB_refl, if_pos rfl, h1]
    rfl
theorem sufB_nd {nd : List (List Nat)} (h : ∀ c v, c :: v ∈ nd → v ∈ nd) {u : List Nat} : ∀ {s : List Nat}, s ∈ nd → sufB u s = true → u ∈ nd := by
  intro s
  induction s with
  | nil => intro hs hu; rw [of_decide_eq_true hu]; exact hs
  | cons c s ih =>
    intro hs hu
    rw [show sufB u (c :: s) = (decide (u = c :: s) || sufB u s) from rfl, Bool.or_eq_true] at hu
    rcases hu with hu | hu
    · rw [of_decide_eq_true hu]; exact hs
    · exact ih (h c s hs) hu
section MTP
variable {F m p e fr v : Nat} {h : px_H} {B : Nat → Nat}
theorem q_tP_2 {σ : px_S} (hm : m ≤ h.length) (hb : RB σ B) (hp : p + e ≤ 65536) : ∀ (d g : Nat), d ≤ e → d < g → f_M_toPool_2 F g m (nI p) (nI (p + e)) (nI (p + d)) (mh m h σ) = f_M_toPool_24 F m (nI (p + e)) (nI (frm B p d)) (mh m h σ) := by
  intro d
  induction d with
  | zero =>
    intro g _ hg
    obtain ⟨g, rfl⟩ : ∃ x, g = x + 1 := ⟨g - 1, by omega⟩
    unfold f_M_toPool_2
    exact if_pos (nI_le (by omega) (by omega))
  | succ d ih =>
    intro g hd hg
    obtain ⟨g, rfl⟩ : ∃ x, g = x + 1 := ⟨g - 1, by omega⟩
    unfold f_M_toPool_2
    rw [if_neg (nI_ge (by omega) (by omega)), Mr6 hm, bs, pk_sub (by omega), show p + (d + 1) - 1 = p + d by omega, Ma6 hm (by omega), bs, frm_s]
    by_cases c : B (p + d) = 0
    · rw [if_pos ((RB_0 hb _).mpr c), if_pos c]; rfl
    · rw [if_neg (fun q => c ((RB_0 hb _).mp q)), if_neg c, nI_back, pk_sub (by omega), show p + (d + 1) - 1 = p + d by omega, ih g (by omega) (by omega)]
theorem q_tP_27 (hm : m ≤ h.length) : ∀ (c k g ps : Nat) (σ : px_S), k + c = e + 1 → e ≤ 65535 → c < g → ps + c ≤ 65536 → gI σ 88 = nI ps → (∀ k, isB (gA σ 91 k)) → ∃ σ', f_M_toPool_27 F g m (nI e) (nI fr) (nI k) (mh m h σ) = f_M_toPool_65 F m (nI e) (nI fr) (mh m h σ') ∧ gI σ' 88 = nI (ps + c) ∧ (∀ k, isB (gA σ' 91 k)) ∧ FR [88] [] [91] [] σ σ' := by
  intro c
  induction c with
  | zero =>
    intro k g ps σ hk he hg hps h88 h91
    obtain ⟨g, rfl⟩ : ∃ x, g = x + 1 := ⟨g - 1, by omega⟩
    unfold f_M_toPool_27
    rw [if_pos (nI_lt (by omega) (by omega))]
    exact ⟨σ, rfl, h88, h91, FR_refl σ⟩
  | succ c ih =>
    intro k g ps σ hk he hg hps h88 h91
    obtain ⟨g, rfl⟩ : ∃ x, g = x + 1 := ⟨g - 1, by omega⟩
    unfold f_M_toPool_27
    rw [if_neg (nI_nlt (by omega) (by omega)), Mr91 hm, bs, Mg88 hm, bs, h88, Mr6 hm, bs, Ma6 hm (by omega), bs, Ms91 hm (by omega), bs, Mg88 hm, bs, gI_sA, h88, nI_add, Mp88 hm, bs, nI_add]
    obtain ⟨σ1, hσ1⟩ : ∃ x, x = sI (sA σ 91 (upd (gA σ 91) ps (gA σ 6 k).toInt8.toInt32)) 88 (nI (ps + 1)) := ⟨_, rfl⟩
    rw [← hσ1]
    have f1 : FR [88] [] [91] [] σ σ1 := by
      rw [hσ1]
      exact FR_trans (FR_mono (FR_A σ 91 _) (by decide) (by decide) (by decide) (by decide)) (FR_mono (FR_I _ 88 _) (by decide) (by decide) (by decide) (by decide))
    obtain ⟨σ2, a1, a2, a3, a4⟩ := ih (k + 1) g (ps + 1) σ1 (by omega) he (by omega) (by omega) (by rw [hσ1, gI_sI, if_pos rfl]) (fun q => by
      rw [hσ1]
      show isB (upd (gA σ 91) ps _ q)
      by_cases cq : q = ps
      · rw [cq, upd_eq]; exact isB_8 _
      · rw [upd_ne cq]; exact h91 q)
    exact ⟨σ2, a1, by rw [a2]; congr 1; omega, a3, FR_trans f1 a4⟩
theorem RPe_set {σ σ' : px_S} {nd : List (List Nat)} {pe pe' : List Nat → Option Nat} {k : Nat} {w : List Nat} (hr : RPe σ nd pe) (hd : nd.Nodup) (hk : nd[k]? = some w) {x : Int32} (h94 : gA σ' 94 = upd (gA σ 94) (k + 1) x) (hx : x = tdA (pe' w)) (ho : ∀ u, u ≠ w → pe' u = pe u) : RPe σ' nd pe' := by
  refine ⟨fun j u hu => ?_, fun u hu => ?_⟩
  · rw [h94]
    by_cases c : j = k
    · have : u = w := by rw [c, hk] at hu; exact (Option.some.inj hu).symm
      rw [c, upd_eq, this, hx]
    · have : u ≠ w := fun q => by
        rw [q] at hu
        have h1 := idx_nd hd hu
        have h2 := idx_nd hd hk
        rw [h1] at h2
        exact c (Option.some.inj h2)
      rw [upd_ne (by omega), ho u this]
      exact hr.1 j u hu
  · have : u ≠ w := fun q => hu (by rw [q]; exact List.mem_of_getElem? hk)
    rw [ho u this]
    exact hr.2 u hu
theorem TR_FR {σ σ' : px_S} {I J A Bs : List Nat} {nd : List (List Nat)} (ht : TR σ nd) (f : FR I J A Bs σ σ') (h1 : 89 ∉ I) (hA : 92 ∉ A ∧ 93 ∉ A ∧ 95 ∉ A) : TR σ' nd := by
  obtain ⟨t1, t2, t3, t4, t5, t6⟩ := ht
  refine ⟨(f.1 89 h1).trans t1, t2, t3, t4, t5, fun k u hu => ?_⟩
  rw [f.2.2.1 92 hA.1, f.2.2.1 93 hA.2.1, f.2.2.1 95 hA.2.2]
  exact t6 k u hu
theorem q_tP_101 {nd : List (List Nat)} {pe : List Nat → Option Nat} (hm : m ≤ h.length) (hF : 65540 < F) (hv : v < 2 ^ 31) (hN : nd.length ≤ 65538) (hpv : ∀ u y, pe u = some y → y < 2 ^ 31) : ∀ (d k g : Nat) (σ : px_S), d < g → fr + d ≤ 65535 → RB σ B → TR σ nd → (∀ x, fr ≤ x → x < fr + d → B x ≠ 0 ∧ st B x ∈ nd) → gI σ 88 = nI v → nd[k]? = some (st B (fr + d)) → RPe σ nd (pset pe v (st B (fr + d))) → ∃ σ', f_M_toPool_101 F g m (nI fr) (nI (k + 1)) (nI (fr + d) - nI 1) (mh m h σ) = some ((), mh m h σ') ∧ RPe σ' nd (pset pe v (st B fr)) ∧ FR [] [] [94] [] σ σ' := by
  intro d
  induction d with
  | zero =>
    intro k g σ hg hp hb ht hx h88 hk hpe
    obtain ⟨g, rfl⟩ : ∃ x, g = x + 1 := ⟨g - 1, by omega⟩
    unfold f_M_toPool_101 f_M_toPool_160
    rw [if_pos (by rw [Nat.add_zero]; exact back_lt (by omega))]
    exact ⟨σ, rfl, hpe, FR_refl σ⟩
  | succ d ih =>
    intro k g σ hg hp hb ht hx h88 hk hpe
    obtain ⟨g, rfl⟩ : ∃ x, g = x + 1 := ⟨g - 1, by omega⟩
    have e1 : nI (fr + (d + 1)) - nI 1 = nI (fr + d) := by rw [pk_sub (by omega)]; rfl
    obtain ⟨c, hin⟩ := hx (fr + d) (by omega) (by omega)
    have es : st B (fr + d) = B (fr + d) :: st B (fr + (d + 1)) := st_n (by omega) c
    obtain ⟨σ1, a1, a2, a3, a4, a5⟩ := q_childOf7 (F := F) (mk := nI 0) (h := h) hm hF ht hN (RB_lt hb (fr + d)) hk (by rw [← es]; exact hin)
    rw [← es] at a1 a3
    have e3 := a3 hin
    rw [e3] at a1
    obtain ⟨i, hi⟩ := Option.isSome_iff_exists.mp (idx_iff.mpr hin)
    have hip : plc (st B (fr + d)) nd = i := by unfold plc; rw [hi]; rfl
    have hil := idx_lt hi
    have hin2 : nd[i]? = some (st B (fr + d)) := by have := idx_some hi; rw [Nat.sub_zero] at this; exact this
    rw [hip] at a1
    have r94 := hpe.1 i _ hin2
    unfold f_M_toPool_101 f_M_toPool_153
    rw [e1, if_neg (nI_nlt (by omega) (by omega)), Mr6 hm, bs, Ma6 hm (by omega), bs, RB_byt hb, e_o hm, bs, a1, xb_mk, Mr94 hm, bs, bs, Ma94 hm (by omega), bs, r94]
    have fin : ∀ x, x = tdA (pset pe v (st B (fr + d)) (st B (fr + d))) → ∃ σ', (((xsI (mh m h σ) 1 (m + 63) (nI (i + 1)) x).bind fun ph1 => f_M_toPool_101 F g m (nI fr) (nI (i + 1)) (nI (fr + d) + Int32.ofInt (-1)) ph1) = some ((), mh m h σ')) ∧ RPe σ' nd (pset pe v (st B fr)) ∧ FR [] [] [94] [] σ σ' := by
      intro x hx2
      rw [Ms94 hm (by omega), bs, nI_back]
      have f1 := FR_A σ 94 (upd (gA σ 94) (i + 1) x)
      obtain ⟨σ2, b1, b2, b3⟩ := ih i g (sA σ 94 (upd (gA σ 94) (i + 1) x)) (by omega) (by omega) (RB_FR hb f1 (by decide)) (TR_FR ht f1 (by decide) (by decide)) (fun y h1 h2 => hx y h1 (by omega)) h88 hin2 (RPe_set (pe' := pset pe v (st B (fr + d))) hpe ht.2.2.1 hin2 rfl hx2 (fun u hu => by rw [es] at hu ⊢; exact pset_s hu))
      exact ⟨σ2, b1, b2, FR_trans f1 b3⟩
    have hpe2 := pset_e (pe := pe) (v := v) (c := B (fr + d)) (s := st B (fr + (d + 1)))
    rw [← es] at hpe2
    cases eq : pset pe v (st B (fr + (d + 1))) (st B (fr + d)) with
    | some y =>
      rw [eq] at hpe2
      have hy : y < 2 ^ 31 := by
        unfold pset at eq
        cases e5 : pe (st B (fr + d)) with
        | some z => rw [e5] at eq; rw [← Option.some.inj eq]; exact hpv _ _ e5
        | none =>
          rw [e5] at eq
          have eq : (if sufB (st B (fr + d)) (st B (fr + (d + 1))) = true then some v else none) = some y := eq
          split at eq
          · rw [← Option.some.inj eq]; exact hv
          · cases eq
      rw [if_pos (show (0 : Int32) ≤ tdA (some y) from nI_0le hy), bs, Ma94 hm (by omega), bs, r94, eq]
      exact fin _ (by rw [hpe2])
    | none =>
      rw [eq] at hpe2
      rw [if_neg (show ¬ (0 : Int32) ≤ tdA none by decide), Mg88 hm, bs, h88]
      exact fin _ (by rw [hpe2]; rfl)
end MTP
