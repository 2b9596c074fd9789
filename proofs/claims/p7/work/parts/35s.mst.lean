/-! the heap with the reference's cells at m holding the state σ -/
abbrev px_S : Type := (Nat → Int32) × (Nat → Int64) × (Nat → Nat → Int32) × (Nat → Nat → Int64)
def gI (σ : px_S) (k : Nat) : Int32 := σ.1 k
def gJ (σ : px_S) (k : Nat) : Int64 := σ.2.1 k
def gA (σ : px_S) (k : Nat) : Nat → Int32 := σ.2.2.1 k
def gB (σ : px_S) (k : Nat) : Nat → Int64 := σ.2.2.2 k
def sI (σ : px_S) (k : Nat) (v : Int32) : px_S := (fun i => if i = k then v else σ.1 i, σ.2)
def sJ (σ : px_S) (k : Nat) (v : Int64) : px_S := (σ.1, fun i => if i = k then v else σ.2.1 i, σ.2.2)
def sA (σ : px_S) (k : Nat) (f : Nat → Int32) : px_S := (σ.1, σ.2.1, fun i => if i = k then f else σ.2.2.1 i, σ.2.2.2)
def sB (σ : px_S) (k : Nat) (f : Nat → Int64) : px_S := (σ.1, σ.2.1, σ.2.2.1, fun i => if i = k then f else σ.2.2.2 i)
theorem gI_sI (σ : px_S) (k i : Nat) (v : Int32) : gI (sI σ k v) i = if i = k then v else gI σ i := rfl
theorem gI_sJ (σ : px_S) (k i : Nat) (v : Int64) : gI (sJ σ k v) i = gI σ i := rfl
theorem gI_sA (σ : px_S) (k i : Nat) (f : Nat → Int32) : gI (sA σ k f) i = gI σ i := rfl
theorem gI_sB (σ : px_S) (k i : Nat) (f : Nat → Int64) : gI (sB σ k f) i = gI σ i := rfl
theorem gJ_sI (σ : px_S) (k i : Nat) (v : Int32) : gJ (sI σ k v) i = gJ σ i := rfl
theorem gJ_sJ (σ : px_S) (k i : Nat) (v : Int64) : gJ (sJ σ k v) i = if i = k then v else gJ σ i := rfl
theorem gJ_sA (σ : px_S) (k i : Nat) (f : Nat → Int32) : gJ (sA σ k f) i = gJ σ i := rfl
theorem gJ_sB (σ : px_S) (k i : Nat) (f : Nat → Int64) : gJ (sB σ k f) i = gJ σ i := rfl
theorem gA_sI (σ : px_S) (k i : Nat) (v : Int32) : gA (sI σ k v) i = gA σ i := rfl
theorem gA_sJ (σ : px_S) (k i : Nat) (v : Int64) : gA (sJ σ k v) i = gA σ i := rfl
theorem gA_sA (σ : px_S) (k i : Nat) (f : Nat → Int32) : gA (sA σ k f) i = if i = k then f else gA σ i := rfl
theorem gA_sB (σ : px_S) (k i : Nat) (f : Nat → Int64) : gA (sB σ k f) i = gA σ i := rfl
theorem gB_sI (σ : px_S) (k i : Nat) (v : Int32) : gB (sI σ k v) i = gB σ i := rfl
theorem gB_sJ (σ : px_S) (k i : Nat) (v : Int64) : gB (sJ σ k v) i = gB σ i := rfl
theorem gB_sA (σ : px_S) (k i : Nat) (f : Nat → Int32) : gB (sA σ k f) i = gB σ i := rfl
theorem gB_sB (σ : px_S) (k i : Nat) (f : Nat → Int64) : gB (sB σ k f) i = if i = k then f else gB σ i := rfl
theorem sA_self (σ : px_S) (k : Nat) : sA σ k (gA σ k) = σ := by
  unfold sA gA
  have : (fun i => if i = k then σ.2.2.1 k else σ.2.2.1 i) = σ.2.2.1 := by
    funext i
    by_cases c : i = k
    · rw [if_pos c, c]
    · rw [if_neg c]
  rw [this]
theorem sA_sA (σ : px_S) (k : Nat) (f g : Nat → Int32) : sA (sA σ k f) k g = sA σ k g := by
  unfold sA
  have : (fun i => if i = k then g else if i = k then f else σ.2.2.1 i) = fun i => if i = k then g else σ.2.2.1 i := by
    funext i
    by_cases c : i = k
    · rw [if_pos c, if_pos c]
    · rw [if_neg c, if_neg c, if_neg c]
  exact congrArg (fun x => (σ.1, σ.2.1, x, σ.2.2.2)) this
theorem sI_sI (σ : px_S) (k : Nat) (f g : Int32) : sI (sI σ k f) k g = sI σ k g := by
  unfold sI
  have : (fun i => if i = k then g else if i = k then f else σ.1 i) = fun i => if i = k then g else σ.1 i := by
    funext i
    by_cases c : i = k
    · rw [if_pos c, if_pos c]
    · rw [if_neg c, if_neg c, if_neg c]
  exact congrArg (fun x => (x, σ.2)) this
def mr (k : Nat) : Nat × Nat × Nat × Nat := mT.getD k (9, 0, 0, 0)
def fv (m : Nat) (σ : px_S) (k : Nat) : Value := if (mr k).1 = 0 then .int (gI σ k) else if (mr k).1 = 1 then .long (gJ σ k) else .ref (m + (mr k).2.1)
def arr (σ : px_S) (k : Nat) : px_PE := if (mr k).1 = 2 then .inl ((mr k).2.2.1, (mr k).2.2.2, .inl (gA σ k)) else .inl ((mr k).2.2.1, (mr k).2.2.2, .inr (.inl (gB σ k)))
def mfs (m : Nat) (σ : px_S) : List Value := (List.range 130).map (fv m σ)
def mcs (m : Nat) (σ : px_S) : List px_PE := .inr (12, mfs m σ) :: mA.map (arr σ)
def mh (m : Nat) (h : px_H) (σ : px_S) : px_H := h.take m ++ (mcs m σ ++ h.drop (m + 88))
theorem mcs_len (m : Nat) (σ : px_S) : (mcs m σ).length = 88 := by
  simp [mcs, mA]
theorem mT_len : mT.length = 130 := by decide +kernel
theorem mr_lt {k : Nat} (h : (mr k).1 ≠ 9) : k < 130 := by
  by_cases c : k < 130
  · exact c
  · exfalso
    apply h
    unfold mr
    rw [List.getD_eq_getElem?_getD, List.getElem?_eq_none (by rw [mT_len]; omega)]
    rfl
section MST
variable {m : Nat} {h : px_H} {σ : px_S}
theorem mh_at (hm : m ≤ h.length) {i : Nat} (hi : i < 88) : (mh m h σ)[m + i]? = (mcs m σ)[i]? := by
  unfold mh
  have e : (h.take m).length = m := by rw [List.length_take]; omega
  rw [List.getElem?_append_right (by omega), e, List.getElem?_append_left (by rw [mcs_len]; omega)]
  congr 1
  omega
theorem mh_set (hm : m ≤ h.length) {i : Nat} (hi : i < 88) (v : px_PE) {σ' : px_S} (hc : (mcs m σ).set i v = mcs m σ') : (mh m h σ).set (m + i) v = mh m h σ' := by
  unfold mh
  have e : (h.take m).length = m := by rw [List.length_take]; omega
  rw [List.set_append_right _ _ (by omega), e, List.set_append_left _ _ (by rw [mcs_len]; omega), show m + i - m = i by omega, hc]
theorem mh_0 (hm : m ≤ h.length) : (mh m h σ)[m]? = some (.inr (12, mfs m σ)) := mh_at (i := 0) hm (by decide)
theorem mA_off : ∀ i, i < 87 → (mr (mA.getD i 0)).2.1 = i + 1 ∧ 2 ≤ (mr (mA.getD i 0)).1 := by decide +kernel
theorem mA_of : ∀ k, k < 130 → 2 ≤ (mr k).1 → (mr k).2.1 < 88 ∧ 1 ≤ (mr k).2.1 ∧ mA[(mr k).2.1 - 1]? = some k := by decide +kernel
theorem mA_inj : ∀ i, i < 87 → ∀ j, j < 87 → mA[i]? = mA[j]? → i = j := by decide +kernel
theorem mh_a (hm : m ≤ h.length) {k : Nat} (hk : k < 130) (h2 : 2 ≤ (mr k).1) : (mh m h σ)[m + (mr k).2.1]? = some (arr σ k) := by
  obtain ⟨e1, e2, e3⟩ := mA_of k hk h2
  rw [mh_at hm e1]
  unfold mcs
  obtain ⟨i, hi⟩ : ∃ i, (mr k).2.1 = i + 1 := ⟨(mr k).2.1 - 1, by omega⟩
  rw [hi, List.getElem?_cons_succ, List.getElem?_map]
  rw [hi, Nat.add_sub_cancel] at e3
  rw [e3]
  rfl
theorem mfs_at (k : Nat) (hk : k < 130) : (mfs m σ)[k]? = some (fv m σ k) := by
  unfold mfs
  rw [List.getElem?_map, List.getElem?_range hk]
  rfl
theorem e_o (hm : m ≤ h.length) : xo (mh m h σ) 12 m = some (mfs m σ) := by
  unfold xo
  rw [mh_0 hm]
  exact if_pos rfl
theorem e_gI (hm : m ≤ h.length) {k : Nat} (hk : (mr k).1 = 0) : xgI (mh m h σ) 12 k m = some (gI σ k) := by
  have hk2 := mr_lt (show (mr k).1 ≠ 9 by rw [hk]; decide)
  unfold xgI
  rw [e_o hm, bs, mfs_at k hk2]
  unfold fv
  rw [if_pos hk]
  rfl
theorem e_gJ (hm : m ≤ h.length) {k : Nat} (hk : (mr k).1 = 1) : xgJ (mh m h σ) 12 k m = some (gJ σ k) := by
  have hk2 := mr_lt (show (mr k).1 ≠ 9 by rw [hk]; decide)
  unfold xgJ
  rw [e_o hm, bs, mfs_at k hk2]
  unfold fv
  rw [if_neg (by rw [hk]; decide), if_pos hk]
  rfl
theorem e_gR (hm : m ≤ h.length) {k : Nat} (hk : (mr k).1 = 2 ∨ (mr k).1 = 3) : xgR (mh m h σ) 12 k m = some (m + (mr k).2.1) := by
  have hk2 := mr_lt (show (mr k).1 ≠ 9 by omega)
  unfold xgR
  rw [e_o hm, bs, mfs_at k hk2]
  unfold fv
  rw [if_neg (by omega), if_neg (by omega)]
  rfl
theorem mfs_sI {k : Nat} (hk : (mr k).1 = 0) (v : Int32) : (mfs m σ).set k (.int v) = mfs m (sI σ k v) := by
  have hk2 := mr_lt (show (mr k).1 ≠ 9 by rw [hk]; decide)
  apply List.ext_getElem?
  intro i
  by_cases hi : i < 130
  · rw [mfs_at i hi]
    by_cases c : k = i
    · subst c
      rw [List.getElem?_set_self (by simp [mfs]; omega)]
      unfold fv
      rw [if_pos hk, gI_sI, if_pos rfl]
    · rw [List.getElem?_set_ne c, mfs_at i hi]
      unfold fv
      rw [gI_sI, if_neg (show ¬ i = k from fun q => c q.symm), gJ_sI]
  · rw [List.getElem?_eq_none (by simp [mfs]; omega), List.getElem?_eq_none (by simp [mfs]; omega)]
theorem mfs_sJ {k : Nat} (hk : (mr k).1 = 1) (v : Int64) : (mfs m σ).set k (.long v) = mfs m (sJ σ k v) := by
  have hk2 := mr_lt (show (mr k).1 ≠ 9 by rw [hk]; decide)
  apply List.ext_getElem?
  intro i
  by_cases hi : i < 130
  · rw [mfs_at i hi]
    by_cases c : k = i
    · subst c
      rw [List.getElem?_set_self (by simp [mfs]; omega)]
      unfold fv
      rw [if_neg (by rw [hk]; decide), if_pos hk, gJ_sJ, if_pos rfl]
    · rw [List.getElem?_set_ne c, mfs_at i hi]
      unfold fv
      rw [gJ_sJ, if_neg (show ¬ i = k from fun q => c q.symm), gI_sJ]
  · rw [List.getElem?_eq_none (by simp [mfs]; omega), List.getElem?_eq_none (by simp [mfs]; omega)]
theorem mfs_sA {k : Nat} (f : Nat → Int32) : mfs m (sA σ k f) = mfs m σ := rfl
theorem mfs_sB {k : Nat} (f : Nat → Int64) : mfs m (sB σ k f) = mfs m σ := rfl
theorem mfs_len : (mfs m σ).length = 130 := by simp [mfs]
theorem e_p (hm : m ≤ h.length) {k : Nat} (hk : k < 130) {v : Value} {σ' : px_S} (hf : (mfs m σ).set k v = mfs m σ') (ha : ∀ i, arr σ' i = arr σ i) : xp (mh m h σ) 12 k m v = some (mh m h σ') := by
  unfold xp
  rw [e_o hm, bs, if_pos (by rw [mfs_len]; exact Nat.blt_eq.mpr hk), hf]
  congr 1
  refine mh_set (i := 0) hm (by decide) _ ?_
  unfold mcs
  rw [List.set_cons_zero, show arr σ' = arr σ from funext ha]
theorem e_pI (hm : m ≤ h.length) {k : Nat} (hk : (mr k).1 = 0) (v : Int32) : xpI (mh m h σ) 12 k m v = some (mh m h (sI σ k v)) := e_p hm (mr_lt (show (mr k).1 ≠ 9 by rw [hk]; decide)) (mfs_sI hk v) (fun _ => rfl)
theorem e_pJ (hm : m ≤ h.length) {k : Nat} (hk : (mr k).1 = 1) (v : Int64) : xpJ (mh m h σ) 12 k m v = some (mh m h (sJ σ k v)) := e_p hm (mr_lt (show (mr k).1 ≠ 9 by rw [hk]; decide)) (mfs_sJ hk v) (fun _ => rfl)
theorem e_pZ (hm : m ≤ h.length) {k : Nat} (hk : (mr k).1 = 0) (c : Bool) : xpZ (mh m h σ) 12 k m (bI c) = some (mh m h (sI σ k (bI c))) := by
  unfold xpZ
  rw [if_pos (by cases c <;> decide)]
  exact e_pI hm hk _
theorem e_A (hm : m ≤ h.length) {k : Nat} (hk : (mr k).1 = 2) : xA (mh m h σ) (mr k).2.2.1 (m + (mr k).2.1) = some ((mr k).2.2.2, gA σ k) := by
  unfold xA
  rw [mh_a hm (mr_lt (show (mr k).1 ≠ 9 by rw [hk]; decide)) (by omega)]
  unfold arr
  rw [if_pos hk]
  exact if_pos rfl
theorem e_B (hm : m ≤ h.length) {k : Nat} (hk : (mr k).1 = 3) : xB (mh m h σ) (mr k).2.2.1 (m + (mr k).2.1) = some ((mr k).2.2.2, gB σ k) := by
  unfold xB
  rw [mh_a hm (mr_lt (show (mr k).1 ≠ 9 by rw [hk]; decide)) (by omega)]
  unfold arr
  rw [if_neg (by omega)]
  exact if_pos rfl
theorem mr_big : ∀ k, k < 130 → (mr k).2.2.2 < 2 ^ 31 := by decide +kernel
theorem e_aI (hm : m ≤ h.length) {k i : Nat} (hk : (mr k).1 = 2) (hi : i < (mr k).2.2.2) : xaI (mh m h σ) (mr k).2.2.1 (m + (mr k).2.1) (nI i) = some (gA σ k i) := xaI_at (e_A hm hk) (mr_big k (mr_lt (show (mr k).1 ≠ 9 by rw [hk]; decide))) hi
theorem e_aJ (hm : m ≤ h.length) {k i : Nat} (hk : (mr k).1 = 3) (hi : i < (mr k).2.2.2) : xaJ (mh m h σ) (mr k).2.2.1 (m + (mr k).2.1) (nI i) = some (gB σ k i) := by
  have hN := mr_big k (mr_lt (show (mr k).1 ≠ 9 by rw [hk]; decide))
  unfold xaJ
  rw [e_B hm hk, bs, if_neg (nI_in hi hN), nI_clamp (by omega)]
theorem mcs_set {k : Nat} (hk : k < 130) (h2 : 2 ≤ (mr k).1) {v : px_PE} {σ' : px_S} (hf : mfs m σ' = mfs m σ) (hv : arr σ' k = v) (ha : ∀ i, i ≠ k → arr σ' i = arr σ i) : (mcs m σ).set (mr k).2.1 v = mcs m σ' := by
  obtain ⟨e1, e2, e3⟩ := mA_of k hk h2
  obtain ⟨i, hi⟩ : ∃ i, (mr k).2.1 = i + 1 := ⟨(mr k).2.1 - 1, by omega⟩
  rw [hi, Nat.add_sub_cancel] at e3
  unfold mcs
  rw [hi, List.set_cons_succ, hf]
  congr 1
  apply List.ext_getElem?
  intro j
  rw [List.getElem?_map]
  by_cases c : i = j
  · subst c
    rw [List.getElem?_set_self (by simp [mA]; omega), e3]
    show some v = some (arr σ' k)
    rw [hv]
  · rw [List.getElem?_set_ne c, List.getElem?_map]
    by_cases hj : j < 87
    · cases hq : mA[j]? with
      | none => rfl
      | some x =>
        have hx : x ≠ k := by
          intro q
          apply c
          apply mA_inj i (by omega) j hj
          rw [hq, e3, q]
        show some (arr σ x) = some (arr σ' x)
        rw [ha x hx]
    · rw [List.getElem?_eq_none (by simp [mA]; omega)]
      rfl
theorem e_sI (hm : m ≤ h.length) {k i : Nat} (hk : (mr k).1 = 2) (hi : i < (mr k).2.2.2) (v : Int32) : xsI (mh m h σ) (mr k).2.2.1 (m + (mr k).2.1) (nI i) v = some (mh m h (sA σ k (upd (gA σ k) i v))) := by
  have hk2 := mr_lt (show (mr k).1 ≠ 9 by rw [hk]; decide)
  have hN := mr_big k hk2
  unfold xsI
  rw [e_A hm hk, bs, if_neg (nI_in hi hN), nI_clamp (by omega)]
  congr 1
  refine mh_set hm (mA_of k hk2 (by omega)).1 _ ?_
  refine mcs_set hk2 (by omega) rfl ?_ ?_
  · unfold arr
    rw [if_pos hk, gA_sA, if_pos rfl]
  · intro i hik
    unfold arr
    rw [gA_sA, if_neg hik, gB_sA]
theorem e_sJ (hm : m ≤ h.length) {k i : Nat} (hk : (mr k).1 = 3) (hi : i < (mr k).2.2.2) (v : Int64) : xsJ (mh m h σ) (mr k).2.2.1 (m + (mr k).2.1) (nI i) v = some (mh m h (sB σ k (vp_updL (gB σ k) i v))) := by
  have hk2 := mr_lt (show (mr k).1 ≠ 9 by rw [hk]; decide)
  have hN := mr_big k hk2
  unfold xsJ
  rw [e_B hm hk, bs, if_neg (nI_in hi hN), nI_clamp (by omega)]
  congr 1
  refine mh_set hm (mA_of k hk2 (by omega)).1 _ ?_
  refine mcs_set hk2 (by omega) rfl ?_ ?_
  · unfold arr
    rw [if_neg (by omega), gB_sB, if_pos rfl]
  · intro i hik
    unfold arr
    rw [gB_sB, if_neg hik, gA_sB]
end MST
