/-! what the tables say at an instruction -/
theorem pg_ent {mi pc : Nat} {i : Instr} {nx r1 r2 : Nat} (h : pg_cd mi pc = some (i, nx, r1, r2)) : (pc, i, nx, r1, r2) ∈ pg_L mi := by
  unfold pg_cd at h
  split at h
  next q hq =>
    have h1 := List.mem_of_find?_eq_some hq
    have h2 := List.find?_some hq
    simp only [beq_iff_eq] at h2
    obtain ⟨a, b⟩ := q
    simp only [Option.some.injEq] at h
    subst h
    simp only at h2
    subst h2
    exact h1
  next => cases h
theorem pg_dec {mi pc len : Nat} {i : Instr} {r1 r2 : Nat} (h : pg_cd mi pc = some (i, pc + len, r1, r2)) : decode (pg_by mi) pc = .ok (i, len) := by
  have h1 := pg_dall mi _ (pg_ent h)
  simp only [Nat.add_sub_cancel_left] at h1
  exact h1
theorem pg_chk {mi pc : Nat} {i : Instr} {nx r1 r2 : Nat} (h : pg_cd mi pc = some (i, nx, r1, r2)) : pg_ck mi (pc, i, nx, r1, r2) = true := pg_kall mi _ (pg_ent h)
theorem pg_ocl (L : List (List (Nat × Nat × Nat × Nat))) (n oc : Nat) (hL : L.length ≤ n) {z : Nat × Nat × Nat × Nat} (h : z ∈ L.getD oc []) : oc ∈ List.range n := by
  rw [List.mem_range]
  by_cases hc : oc < n
  · exact hc
  · rw [List.getD_eq_getElem?_getD, List.getElem?_eq_none (by omega)] at h
    exact absurd h List.not_mem_nil
theorem pg_ocl3 (L : List (List (Nat × Nat × Nat))) (n oc : Nat) (hL : L.length ≤ n) {z : Nat × Nat × Nat} (h : z ∈ L.getD oc []) : oc ∈ List.range n := by
  rw [List.mem_range]
  by_cases hc : oc < n
  · exact hc
  · rw [List.getD_eq_getElem?_getD, List.getElem?_eq_none (by omega)] at h
    exact absurd h List.not_mem_nil
theorem pg_own (mi : Nat) (h : mi < 399) : (pg_mn mi).cls = pg_cn (pg_oc mi) := by
  have h1 : ∀ m ∈ List.range 399, (pg_mn m).cls = pg_cn (pg_oc m) := by decide +kernel
  exact h1 mi (List.mem_range.mpr h)
theorem pg_lt {mi pc : Nat} {i : Instr} {nx r1 r2 : Nat} (h : pg_cd mi pc = some (i, nx, r1, r2)) : mi < 399 := by
  have h1 := pg_ent h
  by_cases hc : mi < 399
  · exact hc
  · exfalso
    unfold pg_L at h1
    by_cases h2 : mi / 16 < 25
    · have e1 : mi / 16 = 25 - 1 := by omega
      have e2 : mi % 16 = 0 ∨ mi % 16 = 1 ∨ mi % 16 = 2 ∨ mi % 16 = 3 ∨ mi % 16 = 4 ∨ mi % 16 = 5 ∨ mi % 16 = 6 ∨ mi % 16 = 7 ∨ mi % 16 = 8 ∨ mi % 16 = 9 ∨ mi % 16 = 10 ∨ mi % 16 = 11 ∨ mi % 16 = 12 ∨ mi % 16 = 13 ∨ mi % 16 = 14 ∨ mi % 16 = 15 := by omega
      rcases e2 with e2 | e2 | e2 | e2 | e2 | e2 | e2 | e2 | e2 | e2 | e2 | e2 | e2 | e2 | e2 | e2
      · first
        | omega
        | (rw [e1, e2] at h1; exact absurd h1 List.not_mem_nil)
      · first
        | omega
        | (rw [e1, e2] at h1; exact absurd h1 List.not_mem_nil)
      · first
        | omega
        | (rw [e1, e2] at h1; exact absurd h1 List.not_mem_nil)
      · first
        | omega
        | (rw [e1, e2] at h1; exact absurd h1 List.not_mem_nil)
      · first
        | omega
        | (rw [e1, e2] at h1; exact absurd h1 List.not_mem_nil)
      · first
        | omega
        | (rw [e1, e2] at h1; exact absurd h1 List.not_mem_nil)
      · first
        | omega
        | (rw [e1, e2] at h1; exact absurd h1 List.not_mem_nil)
      · first
        | omega
        | (rw [e1, e2] at h1; exact absurd h1 List.not_mem_nil)
      · first
        | omega
        | (rw [e1, e2] at h1; exact absurd h1 List.not_mem_nil)
      · first
        | omega
        | (rw [e1, e2] at h1; exact absurd h1 List.not_mem_nil)
      · first
        | omega
        | (rw [e1, e2] at h1; exact absurd h1 List.not_mem_nil)
      · first
        | omega
        | (rw [e1, e2] at h1; exact absurd h1 List.not_mem_nil)
      · first
        | omega
        | (rw [e1, e2] at h1; exact absurd h1 List.not_mem_nil)
      · first
        | omega
        | (rw [e1, e2] at h1; exact absurd h1 List.not_mem_nil)
      · first
        | omega
        | (rw [e1, e2] at h1; exact absurd h1 List.not_mem_nil)
      · first
        | omega
        | (rw [e1, e2] at h1; exact absurd h1 List.not_mem_nil)
    · rw [List.getD_eq_getElem?_getD (l := pg_LL), List.getElem?_eq_none (show pg_LL.length ≤ mi / 16 by show 25 ≤ _; omega)] at h1
      exact absurd h1 List.not_mem_nil
theorem pg_fld0 {mi idx ci k : Nat} (hm : mi < 399) (h : (pg_fk (pg_oc mi)).any (fun z => z.1 == idx && (z.2.1 == ci && z.2.2.1 == k)) = true) : ci < 16 ∧ k < pg_nf ci ∧ Cond.fieldLink (pg_mn mi).cls idx (pg_T ci k).1 (pg_T ci k).2.1 (pg_T ci k).2.2.1 ∈ pg_Ts := by
  obtain ⟨z, hz, hq⟩ := List.any_eq_true.mp h
  simp only [Bool.and_eq_true, beq_iff_eq] at hq
  obtain ⟨rfl, rfl, rfl⟩ := hq
  have h1 := pg_cfk_ok (pg_oc mi) (pg_ocl pg_fkL 21 _ (by decide) hz) z hz
  simp only [pg_cfk, Bool.and_eq_true, decide_eq_true_eq] at h1
  rw [pg_own mi hm]
  exact ⟨h1.1, h1.2.1, pg_okw_in h1.2.2⟩
theorem pg_fld {mi pc idx nx ci k : Nat} (h : pg_cd mi pc = some (.getfield idx, nx, ci, k)) : ∃ C T N, pg_cl[ci]? = some (C, T, N) ∧ k < N ∧ (∀ w ∈ u_ws C T N, w ∈ pg_Ts) ∧ Cond.fieldLink (pg_mn mi).cls idx (T k).1 (T k).2.1 (T k).2.2.1 ∈ pg_Ts := by
  obtain ⟨h1, h2, h3⟩ := pg_fld0 (pg_lt h) (pg_chk h)
  exact ⟨_, _, _, pg_clb h1, h2, pg_cin (pg_clb h1), h3⟩
theorem pg_fldp {mi pc idx nx ci k : Nat} (h : pg_cd mi pc = some (.putfield idx, nx, ci, k)) : ∃ C T N, pg_cl[ci]? = some (C, T, N) ∧ k < N ∧ (∀ w ∈ u_ws C T N, w ∈ pg_Ts) ∧ Cond.fieldLink (pg_mn mi).cls idx (T k).1 (T k).2.1 (T k).2.2.1 ∈ pg_Ts ∧ ((T k).2.2.2 = true → (pg_mn mi).name = "<init>" ∧ (T k).1 = (pg_mn mi).cls) := by
  have h0 := pg_chk h
  simp only [pg_ck, Bool.and_eq_true] at h0
  obtain ⟨h1, h2, h3⟩ := pg_fld0 (pg_lt h) h0.1
  refine ⟨_, _, _, pg_clb h1, h2, pg_cin (pg_clb h1), h3, fun hf => ?_⟩
  have h4 := h0.2
  rw [hf] at h4
  simpa using h4
theorem pg_new {mi pc idx nx ci r2 : Nat} {C : String} {T : u_T} {N : Nat} (h : pg_cd mi pc = some (.new idx, nx, ci, r2)) (hc : pg_cl[ci]? = some (C, T, N)) : Cond.classLink (pg_mn mi).cls idx C ∈ pg_Ts ∧ Cond.instantiable C (pg_in ci) ∈ pg_Ts ∧ Cond.initialized C ∈ pg_Ts := by
  have h0 := pg_chk h
  obtain ⟨hlt, rfl, rfl, rfl⟩ := pg_cla hc
  simp only [pg_ck, Bool.or_eq_true, decide_eq_true_eq] at h0
  rcases h0 with h0 | h0
  · omega
  · obtain ⟨z, hz, hq⟩ := List.any_eq_true.mp h0
    simp only [Bool.and_eq_true, beq_iff_eq] at hq
    obtain ⟨rfl, rfl⟩ := hq
    have h1 := pg_cnw_ok (pg_oc mi) (pg_ocl3 pg_nwL 21 _ (by decide) hz) z hz
    simp only [pg_cnw, Bool.and_eq_true, decide_eq_true_eq] at h1
    rw [pg_own mi (pg_lt h)]
    exact ⟨pg_okw_in h1.2, pg_cii hlt⟩
theorem pg_arrw : pg_okw 68 (.arrayClass .byte) = true ∧ pg_okw 255 (.arrayClass .int) = true ∧ pg_okw 624 (.arrayClass .long) = true ∧ pg_okw 623 (.arrayClass .boolean) = true := by decide +kernel
theorem pg_arr {mi pc nx t r2 : Nat} {a : ArrayType} (h : pg_cd mi pc = some (.newarray a, nx, t, r2)) : Cond.arrayClass (newarray.typeOf a) ∈ pg_Ts := by
  have h0 := pg_chk h
  simp only [pg_ck, decide_eq_true_eq] at h0
  obtain ⟨h1, h2, h3, h4⟩ := pg_arrw
  cases a
  · exact pg_okw_in h4
  all_goals first
    | exact pg_okw_in h1
    | exact pg_okw_in h2
    | exact pg_okw_in h3
    | (exfalso
       have h5 := List.mem_of_getElem? h0
       revert h5
       decide)
theorem pg_arrq {mi pc idx nx t r2 : Nat} {C : String} (h : pg_cd mi pc = some (.anewarray idx, nx, t, r2)) (ht : pg_ty[t]? = some (.object C)) : Cond.classLink (pg_mn mi).cls idx C ∈ pg_Ts ∧ C ∈ pg_Ao := by
  have h0 := pg_chk h
  simp only [pg_ck] at h0
  obtain ⟨z, hz, hq⟩ := List.any_eq_true.mp h0
  simp only [Bool.and_eq_true, beq_iff_eq] at hq
  obtain ⟨rfl, rfl⟩ := hq
  have h1 := pg_caq_ok (pg_oc mi) (pg_ocl3 pg_aqL 21 _ (by decide) hz) z hz
  unfold pg_caq at h1
  rw [ht] at h1
  simp only [Bool.and_eq_true, decide_eq_true_eq] at h1
  rw [pg_own mi (pg_lt h)]
  exact ⟨pg_okw_in h1.2, h1.1⟩
theorem pg_ldc {mi pc idx nx r1 r2 : Nat} {v : Int32} (h : pg_cd mi pc = some (.ldc idx, nx, r1, r2)) (h2 : ¬ r2 = 1) (hv : pg_ki[r1]? = some v) : Cond.constant (pg_mn mi).cls idx v ∈ pg_Ts := by
  have h0 := pg_chk h
  simp only [pg_ck, Bool.or_eq_true, decide_eq_true_eq] at h0
  obtain ⟨z, hz, hq⟩ := List.any_eq_true.mp (h0.resolve_left h2)
  simp only [Bool.and_eq_true, beq_iff_eq] at hq
  obtain ⟨rfl, rfl⟩ := hq
  have h1 := pg_cli_ok (pg_oc mi) (pg_ocl3 pg_liL 21 _ (by decide) hz) z hz
  unfold pg_cli at h1
  rw [hv] at h1
  rw [pg_own mi (pg_lt h)]
  exact pg_okw_in h1
theorem pg_ldcw {mi pc idx nx r1 r2 : Nat} {v : Int32} (h : pg_cd mi pc = some (.ldc_w idx, nx, r1, r2)) (h2 : ¬ r2 = 1) (hv : pg_ki[r1]? = some v) : Cond.constant (pg_mn mi).cls idx v ∈ pg_Ts := by
  have h0 := pg_chk h
  simp only [pg_ck, Bool.or_eq_true, decide_eq_true_eq] at h0
  obtain ⟨z, hz, hq⟩ := List.any_eq_true.mp (h0.resolve_left h2)
  simp only [Bool.and_eq_true, beq_iff_eq] at hq
  obtain ⟨rfl, rfl⟩ := hq
  have h1 := pg_cli_ok (pg_oc mi) (pg_ocl3 pg_liL 21 _ (by decide) hz) z hz
  unfold pg_cli at h1
  rw [hv] at h1
  rw [pg_own mi (pg_lt h)]
  exact pg_okw_in h1
theorem pg_ldc2 {mi pc idx nx r1 r2 : Nat} {v : Int64} (h : pg_cd mi pc = some (.ldc2_w idx, nx, r1, r2)) (hv : pg_kl[r1]? = some v) : Cond.constantLong (pg_mn mi).cls idx v ∈ pg_Ts := by
  have h0 := pg_chk h
  simp only [pg_ck] at h0
  obtain ⟨z, hz, hq⟩ := List.any_eq_true.mp h0
  simp only [Bool.and_eq_true, beq_iff_eq] at hq
  obtain ⟨rfl, rfl⟩ := hq
  have h1 := pg_cll_ok (pg_oc mi) (pg_ocl3 pg_llL 21 _ (by decide) hz) z hz
  unfold pg_cll at h1
  rw [hv] at h1
  rw [pg_own mi (pg_lt h)]
  exact pg_okw_in h1
theorem pg_gst {mi pc idx nx j r2 : Nat} (h : pg_cd mi pc = some (.getstatic idx, nx, j, r2)) : ∃ C n d, (C, n, d, j) ∈ pg_sf ∧ (Cond.fieldLink (pg_mn mi).cls idx C n d ∈ pg_Ts ∨ ∃ host, Cond.fieldLinkNest (pg_mn mi).cls idx C n d host ∈ pg_Ns) := by
  have h0 := pg_chk h
  simp only [pg_ck, Bool.or_eq_true] at h0
  rw [pg_own mi (pg_lt h)]
  rcases h0 with h0 | h0
  · obtain ⟨z, hz, hq⟩ := List.any_eq_true.mp h0
    simp only [Bool.and_eq_true, beq_iff_eq] at hq
    obtain ⟨rfl, rfl⟩ := hq
    have h1 := pg_cgs_ok (pg_oc mi) (pg_ocl3 pg_gsL 21 _ (by decide) hz) z hz
    unfold pg_cgs at h1
    split at h1
    next f hf =>
      simp only [Bool.and_eq_true, decide_eq_true_eq] at h1
      exact ⟨f.1, f.2.1, f.2.2.1, by rw [← h1.1]; exact List.mem_of_getElem? hf, Or.inl (pg_okw_in h1.2)⟩
    next => cases h1
  · obtain ⟨z, hz, hq⟩ := List.any_eq_true.mp h0
    simp only [Bool.and_eq_true, beq_iff_eq] at hq
    obtain ⟨rfl, rfl⟩ := hq
    have h1 := pg_cgh_ok (pg_oc mi) (pg_ocl3 pg_ghL 21 _ (by decide) hz) z hz
    unfold pg_cgh at h1
    split at h1
    next f hf =>
      simp only [Bool.and_eq_true, decide_eq_true_eq] at h1
      exact ⟨f.1, f.2.1, f.2.2.1, by rw [← h1.1]; exact List.mem_of_getElem? hf, Or.inr ⟨_, pg_okn_in h1.2⟩⟩
    next => cases h1
/-- what the tables must say of a callee -/
def px_M (mj : Nat) : Prop := Cond.code (pg_mn mj) (pg_by mj) (pg_ml mj) (pg_rt mj) ∈ pg_Ts ∧ Cond.initialized (pg_mn mj).cls ∈ pg_Ts ∧ plainName (pg_mn mj).cls = true ∧ (pg_ml mj ≤ 45 ∧ pg_xt mj = []) ∧ ((pg_mn mj).cls ≠ "java/lang/invoke/MethodHandle" ∧ (pg_mn mj).cls ≠ "java/lang/invoke/VarHandle") ∧ (parseMethodDescriptor (pg_mn mj).desc).map (fun d => d.parameters.length) = some (pg_np mj)
/-- a method's link, from its own class or from a nest mate -/
def px_lk (mi idx mj : Nat) : Prop := Cond.methodLink (pg_mn mi).cls idx (pg_mn mj) ∈ pg_Ts ∨ ∃ host, Cond.methodLinkNest (pg_mn mi).cls idx (pg_mn mj) host ∈ pg_Ns
def pg_ivs (mi idx mj : Nat) : Prop := px_M mj ∧ Cond.static (pg_mn mj) ∈ pg_Ts ∧ px_lk mi idx mj
def pg_ivv (mi idx mj : Nat) : Prop := px_M mj ∧ Cond.instanceMethod (pg_mn mj) ∈ pg_Ts ∧ (∀ (args : Array Value) (s : State), (∀ w ∈ tables_1, w.before args s = true) → (Cond.selects (pg_mn mj).cls (pg_mn mj) (pg_mn mj)).before args s = true) ∧ px_lk mi idx mj
def pg_ivi (mi idx mj : Nat) : Prop := px_M mj ∧ pg_rt mj = none ∧ (pg_mn mj).name = "<init>" ∧ Cond.instanceMethod (pg_mn mj) ∈ pg_Ts ∧ px_lk mi idx mj
theorem pg_Mok (mj : Nat) (h : mj < 382) : px_M mj := by
  have h1 := pg_mall mj h
  obtain ⟨ix, h2⟩ := pg_wall mj h
  simp only [pg_mck, Bool.and_eq_true, decide_eq_true_eq] at h1
  exact ⟨pg_at h2 rfl, pg_okw_in h1.1, h1.2.1, ⟨h1.2.2.1, if_pos h⟩, ⟨h1.2.2.2.1, h1.2.2.2.2.1⟩, h1.2.2.2.2.2.1⟩
theorem pg_lk0 {mi idx mj : Nat} (hm : mi < 399) (h : (pg_mk (pg_oc mi)).any (fun z => z.1 == idx && z.2.1 == mj) = true ∨ (pg_mh (pg_oc mi)).any (fun z => z.1 == idx && z.2.1 == mj) = true) : px_lk mi idx mj := by
  unfold px_lk
  rw [pg_own mi hm]
  rcases h with h | h
  · obtain ⟨z, hz, hq⟩ := List.any_eq_true.mp h
    simp only [Bool.and_eq_true, beq_iff_eq] at hq
    obtain ⟨rfl, rfl⟩ := hq
    have h1 := pg_cmk_ok (pg_oc mi) (pg_ocl3 pg_mkL 21 _ (by decide) hz) z hz
    exact Or.inl (pg_okw_in h1)
  · obtain ⟨z, hz, hq⟩ := List.any_eq_true.mp h
    simp only [Bool.and_eq_true, beq_iff_eq] at hq
    obtain ⟨rfl, rfl⟩ := hq
    have h1 := pg_cmh_ok (pg_oc mi) (pg_ocl3 pg_mhL 21 _ (by decide) hz) z hz
    exact Or.inr ⟨_, pg_okn_in h1⟩
theorem pg_spge (oc : Nat) : ∀ z ∈ pg_sp oc, 9000 ≤ z.2.1 := by
  intro z hz
  have h1 : ∀ o ∈ List.range 21, ∀ z ∈ pg_sp o, 9000 ≤ z.2.1 := by decide +kernel
  exact h1 oc (pg_ocl3 pg_spLL 21 _ (by decide) hz) z hz
theorem pg_spc {mi pc nx s r2 idx : Nat} (h : pg_cd mi pc = some (.invokestatic idx, nx, s, r2) ∨ pg_cd mi pc = some (.invokespecial idx, nx, s, r2) ∨ pg_cd mi pc = some (.invokevirtual idx, nx, s, r2)) (hs : Nat.blt 399 s = true) (hs2 : Nat.blt s 9990 = true) : Cond.methodLink (pg_mn mi).cls idx (pg_spn s) ∈ pg_Ts := by
  have hlt : 399 < s := Nat.le_of_ble_eq_true hs
  have hlt2 : s < 9990 := Nat.le_of_ble_eq_true hs2
  have key : mi < 399 → (pg_sp (pg_oc mi)).any (fun z => z.1 == idx && z.2.1 == s) = true → Cond.methodLink (pg_mn mi).cls idx (pg_spn s) ∈ pg_Ts := by
    intro hm h0
    obtain ⟨z, hz, hq⟩ := List.any_eq_true.mp h0
    simp only [Bool.and_eq_true, beq_iff_eq] at hq
    obtain ⟨rfl, rfl⟩ := hq
    have h1 := pg_csp_ok (pg_oc mi) (pg_ocl3 pg_spLL 21 _ (by decide) hz) z hz
    rw [pg_own mi hm]
    exact pg_okw_in h1
  have no : ¬ ((pg_mk (pg_oc mi)).any (fun z => z.1 == idx && z.2.1 == s) = true ∨ (pg_mh (pg_oc mi)).any (fun z => z.1 == idx && z.2.1 == s) = true) := by
    have h1 : ∀ o ∈ List.range 21, (∀ z ∈ pg_mk o, z.2.1 ≤ 399) ∧ ∀ z ∈ pg_mh o, z.2.1 ≤ 399 := by decide +kernel
    rintro (h2 | h2)
    · obtain ⟨z, hz, hq⟩ := List.any_eq_true.mp h2
      simp only [Bool.and_eq_true, beq_iff_eq] at hq
      have := (h1 (pg_oc mi) (pg_ocl3 pg_mkL 21 _ (by decide) hz)).1 z hz
      omega
    · obtain ⟨z, hz, hq⟩ := List.any_eq_true.mp h2
      simp only [Bool.and_eq_true, beq_iff_eq] at hq
      have := (h1 (pg_oc mi) (pg_ocl3 pg_mhL 21 _ (by decide) hz)).2 z hz
      omega
  rcases h with h | h | h
  all_goals
    have h0 := pg_chk h
    simp only [pg_ck, Bool.or_eq_true, Bool.and_eq_true, decide_eq_true_eq] at h0
    rcases h0 with (h0 | h0) | h0
    · omega
    · exact key (pg_lt h) h0
    · exact absurd h0.2 no
theorem pg_ivs_ok {mi pc idx nx mj r2 : Nat} (h : pg_cd mi pc = some (.invokestatic idx, nx, mj, r2)) (hj : Nat.blt mj 382 = true) : pg_ivs mi idx mj := by
  have hlt : mj < 382 := Nat.le_of_ble_eq_true hj
  have h0 := pg_chk h
  simp only [pg_ck, Bool.or_eq_true, Bool.and_eq_true, decide_eq_true_eq] at h0
  have h1 : (pg_mf mj).2.1 = 0 ∧ ((pg_mk (pg_oc mi)).any (fun z => z.1 == idx && z.2.1 == mj) = true ∨ (pg_mh (pg_oc mi)).any (fun z => z.1 == idx && z.2.1 == mj) = true) := by
    rcases h0 with (h0 | h0) | h0
    · omega
    · exfalso
      obtain ⟨z, hz, hq⟩ := List.any_eq_true.mp h0
      simp only [Bool.and_eq_true, beq_iff_eq] at hq
      have h7 := pg_spge (pg_oc mi) z hz
      omega
    · exact ⟨h0.1.resolve_left (by omega), h0.2⟩
  have h2 := pg_mall mj hlt
  simp only [pg_mck, Bool.and_eq_true, h1.1] at h2
  exact ⟨pg_Mok mj hlt, pg_okw_in h2.2.2.2.2.2.2, pg_lk0 (pg_lt h) h1.2⟩
theorem pg_ivi_ok {mi pc idx nx mj r2 : Nat} (h : pg_cd mi pc = some (.invokespecial idx, nx, mj, r2)) (hj : Nat.blt mj 382 = true) : pg_ivi mi idx mj := by
  have hlt : mj < 382 := Nat.le_of_ble_eq_true hj
  have h0 := pg_chk h
  simp only [pg_ck, Bool.or_eq_true, Bool.and_eq_true, decide_eq_true_eq] at h0
  have h1 : (pg_mf mj).2.1 = 2 ∧ ((pg_mk (pg_oc mi)).any (fun z => z.1 == idx && z.2.1 == mj) = true ∨ (pg_mh (pg_oc mi)).any (fun z => z.1 == idx && z.2.1 == mj) = true) := by
    rcases h0 with (h0 | h0) | h0
    · omega
    · exfalso
      obtain ⟨z, hz, hq⟩ := List.any_eq_true.mp h0
      simp only [Bool.and_eq_true, beq_iff_eq] at hq
      have h7 := pg_spge (pg_oc mi) z hz
      omega
    · exact ⟨h0.1.resolve_left (by omega), h0.2⟩
  have h2 := pg_mall mj hlt
  simp only [pg_mck, Bool.and_eq_true, h1.1, decide_eq_true_eq] at h2
  have h3 := h2.2.2.2.2.2.2
  exact ⟨pg_Mok mj hlt, h3.2.1, h3.2.2, pg_okw_in h3.1, pg_lk0 (pg_lt h) h1.2⟩
theorem pg_ivv_ok {mi pc idx nx mj r2 : Nat} (h : pg_cd mi pc = some (.invokevirtual idx, nx, mj, r2)) (hj : Nat.blt mj 382 = true) : pg_ivv mi idx mj := by
  have hlt : mj < 382 := Nat.le_of_ble_eq_true hj
  have h0 := pg_chk h
  simp only [pg_ck, Bool.or_eq_true, Bool.and_eq_true, decide_eq_true_eq] at h0
  have h1 : (pg_mf mj).2.1 = 1 ∧ ((pg_mk (pg_oc mi)).any (fun z => z.1 == idx && z.2.1 == mj) = true ∨ (pg_mh (pg_oc mi)).any (fun z => z.1 == idx && z.2.1 == mj) = true) := by
    rcases h0 with (h0 | h0) | h0
    · omega
    · exfalso
      obtain ⟨z, hz, hq⟩ := List.any_eq_true.mp h0
      simp only [Bool.and_eq_true, beq_iff_eq] at hq
      have h7 := pg_spge (pg_oc mi) z hz
      omega
    · exact ⟨h0.1.resolve_left (by omega), h0.2⟩
  have h2 := pg_mall mj hlt
  simp only [pg_mck, Bool.and_eq_true, h1.1] at h2
  have h3 := h2.2.2.2.2.2.2
  have hM := pg_Mok mj hlt
  refine ⟨hM, pg_okw_in h3.1, fun args s hts => ?_, pg_lk0 (pg_lt h) h1.2⟩
  have h4 := h3.2
  split at h4
  next => exact hts _ (List.mem_filter.mp (pg_okw_in h4)).1
  next =>
    simp only [Bool.and_eq_true, decide_eq_true_eq] at h4
    have h5 := pg_cii h4.2.1
    rw [← h4.2.2] at h5
    exact k2_selects_private hM.2.2.2.2.1 (hts _ (List.mem_filter.mp h5.1).1) (hts _ (pg_tb_in h4.1)) (hts _ (List.mem_filter.mp (pg_okw_in h3.1)).1)
