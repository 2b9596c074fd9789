/-! THE CLAIM OUT OF ONE WALK OF THE LAW'S BODY over the pure machine: what the entry gives -/
def px_gk (g : px_G) : Prop := ∀ j, j + 1 < pg_nc → px_ct g (j + 1) = pg_ctv j
def pg_F : List Cond := flatC (Jvm.Cond.and given_1 narrow_1)
def pg_sck (i : Nat) (q : String × String × String × Nat) : Bool :=
  decide (q.2.2.2 = i + 1) && (decide (Cond.arrayOf (.static q.1 q.2.1 q.2.2.1) (pg_ctv i).1 ∈ pg_F) && (decide (Cond.eq (.length (.static q.1 q.2.1 q.2.2.1)) (.int (Int32.ofNat (pg_ctv i).2.1)) ∈ pg_F) && ((List.range (pg_ctv i).2.1).all (fun j => decide (Cond.eq (.elem (.static q.1 q.2.1 q.2.2.1) (.int (Int32.ofNat j))) (.int ((pg_ctv i).2.2 j)) ∈ pg_F)) && (decide (pg_tb (pg_slx.getD i 0) = some (.laysStatic q.1 q.2.1 q.2.2.1)) && (decide (pg_tb pg_inh = some (.initialized q.1)) && decide ((pg_ctv i).2.1 < 2 ^ 31))))))
theorem pg_sckall : (List.range pg_sf.length).all (fun i => pg_sck i (pg_sf.getD i ("", "", "", 0))) = true := by decide +kernel
def pg_kck (i : Nat) (q : String × Nat × String) : Bool := decide (Cond.exactly (.string q.1 q.2.1) "java/lang/String" ∈ pg_F) && decide (pg_tb (pg_srx.getD i 0) = some (.stringRef q.1 q.2.1 q.2.2))
theorem pg_kckall : (List.range pg_ksl.length).all (fun i => pg_kck i (pg_ksl.getD i ("", 0, ""))) = true := by decide +kernel
theorem pg_aock : (List.range pg_Ao.length).all (fun i => decide (pg_tb (pg_aox.getD i 0) = some (.arrayOver (.object (pg_Ao.getD i ""))))) = true := by decide +kernel
theorem px_AOw {args : Array Value} {s : State} (hts : ∀ w ∈ tables_1, w.before args s = true) (C : String) (h : C ∈ pg_Ao) : (Cond.arrayOver (.object C)).before args s = true := by
  obtain ⟨i, hi, rfl⟩ := List.getElem_of_mem h
  have h1 := List.all_eq_true.mp pg_aock i (List.mem_range.mpr hi)
  rw [List.getD_eq_getElem?_getD (l := pg_Ao), List.getElem?_eq_getElem hi] at h1
  exact hts _ (pg_tb_in (of_decide_eq_true h1))
theorem px_arrs {args : Array Value} {s : State} (hts : ∀ w ∈ tables_1, w.before args s = true) : ∃ ca : Nat → ClassId, ∀ t ty, pg_ty[t]? = some ty → ArrOfT s (ca t) ty ∧ va_RA s (ca t) ty := by
  have h0 : ∀ t : Nat, ∃ cA : ClassId, ∀ ty, pg_ty[t]? = some ty → ArrOfT s cA ty ∧ va_RA s cA ty := by
    intro t
    cases ht : pg_ty[t]? with
    | none => exact ⟨0, fun ty h => by cases h⟩
    | some ty =>
      have hm := List.mem_of_getElem? ht
      have prim : ∀ ty, Cond.arrayClass ty ∈ pg_Ts → (∀ C, ty ≠ .object C) → ∃ cA : ClassId, ArrOfT s cA ty ∧ va_RA s cA ty := by
        intro ty h1 h2
        obtain ⟨cA, k, comp, g1, g2, g3⟩ := Cond.arrayClass_spec (hts _ (List.mem_filter.mp h1).1)
        refine ⟨cA, fun n z => ⟨fun k h => (by cases h), k, g2, comp, g3⟩, ?_⟩
        cases ty <;> first | exact absurd rfl (h2 _) | exact g1
      have ref : ∀ C, C ∈ pg_Ao → ∃ cA : ClassId, ArrOfT s cA (.object C) ∧ va_RA s cA (.object C) := by
        intro C h1
        obtain ⟨comp, cA, k, g1, g2, g3, g4, g5⟩ := Cond.arrayOver_spec (px_AOw hts C h1)
        exact ⟨cA, fun n z => ⟨fun k h => (by cases h), k, g3, comp, g4⟩, k, comp, g3, g4, g1, g5⟩
      have h1 : ∃ cA : ClassId, ArrOfT s cA ty ∧ va_RA s cA ty := by
        obtain ⟨a1, a2, a3, a4⟩ := pg_arrw
        simp only [pg_ty, List.mem_cons, List.not_mem_nil, or_false] at hm
        rcases hm with rfl | rfl | rfl | rfl | rfl | rfl | rfl
        · exact prim _ (pg_okw_in a1) (fun C h => by cases h)
        · exact prim _ (pg_okw_in a2) (fun C h => by cases h)
        · exact prim _ (pg_okw_in a3) (fun C h => by cases h)
        · exact prim _ (pg_okw_in a4) (fun C h => by cases h)
        · exact ref _ (by decide)
        · exact ref _ (by decide)
        · exact ref _ (by decide)
      obtain ⟨cA, h2⟩ := h1
      exact ⟨cA, fun ty' h => by cases h; exact h2⟩
  exact ⟨fun t => Classical.choose (h0 t), fun t => Classical.choose_spec (h0 t)⟩
theorem px_clss {args : Array Value} {s : State} (hts : ∀ w ∈ tables_1, w.before args s = true) : ∃ D : va_G, ∀ (c : Nat) (q : vw_C), pg_cl[c]? = some q → u_Kn s q.1 q.2.1 q.2.2 (D.1 c) (D.2 c) := by
  have hts' : ∀ w ∈ pg_Ts, w.before args s = true := fun w hw => hts w (List.mem_filter.mp hw).1
  have h0 : ∀ c : Nat, ∃ z : ClassId × (Nat → Nat), ∀ q : vw_C, pg_cl[c]? = some q → u_Kn s q.1 q.2.1 q.2.2 z.1 z.2 := by
    intro c
    cases hc : pg_cl[c]? with
    | none => exact ⟨(0, fun _ => 0), fun q h => by cases h⟩
    | some q =>
      obtain ⟨C, T, N⟩ := q
      have h2 := pg_cin hc
      obtain ⟨hlt, h3, -, -⟩ := pg_cla hc
      have h4 := pg_cii hlt
      rw [← h3] at h4
      obtain ⟨cC, iS, h1⟩ := u_known (ws := pg_Ts) hts' h2 (hts' _ h4.1)
      exact ⟨(cC, iS), fun q' h => by cases h; exact h1⟩
  exact ⟨(fun c => (Classical.choose (h0 c)).1, fun c => (Classical.choose (h0 c)).2), fun c => Classical.choose_spec (h0 c)⟩
theorem px_cons {args : Array Value} {s : State} {A : Nat → Prop} (hts : ∀ w ∈ tables_1, w.before args s = true) (hg : (Jvm.Cond.and given_1 narrow_1).before args s = true) (hA : ∀ a : Nat, a < s.heap.size → ¬ A a) : ∃ ad : Nat → Nat, ∀ i q, pg_sf[i]? = some q → q.2.2.2 = i + 1 ∧ va_T (pg_ctv i).1 (ad i) (pg_ctv i).2.1 (fun j => .int ((pg_ctv i).2.2 j)) A s s.heap ∧ va_Z q.1 q.2.1 q.2.2.1 (.ref (ad i)) A s s.heap := by
  have hF := flat_of_before _ hg
  have h0 : ∀ i : Nat, ∃ a : Nat, ∀ q, pg_sf[i]? = some q → q.2.2.2 = i + 1 ∧ va_T (pg_ctv i).1 a (pg_ctv i).2.1 (fun j => .int ((pg_ctv i).2.2 j)) A s s.heap ∧ va_Z q.1 q.2.1 q.2.2.1 (.ref a) A s s.heap := by
    intro i
    cases hi : pg_sf[i]? with
    | none => exact ⟨0, fun q h => by cases h⟩
    | some q =>
      have hlt : i < pg_sf.length := (List.getElem?_eq_some_iff.mp hi).1
      have h1 := List.all_eq_true.mp pg_sckall i (List.mem_range.mpr hlt)
      rw [List.getD_eq_getElem?_getD, hi] at h1
      simp only [Option.getD_some, pg_sck, Bool.and_eq_true, decide_eq_true_eq, List.all_eq_true, List.mem_range] at h1
      obtain ⟨k1, k2, k3, k4, k5, k6, k7⟩ := h1
      obtain ⟨t, ht, hT⟩ := va_Tof (f := fun j => .int ((pg_ctv i).2.2 j)) (A := A) k7 (hF _ k2) (va_eqt (hF _ k3)) (fun j hj => va_eqt (hF _ (k4 j hj))) hA
      exact ⟨t, fun q' h => by cases h; exact ⟨k1, hT, va_Zref (hts _ (pg_tb_in k5)) (hts _ (pg_tb_in k6)) ht hA⟩⟩
  exact ⟨fun t => Classical.choose (h0 t), fun t => Classical.choose_spec (h0 t)⟩
theorem px_strs {args : Array Value} {s : State} (hts : ∀ w ∈ tables_1, w.before args s = true) (hg : (Jvm.Cond.and given_1 narrow_1).before args s = true) : ∃ ad : Nat → Nat, ∀ i q, pg_ksl[i]? = some q → vk_R q.1 q.2.1 q.2.2 (ad i) s := by
  have hF := flat_of_before _ hg
  have h0 : ∀ i : Nat, ∃ a : Nat, ∀ q, pg_ksl[i]? = some q → vk_R q.1 q.2.1 q.2.2 a s := by
    intro i
    cases hi : pg_ksl[i]? with
    | none => exact ⟨0, fun q h => by cases h⟩
    | some q =>
      have hlt : i < pg_ksl.length := (List.getElem?_eq_some_iff.mp hi).1
      have h1 := List.all_eq_true.mp pg_kckall i (List.mem_range.mpr hlt)
      rw [List.getD_eq_getElem?_getD, hi] at h1
      simp only [Option.getD_some, pg_kck, Bool.and_eq_true, decide_eq_true_eq] at h1
      obtain ⟨a, c, cA, kA, q1, -⟩ := Cond.exactly_spec (hF _ h1.1)
      exact ⟨a, fun q' h => by cases h; exact vk_R.of (hts _ (pg_tb_in h1.2)) q1⟩
  exact ⟨fun t => Classical.choose (h0 t), fun t => Classical.choose_spec (h0 t)⟩
def lw_At (p : Program) (s : State) (m : MethodId) (meth : Method) (c : Code) (b L : Nat) (xs : Nat → Int32) : Prop :=
  p.tables.exec = Jvm.exec ∧ c.code = code ∧ meth.sig.returnType = ret ∧ c.maxLocals = 8 ∧ s.vm.findClass "LinkHouseLaw" = some m.cls ∧ (∀ w ∈ tables_1, w.before #[Value.ref b] s = true) ∧ va_X b L xs s s.heap ∧ b < s.heap.size ∧ meth.locks = false ∧ (Jvm.Cond.and given_1 narrow_1).before #[Value.ref b] s = true ∧ meth.name = "law" ∧ c.exceptionTable.isEmpty = true
theorem px_entry {p : Program} {s : State} {m : MethodId} {meth : Method} {c : Code} {b L : Nat} {xs : Nat → Int32} (hL : L ≤ 2048) (C0 : lw_At p s m meth c b L xs) : ∃ g : px_G, px_ct g 0 = (.int, L, xs) ∧ px_gk g ∧ px_sa g 0 = b ∧ px_b g = s.heap.size ∧ px_C g 1300 m_L_law p room_1 s m #[Value.ref b] meth c := by
  obtain ⟨hx, hb, hrt, hml, hown, hts, hX, hbl, hlk, hgv, hnm, hxt⟩ := C0
  obtain ⟨ca, hca⟩ := px_arrs hts
  obtain ⟨D, hD⟩ := px_clss hts
  have hA : ∀ a : Nat, a < s.heap.size → ¬ (s.heap.size ≤ a) := fun a h => Nat.not_le.mpr h
  obtain ⟨ad, had⟩ := px_cons (A := fun a => s.heap.size ≤ a) hts hgv hA
  obtain ⟨as, has⟩ := px_strs hts hgv
  let g : px_G := ((D, s.heap.size, (fun k => if k = 0 then b else if k < pg_nc then ad (k - 1) else as (k - pg_nc)), ca, (fun k => if k = 0 then (.int, L, xs) else pg_ctv (k - 1))), s)
  have hts' : ∀ w ∈ pg_Ts, w.before #[Value.ref b] s = true := fun w hw => hts w (List.mem_filter.mp hw).1
  refine ⟨g, rfl, fun j hj => by show (if j + 1 = 0 then ((.int, L, xs) : FieldType × Nat × (Nat → Int32)) else pg_ctv (j + 1 - 1)) = _; rw [if_neg (by omega), Nat.add_sub_cancel], rfl, rfl, ?_⟩
  have hsz : pg_nc = pg_sf.length + 1 := by decide
  refine ⟨hx, hb, hml, hrt, hown, hts', hlk, hnm, ⟨hD, fun k q hk => ?_⟩, Nat.le_refl _, ⟨fun j hj => ?_, fun q hq => ?_⟩, by show 1300 ≤ 2048; decide, by show 64 * 1300 ≤ 84000; decide, ⟨fun w hw => ?_, fun C hC => va_AO.of (px_AOw hts C hC)⟩, ⟨State.WarmedH.refl s, fun q _ => rfl, ⟨⟨#[Value.ref b], hts, hgv⟩, fun i q hi => ?_, rfl⟩, fun q cell hq hc => ?_⟩, ?_⟩
  · have hlt : k < pg_ty.length := by
      have := (List.getElem?_eq_some_iff.mp hk).1
      simpa [px_tys] using this
    have h1 := px_tys_at (g := g) (List.getElem?_eq_getElem hlt)
    cases hk.symm.trans h1
    exact hca k _ (List.getElem?_eq_getElem hlt)
  · cases j with
    | zero =>
      obtain ⟨scr, x1, x2, x3, x4, x5⟩ := hX
      refine ⟨scr, x1, x2, x3, by rw [x4]; exact Nat.le_refl _, by rw [x4]; rfl, x5, ?_⟩
      exact hA b hbl
    | succ j =>
      have hj2 : j < pg_sf.length := by omega
      obtain ⟨-, h1, -⟩ := had j _ (List.getElem?_eq_getElem hj2)
      show va_T (if j + 1 = 0 then (.int, L, xs) else pg_ctv (j + 1 - 1)).1 (if j + 1 = 0 then b else if j + 1 < pg_nc then ad (j + 1 - 1) else as (j + 1 - pg_nc)) (if j + 1 = 0 then (.int, L, xs) else pg_ctv (j + 1 - 1)).2.1 (fun i => .int ((if j + 1 = 0 then (.int, L, xs) else pg_ctv (j + 1 - 1)).2.2 i)) _ s s.heap
      rw [if_neg (by omega), if_pos hj, Nat.add_sub_cancel]
      simp only [if_neg (show ¬ (j + 1 = 0) by omega), Nat.add_sub_cancel]
      exact h1
  · obtain ⟨i, hi, rfl⟩ := List.getElem_of_mem hq
    obtain ⟨h1, -, h2⟩ := had i _ (List.getElem?_eq_getElem hi)
    show va_Z _ _ _ (.ref (if (pg_sf[i]).2.2.2 = 0 then b else if (pg_sf[i]).2.2.2 < pg_nc then ad ((pg_sf[i]).2.2.2 - 1) else as ((pg_sf[i]).2.2.2 - pg_nc))) _ s s.heap
    rw [h1, if_neg (by omega), if_pos (by omega), Nat.add_sub_cancel]
    exact h2
  · obtain ⟨i, -, hi⟩ := List.mem_filterMap.mp hw
    have h1 := hts _ (pg_tb_in hi)
    rcases pg_nsf w hw with ⟨a, i, b, n, d, q, rfl⟩ | ⟨a, i, x, q, rfl⟩
    · exact va_Nw.of rfl h1
    · exact va_Nw.of rfl h1
  · show vk_R _ _ _ (if pg_nc + i = 0 then b else if pg_nc + i < pg_nc then ad (pg_nc + i - 1) else as (pg_nc + i - pg_nc)) s
    rw [if_neg (by show ¬ (pg_nc + i = 0); have : 0 < pg_nc := by decide
                   omega), if_neg (by omega), Nat.add_sub_cancel_left]
    exact has i q hi
  · have := (Array.getElem?_eq_some_iff.mp hc).1
    exact absurd this (Nat.not_lt.mpr hq)
  · show _ = pg_xt m_L_law
    have k5 : c.exceptionTable = #[] := Array.isEmpty_iff.mp hxt
    rw [k5]
    rfl
