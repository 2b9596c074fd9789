/-! String.length and String.charAt of constants -/
def px_V (g : px_G) (V : State) : Prop := (px_s0 g).WarmedH V.vm ∧ (∀ q : Nat, q < px_b g → V.heap[q]? = (px_s0 g).heap[q]?) ∧ px_I g
def pw_in (a : Cond) : Bool := pg_six.any (fun i => decide (pg_tb i = some a)) && (a.onTables && a.keepsCast)
theorem pw_at {g : px_G} {V : State} (hV : px_V g V) {a : Cond} (h : pw_in a = true) (args : Array Value) : a.before args V = true := by
  obtain ⟨A0, hT, hG⟩ := hV.2.2.1
  simp only [pw_in, Bool.and_eq_true] at h
  obtain ⟨i, -, hi⟩ := List.any_eq_true.mp h.1
  exact va_tabs h.2.1 (rfl : ((px_s0 g).setVm V.vm).vm = V.vm) (Cond.before_shiftedCast (State.Shifted.of_warmed hV.1) a h.2.2 (hT _ (pg_tb_in (of_decide_eq_true hi))))
def pw_list : List Cond := [.code Cold.charAt.x Str.charAt.code 2 (some .char), .methodLink str 492 Cold.charAt.IL, .selects str Cold.charAt.IL Cold.charAt.IL, .instanceMethod Cold.charAt.IL, .fieldLink str 9 str "value" "[B", .methodLink str 495 Cold.charAt.SL, .static Cold.charAt.SL, .initialized sl1, .initialized str,
    .code Cold.isLatin1.x String.isLatin1.code 1 (some .boolean), .fieldLink str 38 str "COMPACT_STRINGS" "Z", .fieldLink str 15 str "coder" "B",
    .code Cold.latin1.x SL1.charAt.code 2 (some .char), .methodLink sl1 9 Cold.latin1.SC, .static Cold.latin1.SC,
    .code Cold.checkIndex.x Str.checkIndex.code 2 none, .fieldLink str 1053 pre_ "SIOOBE_FORMATTER" "Ljava/util/function/BiFunction;", .methodLink str 1059 Cold.checkIndex.PC, .static Cold.checkIndex.PC, .initialized pre_,
    .code Preconditions.checkIndex.name Preconditions.checkIndex.code 3 (some .int),
    .code Cold.length.x String.length.code 1 (some .int), .methodLink str 335 Cold.length.CO, .selects str Cold.length.CO Cold.length.CO, .instanceMethod Cold.length.CO,
    .code Cold.coder.x String.coder.code 1 (some .byte), .instanceMethod Cold.charAt.x, .selects str Cold.charAt.x Cold.charAt.x, .instanceMethod Cold.length.x, .selects str Cold.length.x Cold.length.x]
theorem pw_words : pw_list.all pw_in = true := by decide +kernel
theorem pw_w {g : px_G} {V : State} (hV : px_V g V) {a : Cond} (h : a ∈ pw_list) (args : Array Value) : a.before args V = true := pw_at hV (List.all_eq_true.mp pw_words a h) args
theorem px_decl {V : State} {x : MethodName} {A A' : Array Value} {b : ByteArray} {n : Nat} {r : Option FieldType} (h1 : (Cond.instanceMethod x).before A V = true) (h2 : (Cond.code x b n r).before A' V = true) (args : Array Value) : (Cond.declares x).before args V = true := by
  obtain ⟨m, meth, q1, q2, q3, -⟩ := Cond.instanceMethod_spec h1
  obtain ⟨meth', c, p1, -, -, -, -, -, -, p2⟩ := Cond.code_spec q1 h2
  cases q2.symm.trans p1
  simp [Cond.before, Cond.holds, Cond.value, q1, q2, q3, p2]
theorem px_sig {V : State} {x : MethodName} {A : Array Value} {b : ByteArray} {n : Nat} {r : Option FieldType} (h2 : (Cond.code x b n r).before A V = true) : Cold.Sig V x := by
  obtain ⟨mk, hn⟩ := Cond.code_named h2
  obtain ⟨meth', c, p1, -, -, -, -, -, -, p2⟩ := Cond.code_spec hn h2
  exact ⟨mk, meth', hn, p1, p2⟩
theorem px_fo {g : px_G} {V : State} (hV : px_V g V) {a : Nat} {C n d : String} {v : Value} (h : (px_s0 g).fieldOf? a C n d = some v) : V.fieldOf? a C n d = some v := by
  have e0 : (Term.field (.arg 0) C n d).eval #[.ref a] (px_s0 g) none [] (px_s0 g) = some v := by rw [va_fe (a := a) rfl]; exact h
  have e1 := Term.eval_setVm (args := #[.ref a]) (o := none) hV.1.alike (.field (.arg 0) C n d) [] rfl
  rw [e0, va_fe (a := a) rfl] at e1
  have hlt : a < px_b g := by
    have hsz := hV.2.2.2.2
    rcases Nat.lt_or_ge a (px_b g) with h1 | h1
    · exact h1
    · exfalso
      have h2 : (px_s0 g).heap[a]? = none := Array.getElem?_eq_none (by omega)
      simp [State.fieldOf?, h2] at h
  unfold State.fieldOf? at e1 ⊢
  rw [hV.2.1 a hlt]
  exact e1
theorem px_ex9 {g : px_G} {V : State} (hV : px_V g V) {a : Nat} {C : String} {c : ClassId} {cell : Cell} {k : Class} (h1 : (px_s0 g).vm.findClass C = some c) (h2 : (px_s0 g).heap[a]? = some cell) (h3 : (px_s0 g).vm.classes[c]? = some k) (h4 : cell.vm.isStatics = false) (h5 : cell.cls = c) (h6 : k.kind = .ordinary → cell.slots.size = k.instanceTypes.size) (args : Array Value) (ha : args[0]? = some (.ref a)) : (Cond.exactly (.arg 0) C).before args V = true := by
  have hsz := hV.2.2.2.2
  have hlt : a < px_b g := by rw [← hsz]; exact (Array.getElem?_eq_some_iff.mp h2).1
  have e1 : V.vm.findClass C = some c := by rw [hV.1.alike.findClass]; exact h1
  obtain ⟨k', hk', he⟩ := hV.1.alike.2.2 c k h3
  have e2 : V.heap[a]? = some cell := by rw [hV.2.1 a hlt]; exact h2
  have e3 : k'.kind = k.kind := by rw [he]
  have e4 : k'.instanceTypes = k.instanceTypes := by rw [he]
  rw [← e3, ← e4] at h6
  clear he e3 e4
  simp only [Cond.before, Cond.holds, Cond.value, Term.eval, ha, e1, e2, hk']
  cases hk : k'.kind <;> simp [h4, h5, hk] <;> exact h6 hk
theorem px_static {g : px_G} {V : State} (hV : px_V g V) {C n d : String} {v : Value} (h : va_Z C n d v (px_A g) (px_s0 g) (px_s0 g).heap) : Cold.StaticIs V C n d v := by
  obtain ⟨cf, kf, fi, f, a, cell, h1, h2, h3, h4, h5, h6, h7, h8⟩ := (h.moved (U := V) hV.1.alike).kept (H1 := V.heap) (fun a _ hA => hV.2.1 a (Nat.lt_of_not_le hA))
  exact ⟨cf, fi, kf, f, a, cell, h1, h2, h3, h4, h5, (fun hu => by rw [hu] at h6; cases h6), h7⟩
/-- what is known of a String constant whose letters are read -/
def pg_kbw (i : Nat) : Bool := match pg_ksl[i]?, pg_kbx[i]? with
  | some q, some x => decide (pg_F[x.1]? = some (.exactly (.string q.1 q.2.1) str)) && (decide (pg_F[x.2.1]? = some (.eq (.field (.string q.1 q.2.1) str "coder" "B") (.int 0))) && (decide (pg_F[x.2.2.1]? = some (.arrayOf (.field (.string q.1 q.2.1) str "value" "[B") .byte)) && (decide (pg_F[x.2.2.2.1]? = some (.eq (.length (.field (.string q.1 q.2.1) str "value" "[B")) (.int (Int32.ofNat x.2.2.2.2.2.length)))) &&
    ((List.range x.2.2.2.2.2.length).all (fun j => decide (pg_F[x.2.2.2.2.1.getD j 0]? = some (.eq (.elem (.field (.string q.1 q.2.1) str "value" "[B") (.int (Int32.ofNat j))) (.int (x.2.2.2.2.2.getD j 0))))) && decide (x.2.2.2.2.2.length < 2 ^ 31)))))
  | _, _ => false
def pg_kbl (i : Nat) : List Int32 := (pg_kbx.getD i (0, 0, 0, 0, [], [])).2.2.2.2.2
theorem pg_kball : (List.range pg_ksl.length).all (fun i => !(Nat.blt 0 (pg_kbl i).length) || pg_kbw i) = true := by decide +kernel
theorem pg_csw : pg_F[pg_fcs]? = some (.eq (.static str "COMPACT_STRINGS" "Z") (.int 1)) ∧ pg_F[pg_ffm]? = some (.isRef (.static pre_ "SIOOBE_FORMATTER" "Ljava/util/function/BiFunction;")) ∧ pg_six.any (fun i => decide (pg_tb i = some (.laysStatic str "COMPACT_STRINGS" "Z"))) = true ∧ pg_six.any (fun i => decide (pg_tb i = some (.laysStatic pre_ "SIOOBE_FORMATTER" "Ljava/util/function/BiFunction;"))) = true ∧ pg_six.any (fun i => decide (pg_tb i = some (.initialized str))) = true ∧ pg_six.any (fun i => decide (pg_tb i = some (.initialized pre_))) = true := by decide +kernel
theorem px_statics {g : px_G} (hI : px_I g) : va_Z str "COMPACT_STRINGS" "Z" (.int 1) (px_A g) (px_s0 g) (px_s0 g).heap ∧ ∃ fmt : Value, (fmt = .null ∨ ∃ a, fmt = .ref a) ∧ va_Z pre_ "SIOOBE_FORMATTER" "Ljava/util/function/BiFunction;" fmt (px_A g) (px_s0 g) (px_s0 g).heap := by
  obtain ⟨A0, hT, hG⟩ := hI.1
  have hF := flat_of_before _ hG
  have hA : ∀ a : Nat, a < (px_s0 g).heap.size → ¬ px_A g a := fun a h => by rw [hI.2.2] at h; exact Nat.not_le.mpr h
  obtain ⟨w1, w2, w3, w4, w5, w6⟩ := pg_csw
  have tb : ∀ c : Cond, pg_six.any (fun i => decide (pg_tb i = some c)) = true → c.before A0 (px_s0 g) = true := fun c h => by
    obtain ⟨i, -, hi⟩ := List.any_eq_true.mp h
    exact hT _ (pg_tb_in (of_decide_eq_true hi))
  refine ⟨va_Zof (tb _ w3) (tb _ w5) (va_eqt (hF _ (List.mem_of_getElem? w1))) hA, ?_⟩
  have h2 := hF _ (List.mem_of_getElem? w2)
  simp only [Cond.before, Cond.holds, Cond.value] at h2
  cases hv : (Term.static pre_ "SIOOBE_FORMATTER" "Ljava/util/function/BiFunction;").eval A0 (px_s0 g) none [] (px_s0 g) with
  | none => rw [hv] at h2; simp at h2
  | some v =>
    refine ⟨v, ?_, va_Zof (tb _ w4) (tb _ w6) hv hA⟩
    rw [hv] at h2
    cases v <;> first | exact Or.inl rfl | exact Or.inr ⟨_, rfl⟩ | (simp at h2)
theorem px_strk {g : px_G} (hI : px_I g) {i : Nat} (hi : 0 < (pg_kbl i).length) : ∃ (d : Nat) (c : ClassId) (cell arr : Cell) (k : Class), (px_s0 g).vm.findClass str = some c ∧ (px_s0 g).heap[px_sa g (pg_nc + i)]? = some cell ∧ (px_s0 g).vm.classes[c]? = some k ∧ cell.vm.isStatics = false ∧ cell.cls = c ∧ (k.kind = .ordinary → cell.slots.size = k.instanceTypes.size) ∧
    (px_s0 g).fieldOf? (px_sa g (pg_nc + i)) str "coder" "B" = some (.int 0) ∧ (px_s0 g).fieldOf? (px_sa g (pg_nc + i)) str "value" "[B" = some (.ref d) ∧ (px_s0 g).heap[d]? = some arr ∧ (px_s0 g).isArrayOf arr .byte ∧ arr.vm ≠ .unknown ∧ (pg_kbl i).length ≤ arr.slots.size ∧ arr.slots.size.toInt32 = Int32.ofNat (pg_kbl i).length ∧ ∀ j, j < (pg_kbl i).length → arr.slots[j]? = some (.int ((pg_kbl i).getD j 0)) := by
  obtain ⟨A0, hT, hG⟩ := hI.1
  have hF := flat_of_before _ hG
  have hA : ∀ a : Nat, a < (px_s0 g).heap.size → ¬ px_A g a := fun a h => by rw [hI.2.2] at h; exact Nat.not_le.mpr h
  have hlt : i < pg_ksl.length := by
    rcases Nat.lt_or_ge i pg_ksl.length with h | h
    · exact h
    · exfalso
      have e : pg_kbx[i]? = none := List.getElem?_eq_none (show pg_kbx.length ≤ i from h)
      unfold pg_kbl at hi
      rw [List.getD_eq_getElem?_getD, e] at hi
      exact absurd hi (by decide)
  have h1 := List.all_eq_true.mp pg_kball i (List.mem_range.mpr hlt)
  simp only [Bool.or_eq_true, Bool.not_eq_true', Nat.blt_eq] at h1
  rcases h1 with h1 | h1
  · rw [Bool.eq_false_iff] at h1
    exact absurd (by simpa [Nat.blt_eq] using hi) h1
  · unfold pg_kbw at h1
    have hq : pg_ksl[i]? = some (pg_ksl[i]) := List.getElem?_eq_getElem hlt
    rw [hq] at h1
    have hvk := hI.2.1 i _ hq
    generalize pg_ksl[i] = q at h1 hvk
    cases hx : pg_kbx[i]? with
    | none => rw [hx] at h1; simp at h1
    | some x =>
      rw [hx] at h1
      have hb : pg_kbl i = x.2.2.2.2.2 := by unfold pg_kbl; rw [List.getD_eq_getElem?_getD, hx]; rfl
      rw [hb]
      simp only [Bool.and_eq_true, decide_eq_true_eq, List.all_eq_true, List.mem_range] at h1
      obtain ⟨k1, k2, k3, k4, k5, k6⟩ := h1
      have hst : (Term.string q.1 q.2.1).eval A0 (px_s0 g) none [] (px_s0 g) = some (.ref (px_sa g (pg_nc + i))) := by
        rw [← hvk.2]; rfl
      obtain ⟨a', c, cell, k, q1, q2, q3, q4, q5, q6, q7⟩ := Cond.exactly_spec (hF _ (List.mem_of_getElem? k1))
      have ea : px_sa g (pg_nc + i) = a' := by
        have := hst.symm.trans q1
        simpa using this
      obtain ⟨t, ht, arr, t1, t2, t3, t4, t5, t6, -⟩ := va_Tof (f := fun j => .int (x.2.2.2.2.2.getD j 0)) (A := px_A g) k6 (hF _ (List.mem_of_getElem? k3)) (va_eqt (hF _ (List.mem_of_getElem? k4))) (fun j hj => va_eqt (hF _ (List.mem_of_getElem? (k5 j hj)))) hA
      refine ⟨t, c, cell, arr, k, q2, by rw [ea]; exact q3, q4, q5, q6, q7, ?_, ?_, t1, t2, t3, t4, t5, t6⟩
      · rw [← va_fe hst (n := "coder")]; exact va_eqt (hF _ (List.mem_of_getElem? k2))
      · rw [← va_fe hst (n := "value")]; exact ht
