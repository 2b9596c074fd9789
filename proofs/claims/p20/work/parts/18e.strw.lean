section PXST
variable {l : Launch} {g : px_G} {d mi pc : Nat} {lv : px_L} {st : List Value} {ph : px_H} {Q : px_Q} {nx r2 idx : Nat}
set_option maxHeartbeats 1000000 in
/-- a call on a String constant of a method that reads alone -/
theorem px_pureV {y : MethodName} {S : Spec} {P : Array Value → State → Prop} {Q9 : Array Value → State → Outcome → State → Prop} {bytes : ByteArray} {maxL i : Nat} {ret : Option FieldType} {res : Value} {As : List Value} {s9 : Nat}
    (hcd : pg_cd mi pc = some (.invokevirtual idx, nx, s9, r2)) (hlink : Cond.methodLink (pg_mn mi).cls idx y ∈ pg_Ts) (hycls : y.cls = str) (hi : 0 < (pg_kbl i).length) (hAs : As.map (px_v g) = As) (hn : (parseMethodDescriptor y.desc).map (fun d => d.parameters.length) = some As.length)
    (hM : MetFree l y S P (fun _ _ _ _ _ => True) Q9) (hr1 : S.room.frames ≤ 4) (hr2 : maxL + 11 + S.room.locals ≤ 120) (hr3 : S.room.cells = 0) (hr4 : S.room.slots = 0)
    (hQ : ∀ a first o t, Q9 a first o t → PureEnd first o t ∧ o = .returned (some (px_v g res)))
    (hpre : ∀ V, px_V g V → S.pre.before (Value.ref (px_sa g (pg_nc + i)) :: As).toArray V = true ∧ (Cond.code y bytes maxL ret).before #[] V = true ∧ (Cond.initialized y.cls).before #[] V = true ∧ (Cond.instanceMethod y).before #[] V = true ∧ (Cond.selects str y y).before #[] V = true ∧ P (Value.ref (px_sa g (pg_nc + i)) :: As).toArray V)
    (hrs : Nat.ble (st.map fun v => v.category).sum 8 = true) (hp : pc + 3 = nx) (kk : PW l g (d + 5) mi nx lv (res :: st) ph Q) : PW l g (d + 5) mi pc lv (As.reverse ++ .retAddr (pg_nc + i) :: st) ph Q := by
  subst hp
  intro p e R s m args below meth c H locs cells slots ls B1 B2 hC hR hS hl h1 h2 h3 h4 h5 h6
  intro T hT X
  have hC' := hC
  obtain ⟨hx, hb, hml, hrt, hown, hts, hlk, hnm, hK0, hbs, hZ, hd1, hd2, hWs, hB, hXt⟩ := hC
  have hVs : px_V g s := ⟨hB.1, hB.2.1, hB.2.2.1⟩
  have hVA : ∀ vm₁, s.WarmedH vm₁ → px_V g (T.setVm vm₁) := fun vm₁ hW => ⟨State.WarmedH.trans hB.1 hW, fun q hq => by
    show T.heap[q]? = _
    rw [hT, hS.2.1 q (Nat.lt_of_lt_of_le hq hbs) (Nat.not_le.mpr hq)]
    exact hB.2.1 q hq, hB.2.2.1⟩
  have tb : ∀ {w : Cond} {A A' : Array Value} {V : State}, w.onTables = true → w.before A V = true → w.before A' V = true := fun ho h => va_tabs ho rfl h
  obtain ⟨-, hcode, hini, hinst, hsel, -⟩ := hpre s hVs
  have hBk : Back l R p e below s args y 3 8 (fun A a => a = (Value.ref (px_sa g (pg_nc + i)) :: As).toArray ∧ px_V g A.U ∧ A.cells ≤ R.cells ∧ A.slots ≤ R.slots) (fun A _ v B => v = some (px_v g res) ∧ B.U.heap = A.U.heap ∧ B.locs = A.locs ∧ B.cells = A.cells ∧ B.slots = A.slots) := by
    refine Back.of_free (S := S) (P := P) (K := fun _ _ _ _ _ => True) (Q := Q9) (bytes := bytes) (maxL := maxL) (ret := ret) (E := fun _ st o t L k n => L = [] ∧ k = 0 ∧ n = 0 ∧ o = .returned (some (px_v g res)) ∧ t.heap = st.heap) hM (by omega) (by omega) ?_ ?_ (fun _ _ _ _ _ _ _ _ _ => trivial) ?_ ?_
    · rintro m2 meth2 c2 A a X2 ⟨rfl, hV, q1, q2⟩
      obtain ⟨w1, w2, w3, -⟩ := hpre A.U hV
      exact ⟨w1, tb rfl w2, tb rfl w3, by rw [hr3]; exact q1, by rw [hr4]; exact q2⟩
    · rintro m2 meth2 c2 A a gf mk X2 ⟨rfl, hV, q1, q2⟩
      exact (hpre (A.U.calling gf mk _) hV).2.2.2.2.2
    · intro a first o t hq
      obtain ⟨⟨hv, hW, hsb⟩, ho⟩ := hQ a first o t hq
      refine ⟨[], 0, 0, ⟨hv, hW, hsb.sameButNew 0 0⟩, rfl, rfl, rfl, ho, ?_⟩
      have h9 := State.sameBut_nil.mp hsb
      have h10 := congrArg State.heap h9
      exact h10
    · rintro m2 meth2 c2 A a gf mk v t L k n X2 ⟨rfl, hV, q1, q2⟩ hq hF ⟨rfl, rfl, rfl, ho, hh⟩
      cases ho
      exact ⟨rfl, hh, List.append_nil _, rfl, rfl⟩
  obtain ⟨dS, c9, cell9, arr9, k9, f1, f2, f3, f4, f5, -⟩ := px_strk hB.2.2.1 hi
  have hlt9 : px_sa g (pg_nc + i) < px_b g := by rw [← hB.2.2.1.2.2]; exact (Array.getElem?_eq_some_iff.mp f2).1
  have hcell : T.heap[px_sa g (pg_nc + i)]? = some cell9 := by
    rw [hT, hS.2.1 _ (Nat.lt_of_lt_of_le hlt9 hbs) (Nat.not_le.mpr hlt9), hB.2.1 _ hlt9]
    exact f2
  have hfc : s.vm.findClass str = some cell9.cls := by rw [hB.1.alike.findClass, f5]; exact f1
  have hstk : (F0 m pc ls ((As.reverse ++ .retAddr (pg_nc + i) :: st).map (px_v g))).stack = As.reverse ++ .ref (px_sa g (pg_nc + i)) :: st.map (px_v g) := by
    show (As.reverse ++ .retAddr (pg_nc + i) :: st).map (px_v g) = _
    rw [List.map_append, List.map_reverse, hAs]; rfl
  obtain ⟨v, vm₁, B, hW₁, X', hpost, stp⟩ := callV X hx (C := str) (bytes := bytes) (maxL := maxL) (ret := ret) hown (hts _ hlink) (tb rfl hinst) (tb rfl hsel) (tb rfl hcode) (by rw [hycls]; decide) hBk hcell f4 hfc (g := F0 m pc ls ((As.reverse ++ .retAddr (pg_nc + i) :: st).map (px_v g))) rfl (by rw [hml]; exact hl.1) (argsL := As) (rest := st.map (px_v g)) (fun sig hs => by rw [hs] at hn; exact (Option.some.inj hn).symm) hstk (px_rest (Nat.le_of_ble_eq_true hrs) m pc ls _) (by rw [hb]; exact pg_dec hcd) (fun vm₁ hW => ⟨rfl, hVA vm₁ hW, by show cells ≤ R.cells; omega, by show slots ≤ R.slots; omega⟩)
  obtain ⟨U', l', c', n'⟩ := B
  obtain ⟨hv, hh, hL, hc1, hc2⟩ := hpost
  dsimp only [Pt.U, Pt.locs, Pt.cells, Pt.slots] at hh hL hc1 hc2 X' stp
  subst hL; subst hc1; subst hc2; subst hv
  obtain ⟨t2, a1, b1⟩ := kk p e R s m args below meth c H l' c' n' ls B1 B2 hC' hR hS hl h1 h2 h3 h4 h5 h6 U' (by rw [hh]; exact hT) X'
  exact ⟨t2, stp t2 a1, b1⟩
theorem px_sfx {g : px_G} {V : State} (hV : px_V g V) {i : Nat} (hi : 0 < (pg_kbl i).length) : ∃ (dS : Nat) (arr : Cell), (∀ (args : Array Value), args[0]? = some (.ref (px_sa g (pg_nc + i))) → (Cond.exactly (.arg 0) str).before args V = true) ∧ V.fieldOf? (px_sa g (pg_nc + i)) str "coder" "B" = some (.int 0) ∧ V.fieldOf? (px_sa g (pg_nc + i)) str "value" "[B" = some (.ref dS) ∧ V.heap[dS]? = some arr ∧ (px_s0 g).heap[dS]? = some arr ∧ V.isArrayOf arr .byte ∧ arr.vm ≠ .unknown ∧ (pg_kbl i).length ≤ arr.slots.size ∧ arr.slots.size.toInt32 = Int32.ofNat (pg_kbl i).length ∧ (∀ j, j < (pg_kbl i).length → arr.slots[j]? = some (.int ((pg_kbl i).getD j 0))) := by
  obtain ⟨dS, c9, cell9, arr, k9, f1, f2, f3, f4, f5, f6, f7, f8, f9, f10, f11, f12, f13, f14⟩ := px_strk hV.2.2 hi
  have hlt : dS < px_b g := by rw [← hV.2.2.2.2]; exact (Array.getElem?_eq_some_iff.mp f9).1
  exact ⟨dS, arr, fun args ha => px_ex9 hV f1 f2 f3 f4 f5 f6 args ha, px_fo hV f7, px_fo hV f8, by rw [hV.2.1 dS hlt]; exact f9, f9, State.isArrayOf_alike hV.1.alike f10, f11, f12, f13, f14⟩
theorem px_zne : (1 : Int32) ≠ 0 := by decide
set_option maxHeartbeats 1000000 in
theorem px_slen {i : Nat} (hcd : pg_cd mi pc = some (.invokevirtual idx, nx, 9007, r2)) (hi : 0 < (pg_kbl i).length) (hrs : Nat.ble (st.map fun v => v.category).sum 8 = true) (hp : pc + 3 = nx) (kk : PW l g (d + 5) mi nx lv (.int (nI (pg_kbl i).length) :: st) ph Q) : PW l g (d + 5) mi pc lv (.retAddr (pg_nc + i) :: st) ph Q := by
  intro p e R s m args below meth c H locs cells slots ls B1 B2 hC
  have hI : px_I g := hC.2.2.2.2.2.2.2.2.2.2.2.2.2.2.1.2.2.1
  obtain ⟨dS, c9, cell9, arr, k9, f1, f2, f3, f4, f5, f6, f7, f8, f9, f10, f11, f12, f13, f14⟩ := px_strk hI hi
  obtain ⟨hcs, -⟩ := px_statics hI
  refine px_pureV (i := i) (As := []) (res := .int (nI (pg_kbl i).length)) hcd (pg_spc (Or.inr (Or.inr hcd)) (by decide) (by decide)) rfl hi rfl (by decide +kernel) (Cold.length.met l (px_sa g (pg_nc + i)) dS 1 arr) (by decide) (maxL := 1) (by decide) rfl rfl (bytes := String.length.code) (ret := some .int) ?_ ?_ hrs hp kk p e R s m args below meth c H locs cells slots ls B1 B2 hC
  · intro a first o t hq
    refine ⟨hq.1, ?_⟩
    rw [hq.2, f13]
    rfl
  · intro V hV
    obtain ⟨d2, arr2, e1, e2, e3, e4, e5, e6, e7, e8, e9, e10⟩ := px_sfx hV hi
    have hd : d2 = dS := by
      have := px_fo hV f8
      rw [e3] at this
      simpa using this
    subst hd
    cases Option.some.inj (e5.symm.trans f9)
    have dw := px_decl (pw_w hV (a := .instanceMethod Cold.length.CO) (by decide) #[]) (pw_w hV (a := .code Cold.coder.x String.coder.code 1 (some .byte)) (by decide) #[])
    refine ⟨?_, pw_w hV (by decide) _, pw_w hV (by decide) _, pw_w hV (by decide) _, pw_w hV (by decide) _, rfl, ?_, e4, e6, ?_, rfl, px_static hV hcs, px_zne, ?_⟩
    · simp only [Cold.length.spec, Cond.before_and, Bool.and_eq_true]
      exact ⟨pw_w hV (by decide) _, rfl, e1 _ rfl, pw_w hV (by decide) _, pw_w hV (by decide) _, dw _, pw_w hV (by decide) _, pw_w hV (by decide) _, pw_w hV (by decide) _⟩
    · show (Term.field (.arg 0) str "value" "[B").eval _ V none [] V = _
      rw [va_fe (a := px_sa g (pg_nc + i)) rfl]; exact e3
    · simp only [Cold.coder.spec, Cond.before_and, Bool.and_eq_true]
      exact ⟨pw_w hV (by decide) _, rfl, pw_w hV (by decide) _, pw_w hV (by decide) _⟩
    · show (Term.field (.arg 0) str "coder" "B").eval _ V none [] V = _
      rw [va_fe (a := px_sa g (pg_nc + i)) rfl]; exact e2
/-- the k-th letter of a String constant -/
def pg_kch (i k : Nat) : Int32 := ((pg_kbl i).getD k 0 &&& 255).toUInt32.toUInt16.toUInt32.toInt32
set_option maxHeartbeats 1000000 in
theorem px_schar {i k : Nat} (hcd : pg_cd mi pc = some (.invokevirtual idx, nx, 9008, r2)) (hk : k < (pg_kbl i).length) (hk2 : (pg_kbl i).length < 2 ^ 31) (hrs : Nat.ble (st.map fun v => v.category).sum 8 = true) (hp : pc + 3 = nx) (kk : PW l g (d + 5) mi nx lv (.int (pg_kch i k) :: st) ph Q) : PW l g (d + 5) mi pc lv (.int (nI k) :: .retAddr (pg_nc + i) :: st) ph Q := by
  have hi : 0 < (pg_kbl i).length := by omega
  intro p e R s m args below meth c H locs cells slots ls B1 B2 hC
  have hI : px_I g := hC.2.2.2.2.2.2.2.2.2.2.2.2.2.2.1.2.2.1
  obtain ⟨dS, c9, cell9, arr, k9, f1, f2, f3, f4, f5, f6, f7, f8, f9, f10, f11, f12, f13, f14⟩ := px_strk hI hi
  obtain ⟨hcs, fmt, hfm, hfs⟩ := px_statics hI
  refine px_pureV (i := i) (As := [.int (nI k)]) (res := .int (pg_kch i k)) hcd (pg_spc (Or.inr (Or.inr hcd)) (by decide) (by decide)) rfl hi rfl (by show Option.map (fun d => d.parameters.length) (parseMethodDescriptor (pg_spn 9008).desc) = some 1; decide +kernel) (Cold.charAt.met l (px_sa g (pg_nc + i)) dS (nI k) ((pg_kbl i).getD k 0) 1 fmt arr) (by decide) (maxL := 2) (by decide) rfl rfl (bytes := Str.charAt.code) (ret := some .char) ?_ ?_ hrs hp kk p e R s m args below meth c H locs cells slots ls B1 B2 hC
  · intro a first o t hq
    exact hq
  · intro V hV
    obtain ⟨d2, arr2, e1, e2, e3, e4, e5, e6, e7, e8, e9, e10⟩ := px_sfx hV hi
    have hd : d2 = dS := by
      have := px_fo hV f8
      rw [e3] at this
      simpa using this
    subst hd
    cases Option.some.inj (e5.symm.trans f9)
    have dw := px_decl (pw_w hV (a := .instanceMethod Cold.charAt.IL) (by decide) #[]) (pw_w hV (a := .code Cold.isLatin1.x String.isLatin1.code 1 (some .boolean)) (by decide) #[])
    have hkc : (nI k).toNatClampNeg = k := nI_clamp (by omega)
    have hk0 : ¬ nI k < 0 := nI_pos (by omega)
    refine ⟨?_, pw_w hV (by decide) _, pw_w hV (by decide) _, pw_w hV (by decide) _, pw_w hV (by decide) _, rfl, ?_, px_sig (pw_w hV (a := .code Cold.latin1.x SL1.charAt.code 2 (some .char)) (by decide) #[]), ?_, ⟨rfl, px_static hV hcs, px_zne, ?_⟩, ?_, rfl, e4, e6, e7, ?_, ?_, px_sig (pw_w hV (a := .code Cold.checkIndex.x Str.checkIndex.code 2 none) (by decide) #[]), ?_, rfl, px_static hV hfs, px_sig (pw_w hV (a := .code Preconditions.checkIndex.name Preconditions.checkIndex.code 3 (some .int)) (by decide) #[]), ?_⟩
    · simp only [Cold.charAt.spec, Cond.before_and, Bool.and_eq_true]
      exact ⟨pw_w hV (by decide) _, rfl, e1 _ rfl, pw_w hV (by decide) _, dw _, pw_w hV (by decide) _, pw_w hV (by decide) _, pw_w hV (by decide) _, pw_w hV (by decide) _, pw_w hV (by decide) _, pw_w hV (by decide) _, pw_w hV (by decide) _⟩
    · show (Term.field (.arg 0) str "value" "[B").eval _ V none [] V = _
      rw [va_fe (a := px_sa g (pg_nc + i)) rfl]; exact e3
    · simp only [Cold.isLatin1.spec, Cond.before_and, Bool.and_eq_true]
      exact ⟨pw_w hV (by decide) _, rfl, pw_w hV (by decide) _, pw_w hV (by decide) _⟩
    · show (Term.field (.arg 0) str "coder" "B").eval _ V none [] V = _
      rw [va_fe (a := px_sa g (pg_nc + i)) rfl]; exact e2
    · simp only [Cold.latin1.spec, Cond.before_and, Bool.and_eq_true]
      exact ⟨pw_w hV (by decide) _, rfl, pw_w hV (by decide) _, pw_w hV (by decide) _, pw_w hV (by decide) _⟩
    · rw [hkc]
      rintro (h | h)
      · exact hk0 h
      · omega
    · rw [hkc]; exact e10 k hk
    · simp only [Cold.checkIndex.spec, Cond.before_and, Bool.and_eq_true]
      exact ⟨pw_w hV (by decide) _, rfl, pw_w hV (by decide) _, pw_w hV (by decide) _, pw_w hV (by decide) _, pw_w hV (by decide) _⟩
    · simp only [Preconditions.checkIndex.spec, Cond.before_and, Bool.and_eq_true]
      refine ⟨pw_w hV (by decide) _, rfl, rfl, rfl, ?_, ?_, ?_⟩
      · rcases hfm with rfl | ⟨a, rfl⟩ <;> rfl
      · have := Cond.le_ints (args := #[.int (nI k), .int arr.slots.size.toInt32, fmt]) (first := V) (o := none) (s := V) (idx := []) (a := .int 0) (b := .arg 0) (x := 0) (y := nI k) rfl rfl
        simp [Cond.before, Cond.holds, this, Int32.not_lt.mp hk0]
      · rw [e9]
        have h8 : nI k < Int32.ofNat (pg_kbl i).length := by
          show nI k < nI (pg_kbl i).length
          rw [← Int32.not_le]
          exact nI_ge hk hk2
        simp [Cond.before, Cond.holds, Cond.value, Term.eval, h8]
end PXST
