/-! THE PURE MACHINE: values whose references are places (.ref k: the k-th cell made since the law began; .retAddr k: the k-th constant table), cells, locals; one judgement PW over the kit's W: from any heap that holds the cells ph, the method mi at pc, with locals lv and stack st, ends with Q. -/
abbrev px_PE : Type := (Nat × vp_A) ⊕ (Nat × List Value)
abbrev px_H : Type := List px_PE
/-- the locals, by places; px_u: nothing there -/
abbrev px_L : Type := List Value
abbrev px_u : Value := .float 0
/-- what is fixed for a run of the law: the classes' numbers and slots; the first new address; the constants' addresses; the array classes; the constants; the state at the law's entry -/
abbrev px_G : Type := (va_G × Nat × (Nat → Nat) × (Nat → ClassId) × (Nat → FieldType × Nat × (Nat → Int32))) × State
abbrev px_D (g : px_G) : va_G := g.1.1
abbrev px_b (g : px_G) : Nat := g.1.2.1
abbrev px_sa (g : px_G) : Nat → Nat := g.1.2.2.1
abbrev px_ca (g : px_G) : Nat → ClassId := g.1.2.2.2.1
abbrev px_ct (g : px_G) : Nat → FieldType × Nat × (Nat → Int32) := g.1.2.2.2.2
abbrev px_s0 (g : px_G) : State := g.2
def px_v (g : px_G) : Value → Value
  | .ref k => .ref (px_b g + k)
  | .retAddr k => .ref (px_sa g k)
  | .int x => .int x
  | .long x => .long x
  | .float x => .float x
  | .double x => .double x
  | .null => .null
def px_f (g : px_G) (f : Nat → Option Nat) : Nat → Option Nat := fun j => (f j).map (fun k => px_b g + k)
def px_a (g : px_G) (x : vp_A) : vp_A := (x.1, match x.2 with
  | .inl f => .inl f
  | .inr (.inl f) => .inr (.inl f)
  | .inr (.inr (.inl f)) => .inr (.inr (.inl f))
  | .inr (.inr (.inr (.inl f))) => .inr (.inr (.inr (.inl f)))
  | .inr (.inr (.inr (.inr f))) => .inr (.inr (.inr (.inr (px_f g f)))))
def px_e (g : px_G) : px_PE → va_E
  | .inl q => .inl (px_ca g q.1, px_a g q.2)
  | .inr q => .inr (q.1, q.2.map (px_v g))
def px_A (g : px_G) : Nat → Prop := fun q => px_b g ≤ q
def px_fl : Value → Bool
  | .float _ => true
  | _ => false
def px_lz (g : px_G) : Nat → px_L → List (Nat × Value)
  | _, [] => []
  | i, v :: r => if px_fl v = true then px_lz g (i + 1) r else (i, px_v g v) :: px_lz g (i + 1) r
def px_l (g : px_G) (lv : px_L) : List (Nat × Value) := px_lz g 0 lv
def px_tys (g : px_G) : List (ClassId × FieldType) := (List.range pg_ty.length).map (fun t => (px_ca g t, pg_ty.getD t .int))
def px_sz : px_PE → Nat
  | .inl q => q.2.1
  | .inr q => pg_in q.1
def px_sum (ph : px_H) : Nat := (ph.map px_sz).sum
def px_K (g : px_G) (U : State) : Prop := va_K (px_D g) pg_cl (px_tys g) U
def px_Z (g : px_G) (U : State) (H : Heap) : Prop :=
  (∀ j, j < pg_nc → va_T (px_ct g j).1 (px_sa g j) (px_ct g j).2.1 (fun i => .int ((px_ct g j).2.2 i)) (px_A g) U H) ∧ ∀ q ∈ pg_sf, va_Z q.1 q.2.1 q.2.2.1 (.ref (px_sa g q.2.2.2)) (px_A g) U H
def px_R (g : px_G) (ph : px_H) (H : Heap) : Prop := H.size = px_b g + ph.length ∧ ∀ (k : Nat) (e : px_PE), ph[k]? = some e → va_at (px_D g) pg_cl (px_b g + k, px_e g e) H
/-- words that are carried by themselves: links to private members of nest mates, arrays over classes -/
def px_W (s : State) : Prop := (∀ w ∈ pg_Ns, va_Nw w s) ∧ ∀ C ∈ pg_Ao, va_AO C s
theorem px_W.warm {s U : State} (hW : s.WarmedH U.vm) (h : px_W s) : px_W U := by
  refine ⟨fun w hw => ?_, fun C hC => va_AO.moved hW.alike (h.2 C hC)⟩
  have h1 := h.1 w hw
  rcases pg_nsf w hw with ⟨a, i, b, n, d, q, rfl⟩ | ⟨a, i, x, q, rfl⟩
  · exact va_Nw.warmF hW h1
  · exact va_Nw.warmM hW h1
/-- what the Statement gives at the law's entry; the String constants there; the heap's size there -/
def px_I (g : px_G) : Prop := (∃ A0 : Array Value, (∀ w ∈ tables_1, w.before A0 (px_s0 g) = true) ∧ (Jvm.Cond.and given_1 narrow_1).before A0 (px_s0 g) = true) ∧ (∀ i q, pg_ksl[i]? = some q → vk_R q.1 q.2.1 q.2.2 (px_sa g (pg_nc + i)) (px_s0 g)) ∧ (px_s0 g).heap.size = px_b g
/-- the old cells and the tables, since the law's entry; no new cell is one of statics -/
def px_B (g : px_G) (s : State) : Prop := (px_s0 g).WarmedH s.vm ∧ (∀ q : Nat, q < px_b g → s.heap[q]? = (px_s0 g).heap[q]?) ∧ px_I g ∧ ∀ (q : Nat) (cell : Cell), px_b g ≤ q → s.heap[q]? = some cell → cell.vm.isStatics = false
/-- the handlers of method mi -/
def px_X (mi : Nat) (c : Code) : Prop := c.exceptionTable.toList.map (fun h => (h.startPc, h.endPc, h.handlerPc, h.catchType)) = pg_xt mi
theorem px_ride {g : px_G} {s : State} (hB : px_B g s) {w : Cond} {A0 : Array Value} (h : w.before A0 (px_s0 g) = true) (ho : w.onTables = true) (hk : w.keepsCast = true) (args : Array Value) : w.before args s = true :=
  va_tabs ho (rfl : ((px_s0 g).setVm s.vm).vm = s.vm) (Cond.before_shiftedCast (State.Shifted.of_warmed hB.1) w hk h)
/-- what holds of the walk of method mi, from its entry on -/
def px_C (g : px_G) (d mi : Nat) (p : Program) (R : Room) (s : State) (m : MethodId) (args : Array Value) (meth : Method) (c : Code) : Prop :=
  p.tables.exec = Jvm.exec ∧ c.code = pg_by mi ∧ c.maxLocals = pg_ml mi ∧ meth.sig.returnType = pg_rt mi ∧ s.vm.findClass (pg_mn mi).cls = some m.cls ∧ (∀ w ∈ pg_Ts, w.before args s = true) ∧ meth.locks = false ∧ meth.name = (pg_mn mi).name ∧
  px_K g s ∧ px_b g ≤ s.heap.size ∧ px_Z g s s.heap ∧ d ≤ R.frames ∧ 64 * d ≤ R.locals ∧ px_W s ∧ px_B g s ∧ px_X mi c
/-- how a method ends: with a value, or with an exception (its place) -/
abbrev px_Q : Type := (Option Value ⊕ Nat) → px_H → Prop
def px_O (g : px_G) (B1 B2 : Nat) (Q : px_Q) (s : State) (o : Outcome) (t : State) : Prop :=
  ∃ (ph' : px_H) (L : List Loc) (k n : Nat), s.WarmedH t.vm ∧ s.sameButNew ({ t with vm := s.vm } : State) L k n ∧ (∀ q ∈ L, px_A g q.base) ∧ k + B1 = ph'.length ∧ n + B2 = px_sum ph' ∧ ph'.length ≤ pg_MC ∧ px_sum ph' ≤ pg_MS ∧
    px_R g ph' t.heap ∧ va_F (px_A g) s t ∧ ((∃ r : Option Value, o = .returned (r.map (px_v g)) ∧ Q (.inl r) ph') ∨ ∃ x : Nat, o = .threw (px_b g + x) ∧ Q (.inr x) ph')
def px_E (g : px_G) (below : List Frame) (s : State) (B1 B2 : Nat) (Q : px_Q) : State → Prop := fun t => ∃ o, t.status = .running ∧ Ended t below o ∧ px_O g B1 B2 Q s o t
def PW (l : Launch) (g : px_G) (d mi pc : Nat) (lv : px_L) (st : List Value) (ph : px_H) (Q : px_Q) : Prop :=
  ∀ (p : Program) (e : Env) (R : Room) (s : State) (m : MethodId) (args : Array Value) (below : List Frame) (meth : Method) (c : Code) (H : Heap) (locs : List Loc) (cells slots : Nat) (ls : Array Slot) (B1 B2 : Nat),
    px_C g d mi p R s m args meth c → px_R g ph H → va_S (px_A g) s.heap H locs → lv_has ls (pg_ml mi) (px_l g lv) →
    cells + B1 = ph.length → slots + B2 = px_sum ph → ph.length ≤ pg_MC → px_sum ph ≤ pg_MS → pg_MC ≤ R.cells + B1 → pg_MS ≤ R.slots + B2 →
    W p l e R s m args below meth c H locs cells slots (px_E g below s B1 B2 Q) (F0 m pc ls (st.map (px_v g)))
-- small laws
theorem px_cat (g : px_G) (v : Value) : (px_v g v).category = v.category := by cases v <;> rfl
theorem px_lz_mem (g : px_G) : ∀ (lv : px_L) (i : Nat) (q : Nat × Value), q ∈ px_lz g i lv ↔ ∃ (j : Nat) (v : Value), lv[j]? = some v ∧ px_fl v = false ∧ q = (i + j, px_v g v)
  | [], i, q => by simp [px_lz]
  | w :: r, i, q => by
    have ih := px_lz_mem g r (i + 1) q
    unfold px_lz
    by_cases hw : px_fl w = true
    · rw [if_pos hw, ih]
      constructor
      · rintro ⟨j, v, h1, h2, h3⟩
        exact ⟨j + 1, v, by simpa using h1, h2, by rw [h3]; congr 1; omega⟩
      · rintro ⟨j, v, h1, h2, h3⟩
        cases j with
        | zero => simp at h1; subst h1; rw [hw] at h2; cases h2
        | succ j => exact ⟨j, v, by simpa using h1, h2, by rw [h3]; congr 1; omega⟩
    · rw [if_neg hw, List.mem_cons, ih]
      constructor
      · rintro (h | ⟨j, v, h1, h2, h3⟩)
        · exact ⟨0, w, rfl, by simpa using hw, by rw [h]; rfl⟩
        · exact ⟨j + 1, v, by simpa using h1, h2, by rw [h3]; congr 1; omega⟩
      · rintro ⟨j, v, h1, h2, h3⟩
        cases j with
        | zero => simp at h1; subst h1; exact Or.inl h3
        | succ j => exact Or.inr ⟨j, v, by simpa using h1, h2, by rw [h3]; congr 1; omega⟩
theorem px_l_mem {g : px_G} {lv : px_L} {q : Nat × Value} : q ∈ px_l g lv ↔ ∃ (j : Nat) (v : Value), lv[j]? = some v ∧ px_fl v = false ∧ q = (j, px_v g v) := by
  rw [px_l, px_lz_mem]
  simp only [Nat.zero_add]
theorem px_at {g : px_G} {ls : Array Slot} {nL : Nat} {lv : px_L} {i : Nat} {v : Value} (hl : lv_has ls nL (px_l g lv)) (h : lv[i]? = some v) (hf : px_fl v = false) : ls[i]? = some (.val (px_v g v)) :=
  hl.2.2 (i, px_v g v) (px_l_mem.mpr ⟨i, v, h, hf, rfl⟩)
/-- the place ahead of i holds no long -/
def px_ok1 (lv : px_L) (i : Nat) : Bool := match i with
  | 0 => true
  | k + 1 => match lv[k]? with
    | some v => v.category == 1
    | none => true
theorem px_ok1_at {lv : px_L} {i j : Nat} {v : Value} (h : px_ok1 lv i = true) (hj : lv[j]? = some v) (hi : j + 1 = i) : v.category = 1 := by
  subst hi
  simpa [px_ok1, hj] using h
theorem px_s1 {g : px_G} {ls : Array Slot} {nL : Nat} {lv : px_L} {i : Nat} {v : Value} (ho : px_ok1 lv i = true) (h : lv_has ls nL ((i, px_v g v) :: (px_l g lv).filter (fun q => !(q.1 == i) && !(q.1 + 1 == i && q.2.category == 2)))) : lv_has ls nL (px_l g (lv.set i v)) := by
  refine ⟨h.1, h.2.1, fun q hq => h.2.2 q ?_⟩
  obtain ⟨j, w, h1, h2, rfl⟩ := px_l_mem.mp hq
  rw [List.getElem?_set] at h1
  by_cases hij : i = j
  · subst hij
    split at h1
    next => split at h1 <;> first | (cases h1; exact List.mem_cons_self) | cases h1
    next h3 => exact absurd rfl h3
  · rw [if_neg hij] at h1
    refine List.mem_cons_of_mem _ (List.mem_filter.mpr ⟨px_l_mem.mpr ⟨j, w, h1, h2, rfl⟩, ?_⟩)
    by_cases h4 : j + 1 = i
    · have := px_ok1_at ho h1 h4
      simp [px_cat, this, Ne.symm hij]
    · simp [h4, Ne.symm hij]
theorem px_s2 {g : px_G} {ls : Array Slot} {nL : Nat} {lv : px_L} {i : Nat} {v : Value} (ho : px_ok1 lv i = true) (h : lv_has ls nL ((i, px_v g v) :: (px_l g lv).filter (fun q => !(q.1 == i) && (!(q.1 == i + 1) && !(q.1 + 1 == i && q.2.category == 2))))) : lv_has ls nL (px_l g ((lv.set i v).set (i + 1) px_u)) := by
  refine ⟨h.1, h.2.1, fun q hq => h.2.2 q ?_⟩
  obtain ⟨j, w, h1, h2, rfl⟩ := px_l_mem.mp hq
  rw [List.getElem?_set] at h1
  by_cases hij : i + 1 = j
  · subst hij
    split at h1
    next => split at h1 <;> first | (cases h1; cases h2) | cases h1
    next h3 => exact absurd rfl h3
  · rw [if_neg hij, List.getElem?_set] at h1
    by_cases hi2 : i = j
    · subst hi2
      split at h1
      next => split at h1 <;> first | (cases h1; exact List.mem_cons_self) | cases h1
      next h3 => exact absurd rfl h3
    · rw [if_neg hi2] at h1
      refine List.mem_cons_of_mem _ (List.mem_filter.mpr ⟨px_l_mem.mpr ⟨j, w, h1, h2, rfl⟩, ?_⟩)
      by_cases h4 : j + 1 = i
      · have := px_ok1_at ho h1 h4
        simp [px_cat, this, Ne.symm hi2, Ne.symm hij]
      · simp [h4, Ne.symm hi2, Ne.symm hij]
theorem px_R.one {g : px_G} {ph : px_H} {H : Heap} (h : px_R g ph H) {k : Nat} {e : px_PE} (hk : ph[k]? = some e) : va_P (px_D g) pg_cl [(px_b g + k, px_e g e)] H := by
  intro j q hq
  cases j with
  | zero => cases hq; exact h.2 k e hk
  | succ j => simp at hq
theorem px_R.ns {g : px_G} {ph : px_H} {H : Heap} (h : px_R g ph H) (q : Nat) (cell : Cell) (hq : px_b g ≤ q) (hc : H[q]? = some cell) : cell.vm.isStatics = false := by
  have hlt : q < H.size := (Array.getElem?_eq_some_iff.mp hc).1
  rw [h.1] at hlt
  obtain ⟨k, rfl⟩ : ∃ k, q = px_b g + k := ⟨q - px_b g, by omega⟩
  have hk : k < ph.length := by omega
  have h1 := h.2 k _ (List.getElem?_eq_getElem hk)
  cases he : ph[k] with
  | inl x =>
    rw [he] at h1
    obtain ⟨t, n, f⟩ := x
    have h2 : H[px_b g + k]? = some (vp_cell (px_ca g t) (px_a g (n, f))) := h1
    rw [hc] at h2
    cases h2
    unfold vp_cell
    split <;> rfl
  | inr x =>
    rw [he] at h1
    obtain ⟨r0, hr0, cellB, q1, q2, q3, -⟩ := h1
    rw [hc] at q1
    cases q1
    rw [q3]
    rfl
theorem px_tys_at {g : px_G} {t : Nat} {ty : FieldType} (h : pg_ty[t]? = some ty) : (px_tys g)[t]? = some (px_ca g t, ty) := by
  have hlt : t < pg_ty.length := (List.getElem?_eq_some_iff.mp h).1
  simp [px_tys, List.getElem?_map, List.getElem?_range hlt, List.getD_eq_getElem?_getD, h]
theorem px_sum_set {ph : px_H} {k : Nat} {e e' : px_PE} (hk : ph[k]? = some e) (he : px_sz e' = px_sz e) : px_sum (ph.set k e') = px_sum ph := by
  unfold px_sum
  have hlt : k < ph.length := (List.getElem?_eq_some_iff.mp hk).1
  have : (ph.set k e').map px_sz = ph.map px_sz := by
    apply List.ext_getElem?
    intro j
    rw [List.getElem?_map, List.getElem?_map, List.getElem?_set]
    by_cases hj : k = j
    · subst hj
      simp [hlt, hk, he]
      have := (List.getElem?_eq_some_iff.mp hk).2
      rw [this]
    · simp [hj]
  rw [this]
theorem px_R.set {g : px_G} {ph : px_H} {H H' : Heap} (h : px_R g ph H) {k : Nat} {e e' : px_PE} (hk : ph[k]? = some e) (hz : H'.size = H.size) (ho : ∀ q : Nat, q ≠ px_b g + k → H'[q]? = H[q]?) (he : va_at (px_D g) pg_cl (px_b g + k, px_e g e') H') : px_R g (ph.set k e') H' := by
  refine ⟨by rw [hz, h.1, List.length_set], fun j x hj => ?_⟩
  rw [List.getElem?_set] at hj
  by_cases hkj : k = j
  · subst hkj
    split at hj
    next => split at hj <;> first | (cases hj; exact he) | cases hj
    next h2 => exact absurd rfl h2
  · rw [if_neg hkj] at hj
    exact (h.2 j x hj).kept (ho _ (by show px_b g + j ≠ px_b g + k; omega))
theorem px_R.push {g : px_G} {ph : px_H} {H H' : Heap} (h : px_R g ph H) {e : px_PE} (hz : H'.size = H.size + 1) (ho : ∀ q : Nat, q < H.size → H'[q]? = H[q]?) (he : va_at (px_D g) pg_cl (px_b g + ph.length, px_e g e) H') : px_R g (ph ++ [e]) H' := by
  refine ⟨by rw [hz, h.1, List.length_append]; rfl, fun j x hj => ?_⟩
  by_cases hl : j < ph.length
  · rw [List.getElem?_append_left hl] at hj
    refine (h.2 j x hj).kept (ho _ ?_)
    show px_b g + j < H.size
    rw [h.1]; omega
  · rw [List.getElem?_append_right (by omega)] at hj
    have hz2 : j - ph.length < 1 := (List.getElem?_eq_some_iff.mp hj).1
    have : j = ph.length := by omega
    subst this
    simp at hj
    subst hj
    exact he
theorem px_A_in (g : px_G) (k : Nat) : px_A g (px_b g + k) := Nat.le_add_right _ _
theorem px_Z.moved {g : px_G} {u U : State} {H : Heap} (hvm : u.vm.Alike U.vm) (h : px_Z g u H) : px_Z g U H := ⟨fun j hj => (h.1 j hj).moved hvm, fun q hq => (h.2 q hq).moved hvm⟩
theorem px_Z.kept {g : px_G} {U : State} {H H1 : Heap} (h : px_Z g U H) (hq : ∀ a : Nat, a < H.size → ¬ px_A g a → H1[a]? = H[a]?) : px_Z g U H1 := ⟨fun j hj => (h.1 j hj).kept hq, fun q hq' => (h.2 q hq').kept hq⟩
