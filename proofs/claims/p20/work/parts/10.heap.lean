/-! instructions on the heap -/
def pm_fit (ty : FieldType) (v : Value) : Prop := match ty, v with
  | .int, .int _ => True
  | .long, .long _ => True
  | .boolean, .int x => x = 0 ∨ x = 1
  | .byte, .int x => -128 ≤ x ∧ x ≤ 127 ∧ x.toInt8.toInt32 = x
  | .object _, .ref _ => True
  | .object _, .null => True
  | .object _, .retAddr _ => True
  | .array _, .ref _ => True
  | .array _, .null => True
  | .array _, .retAddr _ => True
  | _, _ => False
theorem pm_fit_ok {g : px_G} {ty : FieldType} {v : Value} (h : pm_fit ty v) : narrow ty (px_v g v) = px_v g v ∧ fits ty (px_v g v) = true := by
  unfold pm_fit at h
  split at h
  all_goals first
    | exact ⟨rfl, rfl⟩
    | (rcases h with rfl | rfl <;> exact ⟨rfl, rfl⟩)
    | (obtain ⟨h1, h2, h3⟩ := h; refine ⟨by simp only [px_v, narrow, h3], ?_⟩; simp only [px_v, fits, Bool.and_eq_true, decide_eq_true_eq]; exact ⟨h1, h2⟩)
    | exact h.elim
section PXH
variable {l : Launch} {g : px_G} {d mi pc : Nat} {lv : px_L} {st : List Value} {ph : px_H} {Q : px_Q} {len nx r1 r2 : Nat}
theorem px_get {idx ci k a : Nat} {fs : List Value} {v : Value} (hcd : pg_cd mi pc = some (.getfield idx, nx, ci, k)) (he : ph[a]? = some (.inr (ci, fs))) (hv : fs[k]? = some v) (hp : pc + 3 = nx) (kk : PW l g d mi nx lv (v :: st) ph Q) : PW l g d mi pc lv (.ref a :: st) ph Q := by
  subst hp
  intro p e R s m args below meth c H locs cells slots ls B1 B2 hC hR hS hl h1 h2 h3 h4 h5 h6
  have k1 := kk p e R s m args below meth c H locs cells slots ls B1 B2 hC hR hS hl h1 h2 h3 h4 h5 h6
  obtain ⟨hx, hb, hml, hrt, hown, hts, hlk, hnm, hK, hbs, hZ, hd1, hd2, hWs, hB⟩ := hC
  obtain ⟨C, T, N, hc, hk, hin, hlink⟩ := pg_fld hcd
  have hv' : (fs.map (px_v g))[k]? = some (px_v g v) := by rw [List.getElem?_map, hv]; rfl
  exact va_get (ws := [(px_b g + a, .inr (ci, fs.map (px_v g)))]) hx hb hts hin hown hK (hR.one he) 0 rfl hc k hk (hts _ hlink) (fun _ h => h) hv' (pg_dec hcd) k1
theorem px_put {idx ci k a : Nat} {fs : List Value} {v : Value} (hcd : pg_cd mi pc = some (.putfield idx, nx, ci, k)) (he : ph[a]? = some (.inr (ci, fs))) (hl1 : Nat.blt k fs.length = true) (hf : pm_fit (pg_ftp ci k) v) (hp : pc + 3 = nx) (kk : PW l g d mi nx lv st (ph.set a (.inr (ci, fs.set k v))) Q) : PW l g d mi pc lv (v :: .ref a :: st) ph Q := by
  subst hp
  intro p e R s m args below meth c H locs cells slots ls B1 B2 hC hR hS hl h1 h2 h3 h4 h5 h6
  have hC' := hC
  obtain ⟨hx, hb, hml, hrt, hown, hts, hlk, hnm, hK, hbs, hZ, hd1, hd2, hWs, hB⟩ := hC
  obtain ⟨C, T, N, hc, hk, hin, hlink, hfin⟩ := pg_fldp hcd
  obtain ⟨hty, hnms⟩ := pg_cls hc
  obtain ⟨hn, hfit⟩ := pm_fit_ok (g := g) hf
  have hap := va_apart (own := C) hts hin (pg_ftp ci) hty hnms hK hc
  obtain ⟨r, h7, cell, q1, q2, q3, q4⟩ := hR.2 a _ he
  have hr : r = (C, T, N) := Option.some.inj (h7.symm.trans hc)
  subst hr
  obtain ⟨hSl, hfc, kC, hkC, hkind⟩ := hK.1 ci _ hc
  obtain ⟨cf, kf, fi, f, hi, hsl⟩ := hSl k hk
  have hlay := hts _ (hin _ (u_in_lay hk))
  have hst := (u_facts hfc hkC (u_lays hts hin hk) hi).1
  have hmap : (fs.set k v).map (px_v g) = (fs.map (px_v g)).set k (px_v g v) := List.map_set
  have hl2 : k < (fs.map (px_v g)).length := by rw [List.length_map]; exact Nat.le_of_ble_eq_true hl1
  have fin : ∀ H' : Heap, H'[px_b g + a]? = some (cell.setSlot (((px_D g).2 ci) k) (px_v g v)) → H'.size = H.size → (∀ q, q ≠ px_b g + a → H'[q]? = H[q]?) →
      W p l e R s m args below meth c H' (locs ++ [⟨px_b g + a, ((px_D g).2 ci) k⟩]) cells slots (px_E g below s B1 B2 Q) (F0 m (pc + 3) ls (st.map (px_v g))) := by
    intro H' e1 e2 e3
    refine kk p e R s m args below meth c H' _ cells slots ls B1 B2 hC' (hR.set he e2 e3 ?_) (hS.put e2 e3 (px_A_in g a)) hl (by rw [List.length_set]; exact h1) (by rw [px_sum_set (e' := .inr (ci, fs.set k v)) he rfl]; exact h2) (by rw [List.length_set]; exact h3) (by rw [px_sum_set (e' := .inr (ci, fs.set k v)) he rfl]; exact h4) h5 h6
    refine ⟨_, hc, ?_⟩
    show t_OB _ _ _ _ _ (vp_V ((fs.set k v).map (px_v g)))
    rw [hmap]
    exact t_OB.to (V := updV (vp_V (fs.map (px_v g))) k (px_v g v)) ⟨_, e1, q2, q3, t_set q4 hap hk (px_v g v)⟩ (fun j _ => vp_updV_set hl2 (px_v g v) j)
  by_cases hfn : (T k).2.2.2 = true
  · obtain ⟨hi1, hi2⟩ := hfin hfn
    unfold u_lay at hlay
    rw [if_pos hfn] at hlay
    have hcf : m.cls = cf := by
      obtain ⟨_, _, c', _, _, _, -, -, hf', -, -, -, hown2, -⟩ := Cond.laysFinal_spec hlay
      have e1 : c' = cf := by have := hi.symm.trans hf'; simp at this; exact this.1.symm
      rw [hi2] at hown2
      rw [← e1]; exact Option.some.inj (hown.symm.trans hown2)
    have h8 := u_fits hfc hkC hkind (Or.inr hlay) hi (hty k hk) hn hfit
    refine W.putFinK hx hb hown (hts _ hlink) hi hst hcf (by rw [hnm]; exact hi1) (by rw [q2]; exact h8) q1 q3 (by rw [hsl]; exact k2_hasslot (q4 k hk)) rfl rfl (pg_dec hcd) fun H' e1 e2 e3 => ?_
    rw [hsl] at e1 ⊢
    exact fin H' e1 e2 e3
  · unfold u_lay at hlay
    rw [if_neg hfn] at hlay
    have h8 := u_store hfc hkC hkind hlay hi (hty k hk) hn hfit
    refine W.putK hx hb (f := f) ⟨hown, hts _ hlink, ⟨_, _, _, hi⟩, hst⟩ (by rw [q2]; exact h8) q1 q3 (by rw [hsl]; exact k2_hasslot (q4 k hk)) rfl rfl (pg_dec hcd) fun H' e1 e2 e3 => ?_
    rw [hsl] at e1 ⊢
    exact fin H' e1 e2 e3
theorem px_alen {a t : Nat} {x : vp_A} {ty : FieldType} (hcd : pg_cd mi pc = some (.arraylength, nx, r1, r2)) (he : ph[a]? = some (.inl (t, x))) (ht : pg_ty[t]? = some ty) (hp : pc + 1 = nx) (kk : PW l g d mi nx lv (.int (nI x.1) :: st) ph Q) : PW l g d mi pc lv (.ref a :: st) ph Q := by
  subst hp
  intro p e R s m args below meth c H locs cells slots ls B1 B2 hC hR hS hl h1 h2 h3 h4 h5 h6
  have k1 := kk p e R s m args below meth c H locs cells slots ls B1 B2 hC hR hS hl h1 h2 h3 h4 h5 h6
  obtain ⟨hx, hb, hml, hrt, hown, hts, hlk, hnm, hK, hbs, hZ, hd1, hd2, hWs, hB⟩ := hC
  exact va_alen (ws := [(px_b g + a, .inl (px_ca g t, px_a g x))]) hx hb hK (hR.one he) 0 t rfl (px_tys_at ht) rfl (pg_dec hcd) k1
theorem px_clen {j : Nat} (hcd : pg_cd mi pc = some (.arraylength, nx, r1, r2)) (hj : j < pg_nc) (hp : pc + 1 = nx) (kk : PW l g d mi nx lv (.int (nI (px_ct g j).2.1) :: st) ph Q) : PW l g d mi pc lv (.retAddr j :: st) ph Q := by
  subst hp
  intro p e R s m args below meth c H locs cells slots ls B1 B2 hC hR hS hl h1 h2 h3 h4 h5 h6
  have k1 := kk p e R s m args below meth c H locs cells slots ls B1 B2 hC hR hS hl h1 h2 h3 h4 h5 h6
  obtain ⟨hx, hb, hml, hrt, hown, hts, hlk, hnm, hK, hbs, hZ, hd1, hd2, hWs, hB⟩ := hC
  exact va_tlen hx hb (hZ.1 j hj) hS rfl (pg_dec hcd) k1
theorem px_iald {a t n : Nat} {f : Nat → Int32} {i : Int32} (hcd : pg_cd mi pc = some (.iaload, nx, r1, r2)) (he : ph[a]? = some (.inl (t, n, .inl f))) (ht : pg_ty[t]? = some .int) (hin : vp_in i n) (hp : pc + 1 = nx) (kk : PW l g d mi nx lv (.int (f i.toNatClampNeg) :: st) ph Q) : PW l g d mi pc lv (.int i :: .ref a :: st) ph Q := by
  subst hp
  intro p e R s m args below meth c H locs cells slots ls B1 B2 hC hR hS hl h1 h2 h3 h4 h5 h6
  have k1 := kk p e R s m args below meth c H locs cells slots ls B1 B2 hC hR hS hl h1 h2 h3 h4 h5 h6
  obtain ⟨hx, hb, hml, hrt, hown, hts, hlk, hnm, hK, hbs, hZ, hd1, hd2, hWs, hB⟩ := hC
  exact va_iald (ws := [(px_b g + a, .inl (px_ca g t, n, .inl f))]) hx hb hK (hR.one he) 0 t rfl (px_tys_at ht) hin (pg_dec hcd) k1
theorem px_bald {a t n : Nat} {f : Nat → Int32} {i : Int32} (hcd : pg_cd mi pc = some (.baload, nx, r1, r2)) (he : ph[a]? = some (.inl (t, n, .inl f))) (ht : pg_ty[t]? = some .byte) (hin : vp_in i n) (hp : pc + 1 = nx) (kk : PW l g d mi nx lv (.int (f i.toNatClampNeg) :: st) ph Q) : PW l g d mi pc lv (.int i :: .ref a :: st) ph Q := by
  subst hp
  intro p e R s m args below meth c H locs cells slots ls B1 B2 hC hR hS hl h1 h2 h3 h4 h5 h6
  have k1 := kk p e R s m args below meth c H locs cells slots ls B1 B2 hC hR hS hl h1 h2 h3 h4 h5 h6
  obtain ⟨hx, hb, hml, hrt, hown, hts, hlk, hnm, hK, hbs, hZ, hd1, hd2, hWs, hB⟩ := hC
  exact va_bald (ws := [(px_b g + a, .inl (px_ca g t, n, .inl f))]) hx hb hK (hR.one he) 0 t rfl (px_tys_at ht) hin (pg_dec hcd) k1
theorem px_zald {a t n : Nat} {f : Nat → Int32} {i : Int32} (hcd : pg_cd mi pc = some (.baload, nx, r1, r2)) (he : ph[a]? = some (.inl (t, n, .inl f))) (ht : pg_ty[t]? = some .boolean) (hin : vp_in i n) (hp : pc + 1 = nx) (kk : PW l g d mi nx lv (.int (f i.toNatClampNeg) :: st) ph Q) : PW l g d mi pc lv (.int i :: .ref a :: st) ph Q := by
  subst hp
  intro p e R s m args below meth c H locs cells slots ls B1 B2 hC hR hS hl h1 h2 h3 h4 h5 h6
  have k1 := kk p e R s m args below meth c H locs cells slots ls B1 B2 hC hR hS hl h1 h2 h3 h4 h5 h6
  obtain ⟨hx, hb, hml, hrt, hown, hts, hlk, hnm, hK, hbs, hZ, hd1, hd2, hWs, hB⟩ := hC
  exact va_zald (ws := [(px_b g + a, .inl (px_ca g t, n, .inl f))]) hx hb hK (hR.one he) 0 t rfl (px_tys_at ht) hin (pg_dec hcd) k1
theorem px_lald {a t n : Nat} {f : Nat → Int64} {i : Int32} (hcd : pg_cd mi pc = some (.laload, nx, r1, r2)) (he : ph[a]? = some (.inl (t, n, .inr (.inl f)))) (ht : pg_ty[t]? = some .long) (hin : vp_in i n) (hp : pc + 1 = nx) (kk : PW l g d mi nx lv (.long (f i.toNatClampNeg) :: st) ph Q) : PW l g d mi pc lv (.int i :: .ref a :: st) ph Q := by
  subst hp
  intro p e R s m args below meth c H locs cells slots ls B1 B2 hC hR hS hl h1 h2 h3 h4 h5 h6
  have k1 := kk p e R s m args below meth c H locs cells slots ls B1 B2 hC hR hS hl h1 h2 h3 h4 h5 h6
  obtain ⟨hx, hb, hml, hrt, hown, hts, hlk, hnm, hK, hbs, hZ, hd1, hd2, hWs, hB⟩ := hC
  exact va_lald (ws := [(px_b g + a, .inl (px_ca g t, n, .inr (.inl f)))]) hx hb hK (hR.one he) 0 t rfl (px_tys_at ht) hin (pg_dec hcd) k1
theorem px_rf (g : px_G) (o : Option Nat) : va_rf (o.map (fun k => px_b g + k)) = px_v g (va_rf o) := by cases o <;> rfl
theorem px_aald {a t n : Nat} {f : Nat → Option Nat} {i : Int32} {C : String} (hcd : pg_cd mi pc = some (.aaload, nx, r1, r2)) (he : ph[a]? = some (.inl (t, n, .inr (.inr (.inr (.inr f)))))) (ht : pg_ty[t]? = some (.object C)) (hin : vp_in i n) (hp : pc + 1 = nx) (kk : PW l g d mi nx lv (va_rf (f i.toNatClampNeg) :: st) ph Q) : PW l g d mi pc lv (.int i :: .ref a :: st) ph Q := by
  subst hp
  intro p e R s m args below meth c H locs cells slots ls B1 B2 hC hR hS hl h1 h2 h3 h4 h5 h6
  have k1 := kk p e R s m args below meth c H locs cells slots ls B1 B2 hC hR hS hl h1 h2 h3 h4 h5 h6
  obtain ⟨hx, hb, hml, hrt, hown, hts, hlk, hnm, hK, hbs, hZ, hd1, hd2, hWs, hB⟩ := hC
  refine va_aldq (ws := [(px_b g + a, .inl (px_ca g t, n, .inr (.inr (.inr (.inr (px_f g f))))))]) hx hb hK (hR.one he) 0 t rfl (px_tys_at ht) hin (pg_dec hcd) ?_
  rw [List.map_cons] at k1
  show W p l e R s m args below meth c H locs cells slots _ (F0 m (pc + 1) ls (va_rf ((f i.toNatClampNeg).map (fun k => px_b g + k)) :: st.map (px_v g)))
  rw [px_rf]
  exact k1
theorem px_cild {j : Nat} {i : Int32} (hcd : pg_cd mi pc = some (.iaload, nx, r1, r2)) (hj : j < pg_nc) (ht : (px_ct g j).1 = .int) (hin : vp_in i (px_ct g j).2.1) (hp : pc + 1 = nx) (kk : PW l g d mi nx lv (.int ((px_ct g j).2.2 i.toNatClampNeg) :: st) ph Q) : PW l g d mi pc lv (.int i :: .retAddr j :: st) ph Q := by
  subst hp
  intro p e R s m args below meth c H locs cells slots ls B1 B2 hC hR hS hl h1 h2 h3 h4 h5 h6
  have k1 := kk p e R s m args below meth c H locs cells slots ls B1 B2 hC hR hS hl h1 h2 h3 h4 h5 h6
  obtain ⟨hx, hb, hml, hrt, hown, hts, hlk, hnm, hK, hbs, hZ, hd1, hd2, hWs, hB⟩ := hC
  have hT := hZ.1 j hj
  rw [ht] at hT
  exact va_ti hx hb hT hS hin rfl (pg_dec hcd) k1
theorem px_cbld {j : Nat} {i : Int32} (hcd : pg_cd mi pc = some (.baload, nx, r1, r2)) (hj : j < pg_nc) (ht : (px_ct g j).1 = .byte) (hin : vp_in i (px_ct g j).2.1) (hp : pc + 1 = nx) (kk : PW l g d mi nx lv (.int ((px_ct g j).2.2 i.toNatClampNeg) :: st) ph Q) : PW l g d mi pc lv (.int i :: .retAddr j :: st) ph Q := by
  subst hp
  intro p e R s m args below meth c H locs cells slots ls B1 B2 hC hR hS hl h1 h2 h3 h4 h5 h6
  have k1 := kk p e R s m args below meth c H locs cells slots ls B1 B2 hC hR hS hl h1 h2 h3 h4 h5 h6
  obtain ⟨hx, hb, hml, hrt, hown, hts, hlk, hnm, hK, hbs, hZ, hd1, hd2, hWs, hB⟩ := hC
  have hT := hZ.1 j hj
  rw [ht] at hT
  exact va_tb hx hb hT hS hin rfl (pg_dec hcd) k1
-- stores into an array: what all have in common
theorem px_stored {p : Program} {e : Env} {R : Room} {s : State} {m : MethodId} {args : Array Value} {below : List Frame} {meth : Method} {c : Code} {H H' : Heap} {locs : List Loc} {cells slots : Nat} {ls : Array Slot} {B1 B2 a t n pc' q : Nat} {x x' : (Nat → Int32) ⊕ (Nat → Int64) ⊕ (Nat → UInt32) ⊕ (Nat → UInt64) ⊕ (Nat → Option Nat)}
    (hC : px_C g d mi p R s m args meth c) (hR : px_R g ph H) (hS : va_S (px_A g) s.heap H locs) (hl : lv_has ls (pg_ml mi) (px_l g lv)) (h1 : cells + B1 = ph.length) (h2 : slots + B2 = px_sum ph) (h3 : ph.length ≤ pg_MC) (h4 : px_sum ph ≤ pg_MS) (h5 : pg_MC ≤ R.cells + B1) (h6 : pg_MS ≤ R.slots + B2)
    (he : ph[a]? = some (.inl (t, n, x))) (e1 : H'[px_b g + a]? = some (vp_cell (px_ca g t) (px_a g (n, x')))) (e2 : H'.size = H.size) (e3 : ∀ z, z ≠ px_b g + a → H'[z]? = H[z]?)
    (kk : PW l g d mi pc' lv st (ph.set a (.inl (t, n, x'))) Q) : W p l e R s m args below meth c H' (locs ++ [⟨px_b g + a, q⟩]) cells slots (px_E g below s B1 B2 Q) (F0 m pc' ls (st.map (px_v g))) :=
  kk p e R s m args below meth c H' _ cells slots ls B1 B2 hC (hR.set he e2 e3 e1) (hS.put e2 e3 (px_A_in g a)) hl (by rw [List.length_set]; exact h1) (by rw [px_sum_set (e' := .inl (t, n, x')) he rfl]; exact h2) (by rw [List.length_set]; exact h3) (by rw [px_sum_set (e' := .inl (t, n, x')) he rfl]; exact h4) h5 h6
theorem px_iast {a t n : Nat} {f : Nat → Int32} {i x : Int32} (hcd : pg_cd mi pc = some (.iastore, nx, r1, r2)) (he : ph[a]? = some (.inl (t, n, .inl f))) (ht : pg_ty[t]? = some .int) (hin : vp_in i n) (hp : pc + 1 = nx) (kk : PW l g d mi nx lv st (ph.set a (.inl (t, n, .inl (upd f i.toNatClampNeg x)))) Q) : PW l g d mi pc lv (.int x :: .int i :: .ref a :: st) ph Q := by
  subst hp
  intro p e R s m args below meth c H locs cells slots ls B1 B2 hC hR hS hl h1 h2 h3 h4 h5 h6
  have hK : px_K g s := hC.2.2.2.2.2.2.2.2.1
  refine W.iast hC.1 hC.2.1 (hR.2 a _ he) ((hK.2 t _ (px_tys_at ht)).1 n (fun j => .int (f j))) (fun q => by cases q) (by show ¬ (i < 0 ∨ (arrV _ _ _).slots.size ≤ _); rw [arrV_size]; exact hin) rfl rfl (pg_dec hcd) fun H1 e1 z oq => ?_
  refine px_stored hC hR hS hl h1 h2 h3 h4 h5 h6 he ?_ z oq kk
  rw [e1]
  show some ((arrV (px_ca g t) n (fun j => .int (f j))).setSlot _ _) = some (arrV (px_ca g t) n (fun j => .int (upd f i.toNatClampNeg x j)))
  rw [arrV_store]
  congr 2
  funext q
  by_cases hq : q = i.toNatClampNeg
  · subst hq; simp [updV, upd]
  · simp [updV, upd, hq]
theorem px_bast {a t n : Nat} {f : Nat → Int32} {i x : Int32} (hcd : pg_cd mi pc = some (.bastore, nx, r1, r2)) (he : ph[a]? = some (.inl (t, n, .inl f))) (ht : pg_ty[t]? = some .byte) (hin : vp_in i n) (hp : pc + 1 = nx) (kk : PW l g d mi nx lv st (ph.set a (.inl (t, n, .inl (upd f i.toNatClampNeg x.toInt8.toInt32)))) Q) : PW l g d mi pc lv (.int x :: .int i :: .ref a :: st) ph Q := by
  subst hp
  intro p e R s m args below meth c H locs cells slots ls B1 B2 hC hR hS hl h1 h2 h3 h4 h5 h6
  have hK : px_K g s := hC.2.2.2.2.2.2.2.2.1
  refine W.bast hC.1 hC.2.1 (hR.2 a _ he) ((hK.2 t _ (px_tys_at ht)).1 n (fun j => .int (f j))) (fun q => by cases q) (by show ¬ (i < 0 ∨ (arrV _ _ _).slots.size ≤ _); rw [arrV_size]; exact hin) rfl rfl (pg_dec hcd) fun H1 e1 z oq => ?_
  refine px_stored hC hR hS hl h1 h2 h3 h4 h5 h6 he ?_ z oq kk
  rw [e1]
  show some ((arrV (px_ca g t) n (fun j => .int (f j))).setSlot _ _) = some (arrV (px_ca g t) n (fun j => .int (upd f i.toNatClampNeg x.toInt8.toInt32 j)))
  rw [arrV_store]
  congr 2
  funext q
  by_cases hq : q = i.toNatClampNeg
  · subst hq; simp [updV, upd, narrow]
  · simp [updV, upd, hq]
theorem px_zast {a t n : Nat} {f : Nat → Int32} {i x : Int32} (hcd : pg_cd mi pc = some (.bastore, nx, r1, r2)) (he : ph[a]? = some (.inl (t, n, .inl f))) (ht : pg_ty[t]? = some .boolean) (hin : vp_in i n) (hp : pc + 1 = nx) (kk : PW l g d mi nx lv st (ph.set a (.inl (t, n, .inl (upd f i.toNatClampNeg (x &&& 1))))) Q) : PW l g d mi pc lv (.int x :: .int i :: .ref a :: st) ph Q := by
  subst hp
  intro p e R s m args below meth c H locs cells slots ls B1 B2 hC hR hS hl h1 h2 h3 h4 h5 h6
  have hK : px_K g s := hC.2.2.2.2.2.2.2.2.1
  refine W.zast hC.1 hC.2.1 (hR.2 a _ he) ((hK.2 t _ (px_tys_at ht)).1 n (fun j => .int (f j))) (fun q => by cases q) (by show ¬ (i < 0 ∨ (arrV _ _ _).slots.size ≤ _); rw [arrV_size]; exact hin) rfl rfl (pg_dec hcd) fun H1 e1 z oq => ?_
  refine px_stored hC hR hS hl h1 h2 h3 h4 h5 h6 he ?_ z oq kk
  rw [e1]
  show some ((arrV (px_ca g t) n (fun j => .int (f j))).setSlot _ _) = some (arrV (px_ca g t) n (fun j => .int (upd f i.toNatClampNeg (x &&& 1) j)))
  rw [arrV_store]
  congr 2
  funext q
  by_cases hq : q = i.toNatClampNeg
  · subst hq; simp [updV, upd, narrow]
  · simp [updV, upd, hq]
theorem px_last {a t n : Nat} {f : Nat → Int64} {i : Int32} {x : Int64} (hcd : pg_cd mi pc = some (.lastore, nx, r1, r2)) (he : ph[a]? = some (.inl (t, n, .inr (.inl f)))) (ht : pg_ty[t]? = some .long) (hin : vp_in i n) (hp : pc + 1 = nx) (kk : PW l g d mi nx lv st (ph.set a (.inl (t, n, .inr (.inl (vp_updL f i.toNatClampNeg x))))) Q) : PW l g d mi pc lv (.long x :: .int i :: .ref a :: st) ph Q := by
  subst hp
  intro p e R s m args below meth c H locs cells slots ls B1 B2 hC hR hS hl h1 h2 h3 h4 h5 h6
  have hK : px_K g s := hC.2.2.2.2.2.2.2.2.1
  refine W.last hC.1 hC.2.1 (hR.2 a _ he) ((hK.2 t _ (px_tys_at ht)).1 n (fun j => .long (f j))) (fun q => by cases q) (by show ¬ (i < 0 ∨ (arrV _ _ _).slots.size ≤ _); rw [arrV_size]; exact hin) rfl rfl (pg_dec hcd) fun H1 e1 z oq => ?_
  refine px_stored hC hR hS hl h1 h2 h3 h4 h5 h6 he ?_ z oq kk
  rw [e1]
  show some ((arrV (px_ca g t) n (fun j => .long (f j))).setSlot _ _) = some (arrV (px_ca g t) n (fun j => .long (vp_updL f i.toNatClampNeg x j)))
  rw [arrV_store]
  congr 2
  funext q
  by_cases hq : q = i.toNatClampNeg
  · subst hq; simp [updV, vp_updL]
  · simp [updV, vp_updL, hq]
theorem px_aast {a t n w ci : Nat} {f : Nat → Option Nat} {i : Int32} {fs : List Value} {C : String} {T : u_T} {N : Nat} (hcd : pg_cd mi pc = some (.aastore, nx, r1, r2)) (he : ph[a]? = some (.inl (t, n, .inr (.inr (.inr (.inr f)))))) (ht : pg_ty[t]? = some (.object C)) (hw : ph[w]? = some (.inr (ci, fs))) (hc : pg_cl[ci]? = some (C, T, N)) (hin : vp_in i n) (hp : pc + 1 = nx) (kk : PW l g d mi nx lv st (ph.set a (.inl (t, n, .inr (.inr (.inr (.inr (va_up f i.toNatClampNeg (some w)))))))) Q) : PW l g d mi pc lv (.ref w :: .int i :: .ref a :: st) ph Q := by
  subst hp
  intro p e R s m args below meth c H locs cells slots ls B1 B2 hC hR hS hl h1 h2 h3 h4 h5 h6
  have hK : px_K g s := hC.2.2.2.2.2.2.2.2.1
  have hlt : i.toNatClampNeg < n := Nat.not_le.mp fun q => hin (Or.inr q)
  have h0 : ¬ i < 0 := fun q => hin (Or.inl q)
  obtain ⟨r', hr', cellV, g1, g2, g3, -⟩ := hR.2 w _ hw
  have hcls := (hK.1 ci _ hc).2
  obtain ⟨kA, comp, k1, k2, k3, -⟩ := (hK.2 t _ (px_tys_at ht)).2
  have hcomp : comp = (px_D g).1 ci := Option.some.inj (k3.symm.trans hcls.1)
  subst hcomp
  obtain ⟨kC, hkC, -⟩ := hcls.2
  refine W.aast hC.1 hC.2.1 (hR.2 a _ he) (fun q h => by cases h) (fun h => by cases h) k1 k2 rfl hkC ⟨h0, by show _ < (arrV _ _ _).slots.size; rw [arrV_size]; exact hlt⟩ g1 (fun q h => by rw [g3] at h; cases h) (by rw [g2]; exact hkC) (by rw [g2]; exact va_assign hcls) rfl rfl (pg_dec hcd) fun H1 e1 z oq => ?_
  refine px_stored hC hR hS hl h1 h2 h3 h4 h5 h6 he ?_ z oq kk
  rw [e1]
  show some ((arrV (px_ca g t) n (fun j => va_rf (px_f g f j))).setSlot _ _) = some (arrV (px_ca g t) n (fun j => va_rf (px_f g (va_up f i.toNatClampNeg (some w)) j)))
  rw [arrV_store]
  congr 2
  funext q
  by_cases hq : q = i.toNatClampNeg
  · subst hq; simp [updV, va_up, va_rf, px_f]
  · simp [updV, va_up, hq, px_f]
theorem px_aastN {a t n : Nat} {f : Nat → Option Nat} {i : Int32} {C : String} (hcd : pg_cd mi pc = some (.aastore, nx, r1, r2)) (he : ph[a]? = some (.inl (t, n, .inr (.inr (.inr (.inr f)))))) (ht : pg_ty[t]? = some (.object C)) (hin : vp_in i n) (hp : pc + 1 = nx) (kk : PW l g d mi nx lv st (ph.set a (.inl (t, n, .inr (.inr (.inr (.inr (va_up f i.toNatClampNeg none))))))) Q) : PW l g d mi pc lv (.null :: .int i :: .ref a :: st) ph Q := by
  subst hp
  intro p e R s m args below meth c H locs cells slots ls B1 B2 hC hR hS hl h1 h2 h3 h4 h5 h6
  have hK : px_K g s := hC.2.2.2.2.2.2.2.2.1
  refine va_WaastN (C := C) hC.1 hC.2.1 (hR.2 a _ he) ((hK.2 t _ (px_tys_at ht)).1 n (fun j => va_rf (px_f g f j))) (fun h => by cases h) (by show ¬ (i < 0 ∨ (arrV _ _ _).slots.size ≤ _); rw [arrV_size]; exact hin) rfl rfl (pg_dec hcd) fun H1 e1 z oq => ?_
  refine px_stored hC hR hS hl h1 h2 h3 h4 h5 h6 he ?_ z oq kk
  rw [e1]
  show some ((arrV (px_ca g t) n (fun j => va_rf (px_f g f j))).setSlot _ _) = some (arrV (px_ca g t) n (fun j => va_rf (px_f g (va_up f i.toNatClampNeg none) j)))
  rw [arrV_store]
  congr 2
  funext q
  by_cases hq : q = i.toNatClampNeg
  · subst hq; simp [updV, va_up, va_rf, px_f]
  · simp [updV, va_up, hq, px_f]
end PXH
