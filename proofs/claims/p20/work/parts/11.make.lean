/-! making cells, constants, returns -/
theorem px_sum_push (ph : px_H) (e : px_PE) : px_sum (ph ++ [e]) = px_sum ph + px_sz e := by simp [px_sum]
theorem px_def (g : px_G) (ty : FieldType) : px_v g (defaultValue ty) = defaultValue ty := by cases ty <;> rfl
/-- the fields of a new object -/
def px_nf (ci N : Nat) : List Value := (List.range N).map (fun k => defaultValue (pg_ftp ci k))
theorem px_nf_at (g : px_G) (ci N j : Nat) (hj : j < N) : defaultValue (pg_ftp ci j) = vp_V ((px_nf ci N).map (px_v g)) j := by
  simp [vp_V, px_nf, List.getD_eq_getElem?_getD, List.getElem?_map, List.getElem?_range hj, px_def]
section PXN
variable {l : Launch} {g : px_G} {d mi pc : Nat} {lv : px_L} {st : List Value} {ph : px_H} {Q : px_Q} {len nx r1 r2 : Nat}
theorem px_new {idx ci : Nat} {C : String} {T : u_T} {N : Nat} (hcd : pg_cd mi pc = some (.new idx, nx, ci, r2)) (hc : pg_cl[ci]? = some (C, T, N)) (hm : ph.length < pg_MC) (hs : px_sum ph + pg_in ci ≤ pg_MS) (hp : pc + 3 = nx) (kk : PW l g d mi nx lv (.ref ph.length :: st) (ph ++ [.inr (ci, px_nf ci N)]) Q) : PW l g d mi pc lv st ph Q := by
  subst hp
  intro p e R s m args below meth c H locs cells slots ls B1 B2 hC hR hS hl h1 h2 h3 h4 h5 h6
  have hC' := hC
  obtain ⟨hx, hb, hml, hrt, hown, hts, hlk, hnm, hK, hbs, hZ, hd1, hd2, hWs, hB⟩ := hC
  obtain ⟨hcl, hinst, hini⟩ := pg_new hcd hc
  obtain ⟨hty, hnms⟩ := pg_cls hc
  have hin := pg_cin hc
  have hKn := hK.1 ci _ hc
  refine W.newcK hx hb hown (hts _ hcl) (hts _ hinst) (hts _ hini) rfl (pg_dec hcd) (by omega) (by omega) hKn.2.1 hR.1 fun H1 kC hkC e1 z1 o1 => ?_
  refine kk p e R s m args below meth c H1 locs (cells + 1) (slots + pg_in ci) ls B1 B2 hC' (hR.push (by rw [z1, hR.1]) (fun q hq => o1 q (by rw [← hR.1]; exact hq)) ?_) ⟨Nat.le_trans hS.1 (by rw [z1, hR.1]; omega), fun x g1 g2 => (o1 x (by rw [← hR.1]; exact Nat.lt_of_lt_of_le g1 hS.1)).trans (hS.2.1 x g1 g2), hS.2.2⟩ hl (by simp; omega) (by rw [px_sum_push]; show _ = _ + pg_in ci; omega) (by simp; omega) (by rw [px_sum_push]; exact hs) h5 h6
  exact ⟨_, hc, (u_born (pg_ftp ci) hts hin hKn hkC e1 hty).to (fun j hj => px_nf_at g ci N j hj)⟩
theorem px_newI {at_ : ArrayType} {t : Nat} {ty : FieldType} {n : Int32} {N : Nat} (hcd : pg_cd mi pc = some (.newarray at_, nx, t, r2)) (ht : pg_ty[t]? = some ty) (hty : newarray.typeOf at_ = ty) (hk : ty = .int ∨ ty = .byte ∨ ty = .boolean) (hn : ¬ n < 0) (hN : n.toNatClampNeg = N) (hN2 : N ≤ 1000000) (hm : ph.length < pg_MC) (hs : px_sum ph + N ≤ pg_MS)
    (hp : pc + 2 = nx) (kk : PW l g d mi nx lv (.ref ph.length :: st) (ph ++ [.inl (t, N, .inl (fun _ => 0))]) Q) : PW l g d mi pc lv (.int n :: st) ph Q := by
  subst hp
  intro p e R s m args below meth c H locs cells slots ls B1 B2 hC hR hS hl h1 h2 h3 h4 h5 h6
  have hC' := hC
  obtain ⟨hx, hb, hml, hrt, hown, hts, hlk, hnm, hK, hbs, hZ, hd1, hd2, hWs, hB⟩ := hC
  have hcb : N * componentBytes (newarray.typeOf at_) ≤ 536870912 := by
    rw [hty]
    rcases hk with rfl | rfl | rfl
    · show N * 4 ≤ _; omega
    · show N * 1 ≤ _; omega
    · show N * 1 ≤ _; omega
  refine va_newaK hx hb (hts _ (pg_arr hcd)) rfl (pg_dec hcd) rfl hn hN hcb (by omega) (by omega) hR.1 fun H1 cA e1 z1 o1 hAr hNm => ?_
  have hcA : cA = px_ca g t := by
    have h7 := (hK.2 t _ (px_tys_at ht)).2
    rw [hty] at hNm
    rcases hk with rfl | rfl | rfl <;> exact Option.some.inj (hNm.symm.trans h7)
  subst hcA
  refine kk p e R s m args below meth c H1 locs (cells + 1) (slots + N) ls B1 B2 hC' (hR.push (by rw [z1, hR.1]) (fun q hq => o1 q (by rw [← hR.1]; exact hq)) ?_) ⟨Nat.le_trans hS.1 (by rw [z1, hR.1]; omega), fun x g1 g2 => (o1 x (by rw [← hR.1]; exact Nat.lt_of_lt_of_le g1 hS.1)).trans (hS.2.1 x g1 g2), hS.2.2⟩ hl (by simp; omega) (by rw [px_sum_push]; show _ = _ + N; omega) (by simp; omega) (by rw [px_sum_push]; exact hs) h5 h6
  show H1[px_b g + ph.length]? = some (arrV (px_ca g t) N (fun _ => .int 0))
  rw [e1, hty]
  rcases hk with rfl | rfl | rfl <;> rfl
theorem px_newL {t : Nat} {n : Int32} {N : Nat} (hcd : pg_cd mi pc = some (.newarray .long, nx, t, r2)) (ht : pg_ty[t]? = some .long) (hn : ¬ n < 0) (hN : n.toNatClampNeg = N) (hN2 : N ≤ 1000000) (hm : ph.length < pg_MC) (hs : px_sum ph + N ≤ pg_MS)
    (hp : pc + 2 = nx) (kk : PW l g d mi nx lv (.ref ph.length :: st) (ph ++ [.inl (t, N, .inr (.inl (fun _ => 0)))]) Q) : PW l g d mi pc lv (.int n :: st) ph Q := by
  subst hp
  intro p e R s m args below meth c H locs cells slots ls B1 B2 hC hR hS hl h1 h2 h3 h4 h5 h6
  have hC' := hC
  obtain ⟨hx, hb, hml, hrt, hown, hts, hlk, hnm, hK, hbs, hZ, hd1, hd2, hWs, hB⟩ := hC
  refine va_newaK hx hb (hts _ (pg_arr hcd)) rfl (pg_dec hcd) rfl hn hN (by show N * 8 ≤ _; omega) (by omega) (by omega) hR.1 fun H1 cA e1 z1 o1 hAr hNm => ?_
  have hcA : cA = px_ca g t := Option.some.inj (hNm.symm.trans (hK.2 t _ (px_tys_at ht)).2)
  subst hcA
  refine kk p e R s m args below meth c H1 locs (cells + 1) (slots + N) ls B1 B2 hC' (hR.push (by rw [z1, hR.1]) (fun q hq => o1 q (by rw [← hR.1]; exact hq)) ?_) ⟨Nat.le_trans hS.1 (by rw [z1, hR.1]; omega), fun x g1 g2 => (o1 x (by rw [← hR.1]; exact Nat.lt_of_lt_of_le g1 hS.1)).trans (hS.2.1 x g1 g2), hS.2.2⟩ hl (by simp; omega) (by rw [px_sum_push]; show _ = _ + N; omega) (by simp; omega) (by rw [px_sum_push]; exact hs) h5 h6
  exact e1
theorem px_anew {idx t : Nat} {C : String} {n : Int32} {N : Nat} (hcd : pg_cd mi pc = some (.anewarray idx, nx, t, r2)) (ht : pg_ty[t]? = some (.object C)) (hn : ¬ n < 0) (hN : n.toNatClampNeg = N) (hN2 : N ≤ 1000000) (hm : ph.length < pg_MC) (hs : px_sum ph + N ≤ pg_MS)
    (hp : pc + 3 = nx) (kk : PW l g d mi nx lv (.ref ph.length :: st) (ph ++ [.inl (t, N, .inr (.inr (.inr (.inr (fun _ => none)))))]) Q) : PW l g d mi pc lv (.int n :: st) ph Q := by
  subst hp
  intro p e R s m args below meth c H locs cells slots ls B1 B2 hC hR hS hl h1 h2 h3 h4 h5 h6
  have hC' := hC
  obtain ⟨hx, hb, hml, hrt, hown, hts, hlk, hnm, hK, hbs, hZ, hd1, hd2, hWs, hB⟩ := hC
  obtain ⟨hcl, hov⟩ := pg_arrq hcd ht
  subst hN
  refine W.anew hx hb hown (hts _ hcl) (va_AO.use (hWs.2 _ hov)) rfl (pg_dec hcd) rfl hn (by omega) (by omega) (by omega) fun cA kA comp f1 f2 f3 f4 => ?_
  obtain ⟨kA', comp', k1, k2, k3, k4⟩ := (hK.2 t _ (px_tys_at ht)).2
  have hcA : cA = px_ca g t := Option.some.inj (f1.symm.trans k4)
  subst hcA
  generalize hH1 : H.push ({ cls := px_ca g t, slots := Array.replicate n.toNatClampNeg .null, vm := .none } : Cell) = H1
  have z1 : H1.size = H.size + 1 := by rw [← hH1, Array.size_push]
  have e1 : H1[H.size]? = some (arrV (px_ca g t) n.toNatClampNeg (fun _ => .null)) := by rw [← hH1, Array.getElem?_push_size, ← arrV_new]
  have o1 : ∀ q : Nat, q < H.size → H1[q]? = H[q]? := fun q hq => by rw [← hH1, Array.getElem?_push, if_neg (Nat.ne_of_lt hq)]
  rw [hR.1]
  refine kk p e R s m args below meth c H1 locs (cells + 1) (slots + n.toNatClampNeg) ls B1 B2 hC' (hR.push z1 o1 ?_) ⟨Nat.le_trans hS.1 (by omega), fun x g1 g2 => (o1 x (Nat.lt_of_lt_of_le g1 hS.1)).trans (hS.2.1 x g1 g2), hS.2.2⟩ hl (by simp; omega) (by rw [px_sum_push]; show _ = _ + n.toNatClampNeg; omega) (by simp; omega) (by rw [px_sum_push]; exact hs) h5 h6
  show H1[px_b g + ph.length]? = some (arrV (px_ca g t) n.toNatClampNeg (fun _ => .null))
  rw [← hR.1, e1]
theorem px_gets {idx j : Nat} (hcd : pg_cd mi pc = some (.getstatic idx, nx, j, r2)) (hp : pc + 3 = nx) (kk : PW l g d mi nx lv (.retAddr j :: st) ph Q) : PW l g d mi pc lv st ph Q := by
  subst hp
  intro p e R s m args below meth c H locs cells slots ls B1 B2 hC hR hS hl h1 h2 h3 h4 h5 h6
  have k1 := kk p e R s m args below meth c H locs cells slots ls B1 B2 hC hR hS hl h1 h2 h3 h4 h5 h6
  obtain ⟨hx, hb, hml, hrt, hown, hts, hlk, hnm, hK, hbs, hZ, hd1, hd2, hWs, hB⟩ := hC
  obtain ⟨C, n, ds, hq, hlink⟩ := pg_gst hcd
  rcases hlink with hlink | ⟨host, hlink⟩
  · exact va_gets hx hb (hZ.2 _ hq) hS hown (hts _ hlink) (fun _ h => h) (pg_dec hcd) k1
  · exact va_getsN hx hb (hZ.2 _ hq) hS hown (va_Nw.use (by rfl) (hWs.1 _ hlink)) (fun _ h => h) (pg_dec hcd) k1
theorem px_ldc {idx : Nat} {v : Int32} (hcd : pg_cd mi pc = some (.ldc idx, nx, r1, r2)) (h9 : ¬ r2 = 1) (hv : pg_ki[r1]? = some v) (hp : pc + 2 = nx) (kk : PW l g d mi nx lv (.int v :: st) ph Q) : PW l g d mi pc lv st ph Q := by
  subst hp
  intro p e R s m args below meth c H locs cells slots ls B1 B2 hC hR hS hl h1 h2 h3 h4 h5 h6
  have k1 := kk p e R s m args below meth c H locs cells slots ls B1 B2 hC hR hS hl h1 h2 h3 h4 h5 h6
  obtain ⟨hx, hb, hml, hrt, hown, hts, hlk, hnm, hK, hbs, hZ, hd1, hd2, hWs, hB⟩ := hC
  exact lv_ldc hx hb hown (hts _ (pg_ldc hcd h9 hv)) (pg_dec hcd) k1
theorem px_ldcw {idx : Nat} {v : Int32} (hcd : pg_cd mi pc = some (.ldc_w idx, nx, r1, r2)) (h9 : ¬ r2 = 1) (hv : pg_ki[r1]? = some v) (hp : pc + 3 = nx) (kk : PW l g d mi nx lv (.int v :: st) ph Q) : PW l g d mi pc lv st ph Q := by
  subst hp
  intro p e R s m args below meth c H locs cells slots ls B1 B2 hC hR hS hl h1 h2 h3 h4 h5 h6
  have k1 := kk p e R s m args below meth c H locs cells slots ls B1 B2 hC hR hS hl h1 h2 h3 h4 h5 h6
  obtain ⟨hx, hb, hml, hrt, hown, hts, hlk, hnm, hK, hbs, hZ, hd1, hd2, hWs, hB⟩ := hC
  exact lv_ldcw hx hb hown (hts _ (pg_ldcw hcd h9 hv)) (pg_dec hcd) k1
theorem px_ldc2 {idx : Nat} {v : Int64} (hcd : pg_cd mi pc = some (.ldc2_w idx, nx, r1, r2)) (hv : pg_kl[r1]? = some v) (hp : pc + 3 = nx) (kk : PW l g d mi nx lv (.long v :: st) ph Q) : PW l g d mi pc lv st ph Q := by
  subst hp
  intro p e R s m args below meth c H locs cells slots ls B1 B2 hC hR hS hl h1 h2 h3 h4 h5 h6
  have k1 := kk p e R s m args below meth c H locs cells slots ls B1 B2 hC hR hS hl h1 h2 h3 h4 h5 h6
  obtain ⟨hx, hb, hml, hrt, hown, hts, hlk, hnm, hK, hbs, hZ, hd1, hd2, hWs, hB⟩ := hC
  exact lv_ldc2 hx hb hown (hts _ (pg_ldc2 hcd hv)) (pg_dec hcd) k1
-- returns
theorem px_end {s T t : State} {H : Heap} {locs : List Loc} {cells slots : Nat} {B1 B2 : Nat} {r : Option Value} (hT : T.heap = H) (ht : t.heap = T.heap) (hR : px_R g ph H) (hS : va_S (px_A g) s.heap H locs) (h1 : cells + B1 = ph.length) (h2 : slots + B2 = px_sum ph) (h3 : ph.length ≤ pg_MC) (h4 : px_sum ph ≤ pg_MS)
    (hW : s.WarmedH t.vm) (hF : s.sameButNew ({ t with vm := s.vm } : State) locs cells slots) (hq : Q (.inl r) ph) : px_O g B1 B2 Q s (.returned (r.map (px_v g))) t :=
  ⟨ph, locs, cells, slots, hW, hF, hS.2.2, h1, h2, h3, h4, by rw [ht, hT]; exact hR, hS.F (by rw [ht, hT]), Or.inl ⟨r, rfl, hq⟩⟩
theorem px_iret {x : Int32} (hcd : pg_cd mi pc = some (.ireturn, nx, r1, r2)) (hrt : pg_rt mi = some .int ∨ (pg_rt mi = some .boolean ∧ (x = 0 ∨ x = 1))) (hp : pc + 1 = nx) (hq : Q (.inl (some (.int x))) ph) : PW l g d mi pc lv [.int x] ph Q := by
  subst hp
  intro p e R s m args below meth c H locs cells slots ls B1 B2 hC hR hS hl h1 h2 h3 h4 h5 h6
  intro T hT X
  obtain ⟨hx, hb, hml, hr, hown, hts, hlocks, hnm, hK, hbs, hZ, hd1, hd2, hWs, hB⟩ := hC
  have hdg := pg_dec hcd
  obtain ⟨fs, hret, hrun, hended, hW, hframe⟩ := X.leave (v := some (.int x)) (fun h => by rcases hrt with h7 | h7 <;> (rw [hr] at h; first | (rw [h7] at h; cases h) | (rw [h7.1] at h; cases h))) hlocks
  have hmeth' : T.vm.method? m = some meth := X.method'
  refine ⟨T.setFrames fs, ?_, .returned (some (.int x)), hrun, hended, px_end (r := some (.int x)) hT rfl hR hS h1 h2 h3 h4 hW hframe hq⟩
  rcases hrt with h7 | ⟨h7, h8⟩
  · rw [h7] at hr
    jvm_step X.here [X.here.top, hx, hb, hdg, hmeth', hr, narrow, px_v]
    (try refine ⟨rfl, ?_⟩); (try refine ⟨rfl, ?_⟩)
    first | (intro acts; rw [hret _ acts rfl rfl rfl]) | rw [hret _ _ rfl rfl rfl]
    exact Steps.refl _
  · rw [h7] at hr
    have hn : narrow .boolean (.int x) = .int x := by rcases h8 with rfl | rfl <;> rfl
    jvm_step X.here [X.here.top, hx, hb, hdg, hmeth', hr, hn, px_v]
    (try refine ⟨rfl, ?_⟩); (try refine ⟨rfl, ?_⟩)
    first | (intro acts; rw [hret _ acts rfl rfl rfl]) | rw [hret _ _ rfl rfl rfl]
    exact Steps.refl _
theorem px_lret {x : Int64} (hcd : pg_cd mi pc = some (.lreturn, nx, r1, r2)) (hrt : pg_rt mi = some .long) (hp : pc + 1 = nx) (hq : Q (.inl (some (.long x))) ph) : PW l g d mi pc lv [.long x] ph Q := by
  subst hp
  intro p e R s m args below meth c H locs cells slots ls B1 B2 hC hR hS hl h1 h2 h3 h4 h5 h6
  intro T hT X
  obtain ⟨hx, hb, hml, hr, hown, hts, hlocks, hnm, hK, hbs, hZ, hd1, hd2, hWs, hB⟩ := hC
  have hdg := pg_dec hcd
  rw [hrt] at hr
  obtain ⟨fs, hret, hrun, hended, hW, hframe⟩ := X.leave (v := some (.long x)) (fun h => by rw [hr] at h; cases h) hlocks
  have hmeth' : T.vm.method? m = some meth := X.method'
  refine ⟨T.setFrames fs, ?_, .returned (some (.long x)), hrun, hended, px_end (r := some (.long x)) hT rfl hR hS h1 h2 h3 h4 hW hframe hq⟩
  jvm_step X.here [X.here.top, hx, hb, hdg, hmeth', hr, narrow, px_v]
  (try refine ⟨rfl, ?_⟩); (try refine ⟨rfl, ?_⟩)
  first | (intro acts; rw [hret _ acts rfl rfl rfl]) | rw [hret _ _ rfl rfl rfl]
  exact Steps.refl _
theorem px_vret (hcd : pg_cd mi pc = some (.return_, nx, r1, r2)) (hrt : pg_rt mi = none) (hp : pc + 1 = nx) (hq : Q (.inl none) ph) : PW l g d mi pc lv [] ph Q := by
  subst hp
  intro p e R s m args below meth c H locs cells slots ls B1 B2 hC hR hS hl h1 h2 h3 h4 h5 h6
  intro T hT X
  obtain ⟨hx, hb, hml, hr, hown, hts, hlocks, hnm, hK, hbs, hZ, hd1, hd2, hWs, hB⟩ := hC
  have hdg := pg_dec hcd
  rw [hrt] at hr
  obtain ⟨fs, hret, hrun, hended, hW, hframe⟩ := X.leave (v := none) (fun _ => rfl) hlocks
  have hmeth' : T.vm.method? m = some meth := X.method'
  refine ⟨T.setFrames fs, ?_, .returned none, hrun, hended, px_end (r := none) hT rfl hR hS h1 h2 h3 h4 hW hframe hq⟩
  jvm_step X.here [X.here.top, hx, hb, hdg, hmeth', hr, px_v]
  (try refine ⟨rfl, ?_⟩); (try refine ⟨rfl, ?_⟩)
  first | (intro acts; rw [hret _ acts rfl rfl rfl]) | rw [hret _ _ rfl rfl rfl]
  exact Steps.refl _
theorem px_aret {v : Value} {rt : FieldType} (hcd : pg_cd mi pc = some (.areturn, nx, r1, r2)) (hrt : pg_rt mi = some rt) (hrt2 : (∃ n, rt = .object n) ∨ ∃ t, rt = .array t) (hv : pm_kd v = 2) (hp : pc + 1 = nx) (hq : Q (.inl (some v)) ph) : PW l g d mi pc lv [v] ph Q := by
  subst hp
  intro p e R s m args below meth c H locs cells slots ls B1 B2 hC hR hS hl h1 h2 h3 h4 h5 h6
  intro T hT X
  obtain ⟨hx, hb, hml, hr, hown, hts, hlocks, hnm, hK, hbs, hZ, hd1, hd2, hWs, hB⟩ := hC
  have hdg := pg_dec hcd
  rw [hrt] at hr
  obtain ⟨fs, hret, hrun, hended, hW, hframe⟩ := X.leave (v := some (px_v g v)) (fun h => by rw [hr] at h; cases h) hlocks
  have hmeth' : T.vm.method? m = some meth := X.method'
  refine ⟨T.setFrames fs, ?_, .returned (some (px_v g v)), hrun, hended, px_end (r := some v) hT rfl hR hS h1 h2 h3 h4 hW hframe hq⟩
  have hv' : px_v g v = .null ∨ ∃ a, px_v g v = .ref a := by cases v <;> first | (cases hv; done) | exact Or.inl rfl | exact Or.inr ⟨_, rfl⟩
  show Steps p.tables e below (T.setTop (F0 m pc ls [px_v g v])) _
  generalize px_v g v = w at hv' hret ⊢
  rcases hrt2 with ⟨n, rfl⟩ | ⟨t, rfl⟩ <;> rcases hv' with rfl | ⟨a, rfl⟩ <;>
    (jvm_step X.here [X.here.top, hx, hb, hdg, hmeth', hr]
     (try refine ⟨rfl, ?_⟩); (try refine ⟨rfl, ?_⟩)
     first | (intro acts; rw [hret _ acts rfl rfl rfl]) | rw [hret _ _ rfl rfl rfl]
     exact Steps.refl _)
end PXN
