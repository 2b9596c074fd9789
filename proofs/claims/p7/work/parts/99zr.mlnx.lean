/-! order and addresses of a link: there is but one -/
theorem LYe_u {B tO : Nat → Nat} {tb : Nat → Nat → Nat} {ll : List Nat} {xs : px_NL} {od : List Nat} {ns : Nat} {on : Bool} {rn th : Nat → Bool} {fe0 bg0 : Nat} {G0 : px_PG} {fe1 mem1 bg1 : Nat} {G1 : px_PG} {fe2 mem2 bg2 : Nat} {G4 G5 G2 : px_PG} {sp : Nat} {G3 CM : px_PG} {fe3 : Nat} {fe0' bg0' : Nat} {G0' : px_PG} {fe1' mem1' bg1' : Nat} {G1' : px_PG} {fe2' mem2' bg2' : Nat} {G4' G5' G2' : px_PG} {sp' : Nat} {G3' CM' : px_PG} {fe3' : Nat} (h : LYe B tO tb ll xs od ns on rn th fe0 bg0 G0 fe1 mem1 bg1 G1 fe2 mem2 bg2 G4 G5 G2 sp G3 CM fe3) (h' : LYe B tO tb ll xs od ns on rn th fe0' bg0' G0' fe1' mem1' bg1' G1' fe2' mem2' bg2' G4' G5' G2' sp' G3' CM' fe3') : G0 = G0' ∧ G1 = G1' ∧ bg2 = bg2' ∧ sp = sp' ∧ G3 = G3' ∧ CM = CM' ∧ (fe0, bg0, G0, fe1, mem1, bg1, G1, fe2, mem2, bg2, G4, G5, G2, sp, G3, CM, fe3) = (fe0', bg0', G0', fe1', mem1', bg1', G1', fe2', mem2', bg2', G4', G5', G2', sp', G3', CM', fe3') := by
  obtain ⟨a1, a2, a3, a4, a5, a6, a7, a8, a9, a10, a11, a12, a13, a14, a15, a16, a17⟩ := h
  obtain ⟨b1, b2, b3, b4, b5, b6, b7, b8, b9, b10, b11, b12, b13, b14, b15, b16, b17⟩ := h'
  have c1 : fe0 = fe0' := a1.trans b1.symm
  have c2 : bg0 = bg0' := by rw [a2, b2, c1]
  have c3 : G0 = G0' := by rw [a3, b3, c2]
  have c4 : fe1 = fe1' := by rw [a4, b4, c1, c2, c3]
  have c5 : mem1 = mem1' := by rw [a5, b5, c2, c3]
  have c6 : bg1 = bg1' := by rw [a6, b6, c5, c4]
  have c7 : G1 = G1' := by rw [a7, b7, c6, c3]
  have c8 : fe2 = fe2' := by rw [a8, b8, c4, c7, c6]
  have c9 : mem2 = mem2' := by rw [a9, b9, c6, c7, c5]
  have c10 : bg2 = bg2' := by rw [a10, b10, c9, c8]
  have c11 : G4 = G4' := by rw [a11, b11, c10, c7]
  have c12 : G5 = G5' := by rw [a12, b12, c11]
  have c13 : G2 = G2' := by rw [a13, b13, c11, c12]
  have c14 : sp = sp' := by rw [a14, b14, c13]
  have c15 : G3 = G3' := by rw [a15, b15, c14, c13]
  have c16 : CM = CM' := by rw [a16, b16, c15]
  have c17 : fe3 = fe3' := by rw [a17, b17, c8, c14, c10]
  refine ⟨c3, c7, c10, c14, c15, c16, ?_⟩
  clear a1 a2 a3 a4 a5 a6 a7 a8 a9 a10 a11 a12 a13 a14 a15 a16 a17 b1 b2 b3 b4 b5 b6 b7 b8 b9 b10 b11 b12 b13 b14 b15 b16 b17
  subst c1 c2 c3 c4 c5 c6 c7 c8 c9 c10 c11 c12 c13 c14 c15 c16 c17
  rfl
theorem LKX_u {tO : Nat → Nat} {tb : Nat → Nat → Nat} {dr : Nat → Bool} {xs : px_NL} {od : List Nat} {on : Bool} {rn : Nat → Bool} {B : Nat → Nat} {sy : Nat → Nat → Bool} {ll sl : List Nat} {th : Nat → Bool} {ad ad' : Nat → Nat} {NA NA' : Nat → Int64} {V V' : px_VV} (h : LKX tO tb dr xs od on rn B sy ll sl th ad NA V) (h' : LKX tO tb dr xs od on rn B sy ll sl th ad' NA' V') : ad = ad' ∧ NA = NA' ∧ V = V' := by
  obtain ⟨fe0, bg0, G0, fe1, mem1, bg1, G1, fe2, mem2, bg2, G4, G5, G2, sp, G3, CM, fe3, y1, y2, y3, y4⟩ := h
  obtain ⟨fe0', bg0', G0', fe1', mem1', bg1', G1', fe2', mem2', bg2', G4', G5', G2', sp', G3', CM', fe3', y1', y2', y3', y4'⟩ := h'
  obtain ⟨c1, c2, c3, c4, c5, c6, c7⟩ := LYe_u y1 y1'
  exact ⟨by rw [y2, y2', c5], by rw [y3, y3', c1, c2, c3, c4, c5, c6], y4.trans (c7.trans y4'.symm)⟩
theorem sta_u {tb : Nat → Nat → Nat} {dr R R' : Nat → Bool} : sta tb dr false R = sta tb dr false R' := rfl
theorem cB_u {xs : px_NL} {rn rn' : Nat → Bool} : cB xs false rn = cB xs false rn' := rfl
theorem thc_u {xs : px_NL} {rn rn' : Nat → Bool} : thc xs false rn = thc xs false rn' := rfl
theorem pc1_u {xs : px_NL} {rn rn' : Nat → Bool} : pc1 xs false rn = pc1 xs false rn' := by
  funext th s n
  unfold pc1
  rw [cB_u (rn := rn) (rn' := rn')]
theorem thS_u {tb : Nat → Nat → Nat} {ll : List Nat} {xs : px_NL} {od : List Nat} {rn rn' : Nat → Bool} : thS tb ll xs od false rn = thS tb ll xs od false rn' := by
  funext ns s
  unfold thS
  rw [thc_u (rn := rn) (rn' := rn')]
theorem LKX_c {tO : Nat → Nat} {tb : Nat → Nat → Nat} {dr : Nat → Bool} {xs : px_NL} {od : List Nat} {rn rn' : Nat → Bool} {B : Nat → Nat} {sy : Nat → Nat → Bool} {ll sl : List Nat} {th : Nat → Bool} {ad : Nat → Nat} {NA : Nat → Int64} {V : px_VV} (h : LKX tO tb dr xs od false rn B sy ll sl th ad NA V) : LKX tO tb dr xs od false rn' B sy ll sl th ad NA V := by
  obtain ⟨fe0, bg0, G0, fe1, mem1, bg1, G1, fe2, mem2, bg2, G4, G5, G2, sp, G3, CM, fe3, y1, y2, y3, y4⟩ := h
  obtain ⟨a1, a2, a3, a4, a5, a6, a7, a8, a9, a10, a11, a12, a13, a14, a15, a16, a17⟩ := y1
  rw [pc1_u (rn := rn) (rn' := rn')] at a16
  exact ⟨fe0, bg0, G0, fe1, mem1, bg1, G1, fe2, mem2, bg2, G4, G5, G2, sp, G3, CM, fe3, ⟨a1, a2, a3, a4, a5, a6, a7, a8, a9, a10, a11, a12, a13, a14, a15, a16, a17⟩, y2, y3, y4⟩
theorem lnX_u {fs : px_FS} {s : px_TK} {rc : Bool} {B : Nat → Nat} {ll ll' : List Nat} {ad ad' : Nat → Nat} {NA NA' : px_NA} (h : lnX fs s rc B ll ad NA) (h' : lnX fs s rc B ll' ad' NA') : ll = ll' ∧ ad = ad' ∧ NA = NA' := by
  obtain ⟨R, rn, r1, e1, k1, o1, o2, o3⟩ := h
  obtain ⟨R', rn', r1', e1', k1', o1', o2', o3'⟩ := h'
  cases rc with
  | true =>
    have eR : R = R' := by
      funext x
      have u1 := (r1 rfl).1 x
      have u2 := (r1' rfl).1 x
      cases q1 : R x with
      | true => exact (u2.mpr (u1.mp q1)).symm
      | false =>
        cases q2 : R' x with
        | false => rfl
        | true => rw [u1.mpr (u2.mp q2)] at q1; cases q1
    have en : rn = rn' := by
      funext x
      have u1 := (r1 rfl).2 x
      have u2 := (r1' rfl).2 x
      cases q1 : rn x with
      | true => exact (u2.mpr (u1.mp q1)).symm
      | false =>
        cases q2 : rn' x with
        | false => rfl
        | true => rw [u1.mpr (u2.mp q2)] at q1; cases q1
    subst eR
    subst en
    have el : ll = ll' := e1.trans e1'.symm
    subst el
    obtain ⟨w1, w2, w3⟩ := LKX_u k1 k1'
    exact ⟨rfl, w1, Prod.ext w2 (Prod.ext (o1.trans o1'.symm) (Prod.ext (o2.trans o2'.symm) (Prod.ext (o3.trans o3'.symm) w3)))⟩
  | false =>
    rw [sta_u (R := R) (R' := R')] at e1 k1 o1 o2 o3
    have el : ll = ll' := e1.trans e1'.symm
    subst el
    rw [thS_u (rn := rn) (rn' := rn')] at k1 o1
    obtain ⟨w1, w2, w3⟩ := LKX_u (LKX_c (rn' := rn') k1) k1'
    exact ⟨rfl, w1, Prod.ext w2 (Prod.ext (o1.trans o1'.symm) (Prod.ext (o2.trans o2'.symm) (Prod.ext (o3.trans o3'.symm) w3)))⟩
theorem lnR_le {fs : px_FS} {gs : List (List Nat × Int64)} {ws : List (List Nat)} {rc : Bool} {B : Nat → Nat} {s : px_TK} {k : Nat} (hl : lnR fs gs ws rc B s k) (hs : s.1.1 ≤ 2) : k ≤ 4 := by
  have ha : anN fs ws s (xsN s) ≤ 2 := by unfold anN; repeat (first | omega | split)
  by_cases c : anN fs ws s (xsN s) = 0
  · obtain ⟨R, rn, _, fe0, bg0, G0, fe1, mem1, bg1, G1, fe2, mem2, bg2, G4, G5, G2, sp, G3, CM, fe3, _, e⟩ := hl.2.2 c
    rw [e]
    split
    · omega
    · split <;> omega
  · have := hl.2.1 c
    omega
/-- what a name is: 1 to 20 bytes, none of them 0 -/
def nT (w : List Nat) : Prop := 1 ≤ w.length ∧ w.length ≤ 20 ∧ ∀ x, x ∈ w → x ≠ 0
theorem nzf_i {b : Nat → Nat} : ∀ (d k : Nat), nzf b k d = true ↔ ∀ i, i < d → b (k + i) ≠ 0 := by
  intro d
  induction d with
  | zero => intro k; exact ⟨fun _ i h => absurd h (Nat.not_lt_zero i), fun _ => rfl⟩
  | succ d ih =>
    intro k
    unfold nzf
    rw [Bool.and_eq_true, ih (k + 1), decide_eq_true_eq]
    constructor
    · intro h i hi
      cases i with
      | zero => exact h.1
      | succ i =>
        have := h.2 i (by omega)
        rw [show k + (i + 1) = k + 1 + i by omega]
        exact this
    · intro h
      refine ⟨h 0 (by omega), fun i hi => ?_⟩
      rw [show k + 1 + i = k + (i + 1) by omega]
      exact h (i + 1) (by omega)
theorem tk_mem {b : Nat → Nat} {p k x : Nat} (h : x ∈ tk b p k) : ∃ j, j < k ∧ x = b (p + j) := by
  obtain ⟨j, hj⟩ := List.mem_iff_getElem?.mp h
  have hl := (List.getElem?_eq_some_iff.mp hj).1
  rw [tk_len] at hl
  rw [tk_get b p k j hl] at hj
  exact ⟨j, hl, (Option.some.inj hj).symm⟩
theorem nT_tnm {b : Nat → Nat} {n : Nat} : tnm b n = true ↔ nT (tk b 0 n) := by
  constructor
  · intro h
    obtain ⟨h1, h2, h3⟩ := tnm_n h
    refine ⟨by rw [tk_len]; exact h1, by rw [tk_len]; exact h2, fun x hx => ?_⟩
    obtain ⟨j, hj, rfl⟩ := tk_mem hx
    exact (nzf_i n 0).mp h3 j hj
  · rintro ⟨h1, h2, h3⟩
    rw [tk_len] at h1 h2
    unfold tnm
    rw [decide_eq_true h1, decide_eq_true h2, Bool.true_and, Bool.true_and]
    refine (nzf_i n 0).mpr (fun i hi => h3 _ ?_)
    exact List.mem_of_getElem? (tk_get b 0 n i hi)
theorem nT_yT {b : Nat → Nat} {k : Nat} (h : yG b k = true) : nT (yT b k) := by
  obtain ⟨h1, h2, _⟩ := yG_n h
  unfold yT
  refine ⟨by rw [tk_len]; exact h1, by rw [tk_len]; exact h2, fun x hx => ?_⟩
  obtain ⟨j, hj, rfl⟩ := tk_mem hx
  exact run_nz hj
theorem nT_tlG : ∀ (l : List (List Nat × Int64)) (s : px_NL × List Nat), (∀ w, w ∈ l.map Prod.fst → nT w) → (∀ w, w ∈ s.1.map Prod.fst → nT w) → ∀ w, w ∈ (tlG l s).1.map Prod.fst → nT w
  | [], _, _, h => h
  | g :: l, s, hl, h => by
    unfold tlG
    refine nT_tlG l _ (fun w hw => hl w (List.mem_cons_of_mem _ hw)) (fun w hw => ?_)
    rw [setR_fst, entL_fst] at hw
    rcases ent_mem.mp hw with e | e
    · rw [e]; exact hl _ (List.mem_cons_self ..)
    · exact h w e
theorem nT_tlW : ∀ (l : List (List Nat)) (xs : px_NL), (∀ w, w ∈ l → nT w) → (∀ w, w ∈ xs.map Prod.fst → nT w) → ∀ w, w ∈ (tlW l xs).map Prod.fst → nT w
  | [], _, _, h => h
  | v :: l, xs, hl, h => by
    unfold tlW
    refine nT_tlW l _ (fun w hw => hl w (List.mem_cons_of_mem _ hw)) (fun w hw => ?_)
    rw [setR_fst, entL_fst] at hw
    rcases ent_mem.mp hw with e | e
    · rw [e]; exact hl _ (List.mem_cons_self ..)
    · exact h w e
theorem nT_taL {fs : px_FS} {gs : List (List Nat × Int64)} {ws : List (List Nat)} (hf : FSo fs) (hg : ∀ w, w ∈ gs.map Prod.fst → nT w) (hw : ∀ w, w ∈ ws → nT w) : ∀ w, w ∈ (taL fs (xs0 gs ws) (od0 gs)).1.2.1.map Prod.fst → nT w := by
  refine TK_inv (P := fun s : px_TS => ∀ w, w ∈ txs s → nT w) (fun dr t b k s hy h w hw' => ?_) hf ?_
  · rw [tk1_fst] at hw'
    by_cases hB : yB b k = 0
    · rw [if_pos hB] at hw'; exact h w hw'
    · rw [if_neg hB] at hw'
      rcases ent_mem.mp hw' with e | e
      · rw [e]; exact nT_yT (yOK_n hy hB).2.1
      · exact h w e
  · exact nT_tlW ws _ hw (nT_tlG gs ([], []) hg (fun w h => by cases h))
