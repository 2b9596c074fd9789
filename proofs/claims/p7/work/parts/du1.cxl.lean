/-! what a link leaves, as the class has it -/
/-- members taken for a name were taken -/
def CQs (s : px_TK) : Prop := ∀ q i, s.2.2.2 q = some i → q ∈ s.2.2.1
theorem CQs_tk {s : px_TK} {b : Nat → Nat} {q : Nat} (h : CQs s) : CQs (tkM b q s) := fun q' i hi => List.mem_append_left _ (h q' i hi)
theorem CQs_tf1 {fs : px_FS} {f k : Nat} {p : px_TK × Bool} (h : CQs p.1) : CQs (tf1 fs f k p).1 := by
  unfold tf1
  split
  · exact h
  · split
    · exact h
    · rename_i y hy
      split
      · exact h
      · split
        · exact h
        · rename_i i hi
          intro q' i' he
          have he : (if q' = 8 * f + k then some i else p.1.2.2.2 q') = some i' := he
          show q' ∈ p.1.2.2.1 ++ [8 * f + k]
          by_cases c : q' = 8 * f + k
          · exact List.mem_append_right _ (List.mem_singleton.mpr c)
          · rw [if_neg c] at he
            exact List.mem_append_left _ (h q' i' he)
theorem CQs_tfL {fs : px_FS} {f c : Nat} {s : px_TK} (h : CQs s) : CQs (tfL fs f c s) := by
  unfold tfL
  refine whl_inv (st := tfS) (g := rdF fs f) (P := CQs) (fun s hs => ?_) c s h
  unfold rdF
  exact itr_inv (g := tf1 fs f) (P := fun p : px_TK × Bool => CQs p.1) (a := 0) (e := 8) (fun k p _ _ hp => CQs_tf1 hp) 8 0 (s, false) (Nat.le_refl _) (Nat.le_refl _) hs
theorem CQs_ta1 {fs : px_FS} {f : Nat} {s : px_TK} (h : CQs s) : CQs (ta1 fs f s) := by
  unfold ta1
  split
  · exact h
  · split
    · exact h
    · split
      · exact CQs_tfL h
      · exact CQs_tk h
theorem CQs_tas {fs : px_FS} : ∀ (c f : Nat) (s : px_TK), CQs s → CQs (itr (ta1 fs) f c s) := by
  intro c
  induction c with
  | zero => intro f s h; exact h
  | succ c ih =>
    intro f s h
    rw [itr_s]
    exact ih (f + 1) _ (CQs_ta1 h)
theorem CQs_taL {fs : px_FS} {xs : px_NL} {od : List Nat} : CQs (taL fs xs od) := CQs_tas 8 0 _ (fun q i h => by cases h)
def pg0 : px_PG := (0, (fun _ => 0), none)
def na0 : px_NA := (fun _ => 0, fun _ => false, [], fun _ _ => false, 0, 0, pg0, 0, 0, 0, pg0, 0, 0, 0, pg0, pg0, pg0, 0, pg0, pg0, 0)
/-- what a link left -/
def lnY (fs : px_FS) (s : px_TK) (ll : List Nat) (ad : Nat → Nat) (NA : px_NA) : px_Y := ((fun q => decide (q ∈ s.2.2.1), vFe NA.2.2.2.2, NA.2.1), fun q => (s.2.2.2 q).bind (fun i => (s.1.2.1.map Prod.fst)[i]?), ll.map (fun x => (tQf s.2.2.1 (x / 24) / 8, tQf s.2.2.1 (x / 24) % 8, x % 24, oG (tB fs s.2.2.1 (x / 24)) (x % 24), oZ (tB fs s.2.2.1 (x / 24)) (x % 24), ad x)), (xsN s).mapIdx (fun j x => (x.1, NA.1 j)), s.1.2.2.1)
theorem mI_fst (l : px_NL) (NA : Nat → Int64) : (l.mapIdx (fun j x => (x.1, NA j))).map Prod.fst = l.map Prod.fst := by
  apply List.ext_getElem?
  intro i
  rw [List.getElem?_map, List.getElem?_mapIdx, List.getElem?_map]
  cases l[i]? <;> rfl
section CXL
variable {sk : Nat → Nat × Nat × Nat} {L : Nat} {own : Nat → Nat × Nat} {τ : px_TT} {fs : px_FS} {s : px_TK} {gs : List (List Nat × Int64)} {ws : List (List Nat)} {ST rn : Nat → Bool} {rc : Bool} {B : Nat → Nat} {a : Nat}
theorem CX_link (es : s = taL fs (xs0 gs ws) (od0 gs)) (ha : a ≤ 4) (hT : TKe sk L own τ fs s (xsN s) ST rn) (hc : ∀ q, q < 64 → CC2 τ fs s q) (hk : a = 0 → CKY fs s rc B τ) (hnt : ∀ w, w ∈ s.1.2.1.map Prod.fst → nT w) : ∃ ll ad NA, CX sk L τ fs (nI a) (lnY fs s ll ad NA) ∧ (a = 0 → lnX fs s rc B ll ad NA) := by
  have hQ : CQs s := by rw [es]; exact CQs_taL
  have hBK := hT.2.2.2.2.1.1
  have hm : ∀ ll ad NA, CXm τ fs (lnY fs s ll ad NA).1.1 (lnY fs s ll ad NA).2.1 := fun ll ad NA q hq => by
    obtain ⟨h15, h16n, h16⟩ := hc q hq
    refine ⟨h15, fun e => ?_, fun w e => ?_, fun c => ?_⟩
    · have e : (s.2.2.2 q).bind (fun i => (s.1.2.1.map Prod.fst)[i]?) = none := e
      cases ei : s.2.2.2 q with
      | none => exact h16n ei
      | some i =>
        rw [ei] at e
        have e : (s.1.2.1.map Prod.fst)[i]? = none := e
        obtain ⟨o, n, b, j, x1, x2, x3, x4, x5, x6⟩ := h16 i ei
        have u := idx_some x6
        rw [Nat.sub_zero, e] at u
        cases u
    · have e : (s.2.2.2 q).bind (fun i => (s.1.2.1.map Prod.fst)[i]?) = some w := e
      cases ei : s.2.2.2 q with
      | none => rw [ei] at e; cases e
      | some i =>
        rw [ei] at e
        have e : (s.1.2.1.map Prod.fst)[i]? = some w := e
        obtain ⟨o, n, b, j, x1, x2, x3, x4, x5, x6⟩ := h16 i ei
        have u := idx_some x6
        rw [Nat.sub_zero, e] at u
        exact ⟨decide_eq_true (hQ q i ei), o, n, b, j, x1, x2, x3, x4, x5, (Option.some.inj u).symm⟩
    · refine decide_eq_false (fun hmem => ?_)
      obtain ⟨_, o, n, b, hob⟩ := hBK.2.2.2.2.2.2 q hmem
      have := obAt_lt hob
      omega
  by_cases c0 : a = 0
  · obtain ⟨ll, ad, NA, k1, k2, k3, k4, k5, k6⟩ := hk c0
    refine ⟨ll, ad, NA, ⟨⟨hm ll ad NA, fun _ => ⟨⟨?_, ?_, fun i p hp => ?_⟩, ?_⟩⟩, fun _ => k6⟩, fun _ => k1⟩
    · show fI τ 1700 11 = nI (List.map _ ll).length
      rw [List.length_map]
      exact k2.1
    · show (List.map _ ll).length ≤ 1536
      rw [List.length_map]
      exact k3.1
    · have hp : (ll.map (fun x => (tQf s.2.2.1 (x / 24) / 8, tQf s.2.2.1 (x / 24) % 8, x % 24, oG (tB fs s.2.2.1 (x / 24)) (x % 24), oZ (tB fs s.2.2.1 (x / 24)) (x % 24), ad x)))[i]? = some p := hp
      rw [List.getElem?_map] at hp
      cases ex : ll[i]? with
      | none => rw [ex] at hp; cases hp
      | some x =>
        rw [ex] at hp
        have hp : (tQf s.2.2.1 (x / 24) / 8, tQf s.2.2.1 (x / 24) % 8, x % 24, oG (tB fs s.2.2.1 (x / 24)) (x % 24), oZ (tB fs s.2.2.1 (x / 24)) (x % 24), ad x) = p := Option.some.inj hp
        have hx := List.mem_of_getElem? ex
        obtain ⟨x1, x2⟩ := k3.2 x hx
        have ht : x / 24 < s.2.2.1.length := by omega
        obtain ⟨q, hq⟩ : ∃ q, s.2.2.1[x / 24]? = some q := ⟨_, List.getElem?_eq_getElem ht⟩
        have eQ : tQf s.2.2.1 (x / 24) = q := by unfold tQf; rw [List.getD_eq_getElem?_getD, hq]; rfl
        obtain ⟨r1, _, _⟩ := hT.2.2.2.1.2.2.2 (x / 24) q hq
        obtain ⟨⟨p0, p1, p2⟩, p3, p4, p8, p9, p5, p10⟩ := r1 (x % 24) (by omega)
        rw [show 152 + (24 * (x / 24) + x % 24) = 152 + x by omega] at p1 p2 p3 p4 p5
        have hT64 := BK_T (s := s) hBK
        rw [eQ] at hp
        rw [← hp]
        have hq64 := (hBK.2.2.2.2.2.2 q (List.mem_of_getElem? hq)).1
        obtain ⟨_, _, _, _, _, he, _⟩ := TKe_ob hT ht
        have hk := (Bool.and_eq_true _ _).mp x2
        have hz := (eObj_a he (of_decide_eq_true hk.1) hk.2).1
        have hg : oG (tB fs s.2.2.1 (x / 24)) (x % 24) ≤ 5 := by unfold oG; repeat (first | omega | split)
        refine ⟨⟨(show q / 8 < 10 by omega), (show q % 8 < 10 by omega), (show x % 24 < 24 by omega), (show oG (tB fs s.2.2.1 (x / 24)) (x % 24) < 10 from Nat.lt_of_le_of_lt hg (by decide)), hz⟩, x, by omega, k2.2 i x ex, p1, p2, p3, ?_, (p5 x2).1, k4 x hx⟩
        rw [p4, if_pos x2]
    · have C := hT.2.2.2.1.2.1
      refine ⟨⟨?_, fun w hw => ?_⟩, fun i x hx => ?_, C.2.2.1, fun i d hd => ?_⟩
      · show isNs sk L τ 148 149 4128 (((xsN s).mapIdx (fun j x => (x.1, NA.1 j))).map Prod.fst) (pN τ 149)
        rw [mI_fst]
        exact C.1
      · have hw : w ∈ ((xsN s).mapIdx (fun j x => (x.1, NA.1 j))).map Prod.fst := hw
        rw [mI_fst, xsN_fst] at hw
        exact hnt w hw
      · have hx : ((xsN s).mapIdx (fun j x => (x.1, NA.1 j)))[i]? = some x := hx
        rw [List.getElem?_mapIdx] at hx
        cases ey : (xsN s)[i]? with
        | none => rw [ey] at hx; cases hx
        | some y =>
          rw [ey] at hx
          have hx := Option.some.inj hx
          rw [← hx]
          exact k5 i (List.getElem?_eq_some_iff.mp ey).1
      · obtain ⟨d1, d2⟩ := C.2.2.2 i d hd
        refine ⟨?_, d2⟩
        show d < ((xsN s).mapIdx (fun j x => (x.1, NA.1 j))).length
        rw [List.length_mapIdx]
        exact d1
  · exact ⟨[], fun _ => 0, na0, ⟨⟨hm _ _ _, fun h0 => absurd ((nI_eq (b := 0) (by omega) (by decide)).mp h0) c0⟩, fun h0 => absurd ((nI_eq (b := 0) (by omega) (by decide)).mp h0) c0⟩, fun h => absurd h c0⟩
end CXL
