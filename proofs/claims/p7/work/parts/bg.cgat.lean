/-! gather of the class -/
/-- where a part's bytes stand in the class's store -/
def cAd (fs : px_FS) (tq : List Nat) (tb : Nat → Nat → Nat) (x : Nat) : Nat := bsO fs (tq.getD (x / 24) 0) + oP (tb (x / 24)) (x % 24)
def cgS (C : Nat → Nat) (ST : Nat → Bool) (tb : Nat → Nat → Nat) (cA : Nat → Nat) (g x : Nat) (p : List Nat × List Nat) : List Nat × List Nat := if ST x = true ∧ oG (tb (x / 24)) (x % 24) = g then (p.1 ++ [x], if sS tb x = true then itr (cl1 C (cA x)) 0 (zS tb x) p.2 else p.2) else p
def LIc (T : Nat) (tb : Nat → Nat → Nat) (u p : Nat) (l : List Nat) : Prop := l.Nodup ∧ ∀ y, y ∈ l → y < 24 * T ∧ ((∃ v, v < u ∧ oG (tb (y / 24)) (y % 24) = gOf v) ∨ (oG (tb (y / 24)) (y % 24) = gOf u ∧ y < p))
/-- the frame of gathering: names' cells stay -/
def frGa (τ τ' : px_TT) : Prop := frLy τ τ' ∧ ∀ a k, 1815 ≤ a → fI τ' a k = fI τ a k
theorem frGa_refl {τ : px_TT} : frGa τ τ := ⟨frLy_refl, fun _ _ _ => rfl⟩
theorem frGa_trans {τ τ1 τ2 : px_TT} (h : frGa τ τ1) (g : frGa τ1 τ2) : frGa τ τ2 := ⟨frLy_trans h.1 g.1, fun a k w => (g.2 a k w).trans (h.2 a k w)⟩
theorem frGa_Po {τ τ' : px_TT} (f : frPo τ τ') : frGa τ τ' := ⟨frLy_Po f, fun a k h => f.1 a k (Or.inl (by omega))⟩
theorem frGa_I {τ : px_TT} {a k : Nat} {v : Int32} (h : a = 1697 ∨ a = 1700) : frGa τ (tI τ a k v) := ⟨frLy_I (h.elim Or.inl (fun q => Or.inr (Or.inl q))), fun x y w => tI_ne (Or.inl (by omega))⟩
theorem frGa_J {τ : px_TT} {k : Nat} {v : Int64} : frGa τ (tJ τ 1697 k v) := ⟨frLy_J (Or.inl rfl), fun _ _ _ => rfl⟩
theorem frGa_vN {τ : px_TT} {g : Nat → Option Nat} : frGa τ (vN τ 1701 g) := ⟨frLy_vN, fun _ _ _ => rfl⟩
theorem gOf_inj : ∀ u, u < 6 → ∀ v, v < 6 → gOf u = gOf v → u = v := by decide
theorem gOf_l : ∀ u, u < 6 → [0, 1, 4, 5, 2, 3].getD u 0 = gOf u ∧ gOf u ≤ 5 := by decide
section CGA
variable {F : Nat} {c : px_CT} {sk : Nat → Nat × Nat × Nat} {L : Nat} {τ : px_TT} {own : Nat → Nat × Nat} {fs : px_FS} {s : px_TK} {xs : px_NL} {ST rn : Nat → Bool} {C : Nat → Nat}
/-- what stays is kept -/
def STk (fs : px_FS) (s : px_TK) (ST : Nat → Bool) : Prop := ∀ x, x < 24 * s.2.2.1.length → ST x = true → kpB (tB fs s.2.2.1 (x / 24)) (x % 24) = true ∧ s.2.1.1 x = false
theorem off_sum : off fs fs.length = (fs.map Prod.fst).sum := by
  unfold off
  rw [List.take_of_length_le (Nat.le_refl _)]
theorem TKe_pt (h : TKe sk L own τ fs s xs ST rn) (hk : STk fs s ST) {x : Nat} (hx : x < 24 * s.2.2.1.length) (hs : ST x = true) : fI τ (152 + x) 4 = nI (oG (tB fs s.2.2.1 (x / 24)) (x % 24)) ∧ fI τ (152 + x) 5 = nI (zS (tB fs s.2.2.1) x) ∧ fI τ (152 + x) 6 = nI (if oA (tB fs s.2.2.1 (x / 24)) (x % 24) < 1 then 1 else oA (tB fs s.2.2.1 (x / 24)) (x % 24)) ∧ fI τ (152 + x) 7 = nI (cAd fs s.2.2.1 (tB fs s.2.2.1) x) ∧ fI τ (152 + x) 10 = bI (sS (tB fs s.2.2.1) x) ∧ x % 24 < oS (tB fs s.2.2.1 (x / 24)) := by
  have ht : x / 24 < s.2.2.1.length := by omega
  obtain ⟨q, q1, q2, hD, hcb, he, hp, hRS, h89⟩ := TKe_ob h ht
  have hpx := hp (x % 24) (by omega)
  rw [show 24 * (x / 24) + x % 24 = x by omega] at hpx
  obtain ⟨k1, k2⟩ := hk x hx hs
  obtain ⟨_, _, a3, _, _, a6, a7⟩ := hpx
  rw [if_pos k1] at a3
  obtain ⟨b1, b2, b3⟩ := a6 k1
  have hq : s.2.2.1.getD (x / 24) 0 = q := by rw [List.getD_eq_getElem?_getD, q1]; rfl
  refine ⟨a3, b1, b2, ?_, ?_, of_decide_eq_true ((Bool.and_eq_true _ _).mp k1).1⟩
  · unfold cAd
    rw [hq]
    exact b3
  · rw [a7, k1, k2, Bool.not_false, Bool.and_true, Bool.true_and]
    rfl
theorem sS_cin (h : TKe sk L own τ fs s xs ST rn) {x : Nat} (hx : x / 24 < s.2.2.1.length) (hi : x % 24 < oS (tB fs s.2.2.1 (x / 24))) (hs : sS (tB fs s.2.2.1) x = true) : cAd fs s.2.2.1 (tB fs s.2.2.1) x + zS (tB fs s.2.2.1) x ≤ off fs fs.length := by
  obtain ⟨q, q1, q2, q3⟩ := obT_at h.2.2.2.2.1.1 hx
  obtain ⟨_, _, hcb, hss, _, hD⟩ := CF_ob h.2.2.1 q3
  have he := (hD rfl).2.2
  rw [hcb] at he
  have hs0 : oStr0 (tB fs s.2.2.1 (x / 24)) (x % 24) = true := by unfold sS oStr at hs; rw [Bool.and_eq_true] at hs; exact hs.1
  unfold oStr0 at hs0
  have hs1 := of_decide_eq_true hs0
  have h1 := oK_in (eObj_0 he).1.1 hi hs1.1 hs1.2.1
  have hq : s.2.2.1.getD (x / 24) 0 = q := by rw [List.getD_eq_getElem?_getD, q1]; rfl
  unfold cAd zS
  rw [hq]
  omega
theorem COr_fx {τ' : px_TT} {ll : List Nat} (h : COr τ ll) (e1 : fI τ' 1700 11 = fI τ 1700 11) (e2 : eN τ' 1701 = eN τ 1701) : COr τ' ll := ⟨e1.trans h.1, fun i x hx => by rw [e2]; exact h.2 i x hx⟩
theorem CPl_fx {τ' : px_TT} {l : List Nat} (h : CPl τ C l) (e1 : fI τ' 1697 3 = fI τ 1697 3) (e2 : fI τ' 1697 4 = fI τ 1697 4) (e3 : eI τ' 1698 = eI τ 1698) (e4 : eI τ' 1699 = eI τ 1699) : CPl τ' C l := ⟨e1.trans h.1, e2.trans h.2.1, h.2.2.1, fun i f hf => by rw [e3, e4]; exact h.2.2.2 i f hf⟩
theorem k_ga_24 {k14 : Nat → Int32 → px_H → Option (Unit × px_H)} {u : Nat} (hF : 65536 < F) (hc : KT c) (hu : u < 6) (hk : STk fs s ST) (hsum : off fs fs.length ≤ 32768) : ∀ (d i n : Nat) (τ : px_TT) (p : List Nat × List Nat), i + d = 24 * s.2.2.1.length → d < n → TKe sk L own τ fs s xs ST rn → CB τ C → COr τ p.1 → CPl τ C p.2 → LIc s.2.2.1.length (tB fs s.2.2.1) u i p.1 → ∃ τ', f_Layout_gather_24 F c k14 n 1700 (nI u) (nI i) (cH sk L τ) = k14 1700 (nI (u + 1)) (cH sk L τ') ∧ COr τ' (itr (cgS C ST (tB fs s.2.2.1) (cAd fs s.2.2.1 (tB fs s.2.2.1)) (gOf u)) i d p).1 ∧ CPl τ' C (itr (cgS C ST (tB fs s.2.2.1) (cAd fs s.2.2.1 (tB fs s.2.2.1)) (gOf u)) i d p).2 ∧ LIc s.2.2.1.length (tB fs s.2.2.1) u (24 * s.2.2.1.length) (itr (cgS C ST (tB fs s.2.2.1) (cAd fs s.2.2.1 (tB fs s.2.2.1)) (gOf u)) i d p).1 ∧ frGa τ τ' := by
  intro d
  induction d with
  | zero =>
    intro i n τ p hi hd h hb ho hp hl
    obtain ⟨n, rfl⟩ : ∃ x, n = x + 1 := ⟨n - 1, by omega⟩
    have hT := BK_T (s := s) h.2.2.2.2.1.1
    have ei : i = 24 * s.2.2.1.length := by omega
    refine ⟨τ, ?_, ho, hp, by rw [ei] at hl; exact hl, frGa_refl⟩
    unfold f_Layout_gather_24 f_Layout_gather_126
    rw [C2r0 (G1700 h.1) (GR_r (v := 147) h.2.1 (by decide)), bs, C3g14 (G147 h.1), bs, h.2.2.2.1.2.2.1, pk_mul, if_pos (nI_le (by omega) (by omega)), nI_add]
  | succ d ih =>
    intro i n τ p hi hd h hb ho hp hl
    obtain ⟨n, rfl⟩ : ∃ x, n = x + 1 := ⟨n - 1, by omega⟩
    have hS := h.1
    have hR := h.2.1
    have hT := BK_T (s := s) h.2.2.2.2.1.1
    have hiT : i < 24 * s.2.2.1.length := by omega
    have o := G1700 hS
    obtain ⟨p1, p2, p3, p4⟩ := TKe_part h hiT
    obtain ⟨hgo, hg5⟩ := gOf_l u hu
    rw [itr_s]
    have next : ∀ (τ1 : px_TT) (p1 : List Nat × List Nat), p1 = cgS C ST (tB fs s.2.2.1) (cAd fs s.2.2.1 (tB fs s.2.2.1)) (gOf u) i p → COr τ1 p1.1 → CPl τ1 C p1.2 → LIc s.2.2.1.length (tB fs s.2.2.1) u (i + 1) p1.1 → frGa τ τ1 → ∃ τ', f_Layout_gather_120 F c k14 (f_Layout_gather_24 F c k14 n) 1700 (nI u) (nI i) (cH sk L τ1) = k14 1700 (nI (u + 1)) (cH sk L τ') ∧ COr τ' (itr (cgS C ST (tB fs s.2.2.1) (cAd fs s.2.2.1 (tB fs s.2.2.1)) (gOf u)) (i + 1) d (cgS C ST (tB fs s.2.2.1) (cAd fs s.2.2.1 (tB fs s.2.2.1)) (gOf u) i p)).1 ∧ CPl τ' C (itr (cgS C ST (tB fs s.2.2.1) (cAd fs s.2.2.1 (tB fs s.2.2.1)) (gOf u)) (i + 1) d (cgS C ST (tB fs s.2.2.1) (cAd fs s.2.2.1 (tB fs s.2.2.1)) (gOf u) i p)).2 ∧ LIc s.2.2.1.length (tB fs s.2.2.1) u (24 * s.2.2.1.length) (itr (cgS C ST (tB fs s.2.2.1) (cAd fs s.2.2.1 (tB fs s.2.2.1)) (gOf u)) (i + 1) d (cgS C ST (tB fs s.2.2.1) (cAd fs s.2.2.1 (tB fs s.2.2.1)) (gOf u) i p)).1 ∧ frGa τ τ' := fun τ1 p1 e1 e2 e3 e4 e5 => by
      rw [← e1]
      obtain ⟨τ', j1, j2, j3, j4, j5⟩ := ih (i + 1) n τ1 p1 (by omega) (by omega) (TKe_Ly h e5.1) (CB_Ly hb e5.1) e2 e3 e4
      refine ⟨τ', ?_, j2, j3, j4, frGa_trans e5 j5⟩
      unfold f_Layout_gather_120
      rw [nI_add]
      exact j1
    have hl1 : LIc s.2.2.1.length (tB fs s.2.2.1) u (i + 1) p.1 := ⟨hl.1, fun y hy => ⟨(hl.2 y hy).1, (hl.2 y hy).2.imp id (fun q => ⟨q.1, by omega⟩)⟩⟩
    have no : ¬ (ST i = true ∧ oG (tB fs s.2.2.1 (i / 24)) (i % 24) = gOf u) → ∃ τ', f_Layout_gather_120 F c k14 (f_Layout_gather_24 F c k14 n) 1700 (nI u) (nI i) (cH sk L τ) = k14 1700 (nI (u + 1)) (cH sk L τ') ∧ COr τ' (itr (cgS C ST (tB fs s.2.2.1) (cAd fs s.2.2.1 (tB fs s.2.2.1)) (gOf u)) (i + 1) d (cgS C ST (tB fs s.2.2.1) (cAd fs s.2.2.1 (tB fs s.2.2.1)) (gOf u) i p)).1 ∧ CPl τ' C (itr (cgS C ST (tB fs s.2.2.1) (cAd fs s.2.2.1 (tB fs s.2.2.1)) (gOf u)) (i + 1) d (cgS C ST (tB fs s.2.2.1) (cAd fs s.2.2.1 (tB fs s.2.2.1)) (gOf u) i p)).2 ∧ LIc s.2.2.1.length (tB fs s.2.2.1) u (24 * s.2.2.1.length) (itr (cgS C ST (tB fs s.2.2.1) (cAd fs s.2.2.1 (tB fs s.2.2.1)) (gOf u)) (i + 1) d (cgS C ST (tB fs s.2.2.1) (cAd fs s.2.2.1 (tB fs s.2.2.1)) (gOf u) i p)).1 ∧ frGa τ τ' := fun q => next τ p (by unfold cgS; rw [if_neg q]) ho hp hl1 frGa_refl
    unfold f_Layout_gather_24
    rw [C2r0 o (GR_r (v := 147) hR (by decide)), bs, C3g14 (G147 hS), bs, h.2.2.2.1.2.2.1, pk_mul, if_neg (nI_ge (by omega) (by omega)), bs, c_o (G147 hS), bs, pk_rem (by omega) (by decide) (by decide), pk_div (by omega) (by decide) (by decide), k_part hS hR (by omega) (by omega), xb_mk, bs, show 24 * (i / 24) + i % 24 = i by omega, C8g9 p1, bs, p2]
    cases hST : ST i with
    | false =>
      rw [if_pos (show bI false = 0 from rfl)]
      exact no (fun q => by rw [hST] at q; exact nomatch q.1)
    | true =>
      obtain ⟨t4, t5, t6, t7, t10, tS⟩ := TKe_pt h hk hiT hST
      have hG5 : oG (tB fs s.2.2.1 (i / 24)) (i % 24) ≤ 5 := by unfold oG; repeat (first | omega | split)
      rw [if_neg (show ¬ bI true = 0 by decide), C8g4 p1, bs, t4, xkI_at hc.2.2.2.1.2 (by decide) hc.2.2.2.1.1 (by decide) (show u < [0, 1, 4, 5, 2, 3].length from hu), bs, hgo]
      by_cases cg : oG (tB fs s.2.2.1 (i / 24)) (i % 24) = gOf u
      · have hni : i ∉ p.1 := fun q => by
          obtain ⟨_, q2⟩ := hl.2 i q
          rcases q2 with ⟨v, v1, v2⟩ | ⟨_, v2⟩
          · have := gOf_inj u hu v (by omega) (cg.symm.trans v2)
            omega
          · omega
        have hnd : (p.1 ++ [i]).Nodup := List.nodup_append.mpr ⟨hl.1, List.Pairwise.cons (fun _ h => nomatch h) List.Pairwise.nil, fun a ha b' hb' q => by
          rw [List.mem_singleton] at hb'
          rw [q, hb'] at ha
          exact hni ha⟩
        have hln : (p.1 ++ [i]).length ≤ 1536 := nodup_le 0 1536 _ hnd (fun z hz => by
          rcases List.mem_append.mp hz with q | q
          · have := (hl.2 z q).1
            omega
          · rw [List.mem_singleton] at q
            omega)
        rw [List.length_append, List.length_singleton] at hln
        rw [if_pos (by rw [cg]), C2g11 o, bs, ho.1, C2r2 o (GR_r (v := 1701) hR (by decide)), bs, c_l (G1701 hS) (by decide), bs, if_neg (nI_ge (by omega) (by omega)), bs, bs, c_sO (G1701 hS) (by decide) (by decide) (show p.1.length < 1536 by omega) p1, bs]
        obtain ⟨τ1, hτ1⟩ : ∃ x, x = vN τ 1701 (va_up (eN τ 1701) p.1.length (some (152 + i))) := ⟨_, rfl⟩
        have e11 : fI τ1 1700 11 = nI p.1.length := by rw [hτ1]; exact ho.1
        rw [← hτ1, C2g11 o, bs, e11, nI_add, C2p11 o, bs]
        obtain ⟨τ2, hτ2⟩ : ∃ x, x = tI τ1 1700 11 (nI (p.1.length + 1)) := ⟨_, rfl⟩
        rw [← hτ2]
        have f2 : frGa τ τ2 := by
          rw [hτ2, hτ1]
          exact frGa_trans frGa_vN (frGa_I (Or.inr rfl))
        have ho2 : COr τ2 (p.1 ++ [i]) := by
          refine ⟨by rw [hτ2, tI_at, List.length_append, List.length_singleton], fun k y hy => ?_⟩
          have e1 : eN τ2 1701 = va_up (eN τ 1701) p.1.length (some (152 + i)) := by rw [hτ2, hτ1]; exact eN_v_eq
          rw [e1]
          by_cases ck : k < p.1.length
          · rw [List.getElem?_append_left ck] at hy
            rw [va_up_n (by omega)]
            exact ho.2 k y hy
          · have ek : k = p.1.length := by
              have := (List.getElem?_eq_some_iff.mp hy).1
              rw [List.length_append, List.length_singleton] at this
              omega
            rw [ek, List.getElem?_append_right (Nat.le_refl _), Nat.sub_self] at hy
            have hy : i = y := Option.some.inj hy
            rw [ek, va_up_a, hy]
        have hl2 : LIc s.2.2.1.length (tB fs s.2.2.1) u (i + 1) (p.1 ++ [i]) := ⟨hnd, fun y hy => by
          rcases List.mem_append.mp hy with q | q
          · exact hl1.2 y q
          · rw [List.mem_singleton] at q
            rw [q]
            exact ⟨hiT, Or.inr ⟨cg, Nat.lt_succ_self _⟩⟩⟩
        have hp2 : CPl τ2 C p.2 := CPl_fx hp (by rw [hτ2, tI_ne (Or.inl (by decide)), hτ1]; rfl) (by rw [hτ2, tI_ne (Or.inl (by decide)), hτ1]; rfl) (by rw [hτ2, hτ1]; rfl) (by rw [hτ2, hτ1]; rfl)
        have h2 := TKe_Ly h f2.1
        have t102 : fI τ2 (152 + i) 10 = bI (sS (tB fs s.2.2.1) i) := (TKe_pt h2 hk hiT hST).2.2.2.2.1
        rw [C8g10 p1, bs, t102]
        cases hsS : sS (tB fs s.2.2.1) i with
        | false =>
          rw [if_pos (show bI false = 0 from rfl)]
          exact next τ2 (p.1 ++ [i], p.2) (by unfold cgS; rw [if_pos ⟨hST, cg⟩, if_neg (by rw [hsS]; decide)]) ho2 hp2 hl2 f2
        | true =>
          obtain ⟨τ3, b1, b2, b3⟩ := k_collect (F := F) (c := c) hS hF (sS_cin h2 (by omega) tS hsS) hsum p1 (TKe_pt h2 hk hiT hST).2.2.2.1 (TKe_pt h2 hk hiT hST).2.1 h2.2.1 (CB_Ly hb f2.1) h2.2.2.1.2.2.2.1 hp2
          rw [if_neg (show ¬ bI true = 0 by decide), C2r1 o (GR_r (v := 1697) h2.2.1 (by decide)), bs, c_o (G1697 hS), bs, b1, xb_mk]
          exact next τ3 (p.1 ++ [i], itr (cl1 C (cAd fs s.2.2.1 (tB fs s.2.2.1) i)) 0 (zS (tB fs s.2.2.1) i) p.2) (by unfold cgS; rw [if_pos ⟨hST, cg⟩, if_pos hsS]) (COr_fx ho2 (b3.1 1700 11 (by omega)) (b3.2.2.2.2.2 1701)) b2 hl2 (frGa_trans f2 (frGa_Po b3))
      · rw [if_neg (show ¬ nI (oG (tB fs s.2.2.1 (i / 24)) (i % 24)) = nI (gOf u) from fun q => cg ((nI_eq (by omega) (by omega)).mp q))]
        exact no (fun q => cg q.2)
theorem k_ga_14 (hF : 65536 < F) (hc : KT c) (hk : STk fs s ST) (hsum : off fs fs.length ≤ 32768) : ∀ (d u n : Nat) (τ : px_TT) (p : List Nat × List Nat), u + d = 6 → d < n → TKe sk L own τ fs s xs ST rn → CB τ C → COr τ p.1 → CPl τ C p.2 → LIc s.2.2.1.length (tB fs s.2.2.1) u 0 p.1 → ∃ τ', f_Layout_gather_14 F c n 1700 (nI u) (cH sk L τ) = some ((), cH sk L τ') ∧ COr τ' (itr (fun u p => itr (cgS C ST (tB fs s.2.2.1) (cAd fs s.2.2.1 (tB fs s.2.2.1)) (gOf u)) 0 (24 * s.2.2.1.length) p) u d p).1 ∧ CPl τ' C (itr (fun u p => itr (cgS C ST (tB fs s.2.2.1) (cAd fs s.2.2.1 (tB fs s.2.2.1)) (gOf u)) 0 (24 * s.2.2.1.length) p) u d p).2 ∧ frGa τ τ' := by
  intro d
  induction d with
  | zero =>
    intro u n τ p hu hd h hb ho hp hl
    obtain ⟨n, rfl⟩ : ∃ x, n = x + 1 := ⟨n - 1, by omega⟩
    refine ⟨τ, ?_, ho, hp, frGa_refl⟩
    unfold f_Layout_gather_14 f_Layout_gather_132
    rw [xkl_at hc.2.2.2.1.2 (by decide), bs, show [0, 1, 4, 5, 2, 3].length = 6 from rfl, if_pos (show nI 6 ≤ nI u from nI_le (by omega) (by omega))]
  | succ d ih =>
    intro u n τ p hu hd h hb ho hp hl
    obtain ⟨n, rfl⟩ : ∃ x, n = x + 1 := ⟨n - 1, by omega⟩
    have hT := BK_T (s := s) h.2.2.2.2.1.1
    obtain ⟨τ1, a1, a2, a3, a4, a5⟩ := k_ga_24 (F := F) (c := c) (k14 := f_Layout_gather_14 F c n) hF hc (show u < 6 by omega) hk hsum (24 * s.2.2.1.length) 0 F τ p (by omega) (by omega) h hb ho hp hl
    obtain ⟨τ', j1, j2, j3, j4⟩ := ih (u + 1) n τ1 _ (by omega) (by omega) (TKe_Ly h a5.1) (CB_Ly hb a5.1) a2 a3 ⟨a4.1, fun y hy => ⟨(a4.2 y hy).1, Or.inl ((a4.2 y hy).2.elim (fun ⟨v, v1, v2⟩ => ⟨v, by omega, v2⟩) (fun q => ⟨u, Nat.lt_succ_self u, q.1⟩))⟩⟩
    refine ⟨τ', ?_, j2, j3, frGa_trans a5 j4⟩
    unfold f_Layout_gather_14
    rw [xkl_at hc.2.2.2.1.2 (by decide), bs, show [0, 1, 4, 5, 2, 3].length = 6 from rfl, if_neg (show ¬ nI 6 ≤ nI u from nI_ge (by omega) (by decide)), a1]
    exact j1
end CGA
