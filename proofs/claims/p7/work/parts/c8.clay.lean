/-! lay of the class, whole -/
section LIL
variable {T : Nat} {tb : Nat → Nat → Nat} {sy : Nat → Nat → Bool}
theorem LI_2 {u t : Nat} (hu : u < 6) (ht : t < T) (hS : oS (tb t) ≤ 24) : ∀ (c i : Nat) (l : List Nat), 1 ≤ i → i + c = oS (tb t) → LI T tb sy u (24 * t + i) l → LI T tb sy u (24 * (t + 1)) (itr (lay3 tb sy (gOf u) t) i c l) := by
  intro c
  induction c with
  | zero => intro i l _ hi h; rw [itr_0]; exact LI_p h (by omega)
  | succ c ih => intro i l h1 hi h; rw [itr_s]; exact ih (i + 1) _ (by omega) (by omega) (LI_3 hu ht h1 (by omega) hS h)
theorem LI_1 {u : Nat} (hu : u < 6) (hS : ∀ t, t < T → 1 ≤ oS (tb t) ∧ oS (tb t) ≤ 24) : ∀ (c t : Nat) (l : List Nat), t + c = T → LI T tb sy u (24 * t) l → LI T tb sy u (24 * T) (itr (lay2 tb sy (gOf u)) t c l) := by
  intro c
  induction c with
  | zero => intro t l ht h; rw [itr_0]; exact LI_p h (by omega)
  | succ c ih =>
    intro t l ht h
    rw [itr_s]
    have hs := hS t (by omega)
    exact ih (t + 1) _ (by omega) (LI_2 hu (by omega) hs.2 (oS (tb t) - 1) 1 l (Nat.le_refl _) (by omega) (LI_p h (by omega)))
theorem LI_0 (hS : ∀ t, t < T → 1 ≤ oS (tb t) ∧ oS (tb t) ≤ 24) : ∀ (c u : Nat) (l : List Nat), u + c = 6 → LI T tb sy u 0 l → LI T tb sy 6 0 (itr (lay1 T tb sy) u c l) := by
  intro c
  induction c with
  | zero => intro u l hu h; rw [itr_0, show (6 : Nat) = u by omega]; exact h
  | succ c ih =>
    intro u l hu h
    rw [itr_s]
    exact ih (u + 1) _ (by omega) (LI_u (LI_1 (by omega) hS T 0 l (by omega) h))
theorem LI_lay (hS : ∀ t, t < T → 1 ≤ oS (tb t) ∧ oS (tb t) ≤ 24) : LI T tb sy 6 0 (layL T tb sy) := LI_0 hS 6 0 [] rfl ⟨List.Pairwise.nil, fun x hx => nomatch hx⟩
end LIL
section CLW
variable {F : Nat} {c : px_CT} {sk : Nat → Nat × Nat × Nat} {L : Nat} {own : Nat → Nat × Nat} {fs : px_FS} {s : px_TK} {xs : px_NL} {ST rn : Nat → Bool} {ll sl : List Nat} {th : Nat → Bool} {rc : Bool} {R rn0 : Nat → Bool} {C B : Nat → Nat} {tO : Nat → Nat}
/-- what stands where after the class's layout -/
def LAD (sk : Nat → Nat × Nat × Nat) (L : Nat) (own : Nat → Nat × Nat) (τ : px_TT) (fs : px_FS) (s : px_TK) (xs : px_NL) (ST rn : Nat → Bool) (ll sl : List Nat) (C B : Nat → Nat) (cpf : List Nat) (tO : Nat → Nat) (th : Nat → Bool) (NA : Nat → Int64) (pp : Nat) (ad : Nat → Nat) (fe3 tp sp fp0 fp1 fp2 bg0 bg1 bg2 : Nat) : Prop := LAc sk L own τ fs s xs ST rn ll C B cpf tO pp ad ∧ COr τ ll ∧ (SLc s.2.2.1.length (tB fs s.2.2.1) xs τ sl ∧ SLI s.2.2.1.length (tB fs s.2.2.1) sl) ∧ ((∀ j, j < 3 → eI τ 1703 j = bI (th j)) ∧ eI τ 1703 3 = bI (ll.any (thr1 (tB fs s.2.2.1)))) ∧ (∀ j, j < xs.length → fJ τ (pN τ 149 j) 14 = NA j) ∧ (∀ x, x ∈ ll → fJ τ (152 + x) 11 = lN (ad x)) ∧ (0 < sl.length → fJ τ 1700 13 = lN sp) ∧ fJ τ 1700 17 = lN tp ∧ fJ τ 1700 18 = lN fe3 ∧ (eJ τ 1704 0 = lN fp0 ∧ eJ τ 1704 1 = lN fp1 ∧ eJ τ 1704 2 = lN fp2) ∧ (eJ τ 1705 0 = lN bg0 ∧ eJ τ 1705 1 = lN bg1 ∧ eJ τ 1705 2 = lN bg2)
theorem STr_ll {τ : px_TT} (h : TKe sk L own τ fs s xs ST rn) (hr : STr fs s rc R ST) (hll : ll = layL s.2.2.1.length (tB fs s.2.2.1) (sta (tB fs s.2.2.1) s.2.1.1 rc R)) : llS2 s ST ll ∧ ll.Nodup ∧ (∀ x, x < 24 * s.2.2.1.length → ST x = true → x ∈ ll) ∧ srt (tB fs s.2.2.1) ll := by
  have hT := BK_T (s := s) h.2.2.2.2.1.1
  have hob : ∀ t, t < s.2.2.1.length → ∃ m, eObj (tB fs s.2.2.1 t) m = 0 := fun t ht => by
    obtain ⟨q, _, _, _, _, he, _⟩ := TKe_ob h ht
    exact ⟨_, he⟩
  have hS : ∀ t, t < s.2.2.1.length → 1 ≤ oS (tB fs s.2.2.1 t) ∧ oS (tB fs s.2.2.1 t) ≤ 24 := fun t ht => by obtain ⟨m, hm⟩ := hob t ht; exact (eObj_0 hm).1.1.2.1
  have hLI := LI_lay (T := s.2.2.1.length) (tb := tB fs s.2.2.1) (sy := sta (tB fs s.2.2.1) s.2.1.1 rc R) hS
  rw [← hll] at hLI
  refine ⟨⟨LI_len hT hLI, fun x hx => ?_⟩, hLI.1, fun x hx hs => ?_, by rw [hll]; exact srt_lay (fun t ht => (hS t ht).2)⟩
  · obtain ⟨x1, x2, x3, x4⟩ := (hLI.2 x hx).1
    refine ⟨x1, ?_⟩
    rw [hr x x1]
    unfold sta at x4
    rw [show 24 * (x / 24) + x % 24 = x by omega] at x4
    unfold kpB
    rw [decide_eq_true x3, Bool.true_and]
    exact x4
  · have hs2 := hs
    rw [hr x hx] at hs2
    have hk : kpB (tB fs s.2.2.1 (x / 24)) (x % 24) = true := by rw [Bool.and_eq_true] at hs2; exact hs2.1
    have ht : x / 24 < s.2.2.1.length := by omega
    have hxS : x % 24 < oS (tB fs s.2.2.1 (x / 24)) := by unfold kpB at hk; rw [Bool.and_eq_true] at hk; exact of_decide_eq_true hk.1
    have hK : oK (tB fs s.2.2.1 (x / 24)) (x % 24) = true := by unfold kpB at hk; rw [Bool.and_eq_true] at hk; exact hk.2
    have h1 : 1 ≤ x % 24 := by
      rcases Nat.eq_zero_or_pos (x % 24) with e | e
      · obtain ⟨m, hm⟩ := hob _ ht
        have h0 := (eObj_g hm).1
        rw [e] at hK
        have := (of_decide_eq_true hK).1
        rw [h0] at this
        omega
      · exact e
    have hm := llS_lay (T := s.2.2.1.length) (tb := tB fs s.2.2.1) (sy := sta (tB fs s.2.2.1) s.2.1.1 rc R) (x / 24) (x % 24) ht h1 hxS (by
      unfold sta
      rw [show 24 * (x / 24) + x % 24 = x by omega]
      rw [hk, Bool.true_and] at hs2
      rw [hK, Bool.true_and]
      exact hs2)
    rw [show 24 * (x / 24) + x % 24 = x by omega, ← hll] at hm
    exact hm
theorem k_lay {τ : px_TT} {fe0 bg0 : Nat} {G0 : px_PG} {fe1 mem1 bg1 : Nat} {G1 : px_PG} {fe2 mem2 bg2 : Nat} {G4 G5 G2 : px_PG} {sp : Nat} {G3 CM : px_PG} {fe3 : Nat} (hF : 65536 < F) (hc : KT c) (hsum : off fs fs.length ≤ 32768) (hr : STr fs s rc R ST) (hW : WP s.2.2.1.length (tB fs s.2.2.1) s.2.1.1 xs) (hN : SLN s.2.2.1.length (tB fs s.2.2.1)) (hcm : AL cmP xs) (hcq : AL cmQ xs) (hg : AL (fun x => x.2.1 = 4 → 1 ≤ x.2.2.2.1 ∧ x.2.2.2.1 ≤ 4) xs) (hrn : ∀ i, rn i = (!rc || rn0 i)) (hod : ∀ d, d ∈ s.1.2.2.1 → d < xs.length) (hoT : ∀ d, stN xs d = 2 → d ∈ s.1.2.2.1) (hll : ll = layL s.2.2.1.length (tB fs s.2.2.1) (sta (tB fs s.2.2.1) s.2.1.1 rc R)) (hsl : sl = slL s.2.2.1.length (tB fs s.2.2.1) s.2.1.1 xs (sta (tB fs s.2.2.1) s.2.1.1 rc R)) (hth : th = thS (tB fs s.2.2.1) ll xs s.1.2.2.1 rc rn0 sl.length) (hrel : CBR C B (cAd fs s.2.2.1 (tB fs s.2.2.1)) tO (tB fs s.2.2.1) ll) (hL : LYe B tO (tB fs s.2.2.1) ll xs s.1.2.2.1 sl.length rc rn0 th fe0 bg0 G0 fe1 mem1 bg1 G1 fe2 mem2 bg2 G4 G5 G2 sp G3 CM fe3) (h : TKe sk L own τ fs s xs ST rn) (hz : Z15 τ xs) (hb : CB τ C) : ∃ τ' cpf, f_Layout_lay F c 1700 (cH sk L τ) = some ((), cH sk L τ') ∧ LAD sk L own τ' fs s xs ST rn ll sl C B cpf tO th (naF (ownV B (pf0 B tO (tB fs s.2.2.1) ll) tO (tB fs s.2.2.1) s.2.1.1 (sta (tB fs s.2.2.1) s.2.1.1 rc R) G1.1 G3.2.1) (ownK G0.1 bg2 (sp + 8 * sl.length - bg2) (CM.2.2.getD CM.1) (CM.1 - bg2)) CM.2.1 xs) G1.1 G3.2.1 fe3 (tpN bg2 (ll.foldl (ft1 (tB fs s.2.2.1) G3.2.1) (false, 0, 1, 0))) sp (upN fe0 16) (upN fe1 16) (upN fe2 16) bg0 bg1 bg2 ∧ (eJ τ' 1707 0 = lN (G0.1 - bg0) ∧ eJ τ' 1707 1 = lN (G1.1 + psz B (pf0 B tO (tB fs s.2.2.1) ll) - bg1) ∧ eJ τ' 1707 2 = lN (CM.1 - bg2)) ∧ frLy τ τ' := by
  have hk := STr_k hr
  obtain ⟨hl, hnd, hall, hsr⟩ := STr_ll h hr hll
  have hok := hW.2.1
  obtain ⟨τ1, a1, a2, a3, a4⟩ := k_gather (F := F) (c := c) hF hc hsum h hr hb
  rw [← hll] at a2 a3
  obtain ⟨cpf, hcpf⟩ : ∃ cpf, cpf = ll.foldl (sC C (tB fs s.2.2.1) (cAd fs s.2.2.1 (tB fs s.2.2.1))) [] := ⟨_, rfl⟩
  rw [← hcpf] at a3
  have h1 := TKe_Ly h a4.1
  have hb1 := CB_Ly hb a4.1
  have hz1 : Z15 τ1 xs := fun i hi => by
    have z2 := (CLm_at h.2.2.2.1.2.1 (List.getElem?_eq_getElem hi)).2.1
    have hge := (h.2.2.2.1.1 149 i _ (Or.inr (Or.inr rfl)) z2).1
    have eP : pN τ1 149 i = pN τ 149 i := by unfold pN; rw [a4.1.2.2.2.2.2.2.2 149 (by decide)]
    rw [eP, a4.2 _ _ hge, a4.2 _ _ hge]
    exact hz i hi
  obtain ⟨τ2, b1, b2, b3⟩ := k_findSlots (F := F) (c := c) hr hF hW hN h1 hz1
  rw [← hsl] at b2
  have h2 := b2.1
  have ho2 := COr_Sl a2 b3
  have hp2 := CPl_Sl a3 b3
  have hb2 := CB_Ly hb1 b3.1
  have hns := hN _ b2.2.2
  obtain ⟨τ3, c1, c2, c3, c4, c5, ⟨c6, c7, c8, c9⟩, c10⟩ := k_findSegments (F := F) (c := c) (on := rc) (rn0 := rn0) (ns := sl.length) hF hc hk hl hok hrn h2 ho2 b2.2.1.1 (by omega)
  have h3 := TKe_Ly h2 c10
  have ho3 : COr τ3 ll := COr_fx ho2 (c6 1700 11) (c9 1701)
  have hp3 : CPl τ3 C cpf := CPl_fx hp2 (c6 1697 3) (c6 1697 4) (c8 1698 (by decide)) (c8 1699 (by decide))
  have hb3 := CB_Ly hb2 c10
  have hT : cpf.map (st C) = (pf0 B tO (tB fs s.2.2.1) ll).map (st B) := by
    rw [hcpf]
    exact pool_T (fun x hx hs => ⟨(hrel x hx hs).1, (hrel x hx hs).2.1, (hrel x hx hs).2.2.1⟩)
  have hpzE := psz_T hT
  have hpz1 := psz_le cpf hp3.2.2.1.2
  have hpz2 := stL_len hp3.2.2.1
  obtain ⟨q0, q1, q2, q3, q4, q5, q6, q7, q8, q9, q10, q11, q12, q13, q14, q15, q16⟩ := hL
  obtain ⟨τ4, d1, d2, d3, d4, d5⟩ := k_layText (F := F) (c := c) (τ := τ3) (th := th) (on := rc) (rn0 := rn0) (ns := sl.length) (pz := psz B (pf0 B tO (tB fs s.2.2.1) ll)) (thr := ll.any (thr1 (tB fs s.2.2.1))) (ad1 := psF B (pf0 B tO (tB fs s.2.2.1) ll) tO (tB fs s.2.2.1) G1.1 G1.2.1) hF hc hk hl hnd hsr hok (cmOK_of hcm) hcq hrn hod h3 ho3 (fun j hj => by rw [hth]; exact c2 j hj) c3 (by rw [c6]; exact b2.2.1.1) hns (by rw [← hpzE]; exact hp3.2.1) (by rw [← hpzE]; omega) (fun x hx hs => by unfold psF; rw [if_neg (by rw [hs]; decide)]) q0 q1 q2 q3 q4 q5 q6 q7 q8 q9 q10 q11 q12 q13 q14 q15 q16
  have fl4 := frJE_Ly d5 JX_Ly EX4_Ly
  have h4 := TKe_Ly h3 fl4
  have ho4 : COr τ4 ll := COr_fx ho3 (d5.1 1700 11) (d5.2.2.2.2.2 1701)
  have hA4 : LAc sk L own τ4 fs s xs ST rn ll C B cpf tO G1.1 G3.2.1 := ⟨h4, ⟨hk, hl, hall⟩, CB_Ly hb3 fl4, CPl_fx hp3 (d5.1 1697 3) (d5.1 1697 4) (d5.2.2.2.1 1698) (d5.2.2.2.1 1699), d3.2.2.2.2.1, by omega, d2, hT, hrel⟩
  obtain ⟨τ5, e1, e2, e3⟩ := k_ly_18 (F := F) (c := c) hF ll.length 0 F τ4 (Nat.zero_add _) (by have := hl.1; omega) hA4 ho4 (fun x hx => by rw [List.take_zero] at hx; exact absurd hx List.not_mem_nil)
  have hA5 := LAc_J hA4 e3 (fun a k w => Or.inr (Or.inl w))
  have hn5 : LYn τ5 G0.1 bg2 (sp + 8 * sl.length - bg2) (CM.2.2.getD CM.1) (CM.1 - bg2) := ⟨by rw [e3.2.1 _ _ (fun w => by unfold J18 at w; omega)]; exact d3.2.2.2.1, by rw [e3.2.1 _ _ (fun w => by unfold J18 at w; omega)]; exact d3.2.2.1, by rw [e3.2.2.2.2.1 _ _ (fun w => w)]; exact d3.2.2.2.2.2.2.2.2.1.2.1, by rw [e3.2.2.2.2.1 _ _ (fun w => w)]; exact d3.2.2.2.2.2.2.2.2.1.2.2.1, by rw [e3.2.2.2.2.1 _ _ (fun w => w)]; exact d3.2.2.2.2.2.2.2.2.1.2.2.2⟩
  have eP5 : ∀ n, pN τ5 149 n = pN τ4 149 n := fun n => by unfold pN; rw [e3.2.2.2.2.2]
  have hge5 : ∀ n, n < xs.length → 1815 ≤ pN τ4 149 n := fun n hn => (h4.2.2.2.1.1 149 n _ (Or.inr (Or.inr rfl)) (CLm_at h4.2.2.2.1.2.1 (List.getElem?_eq_getElem hn)).2.1).1
  obtain ⟨τ6, g1, g2, g3⟩ := k_ly_60 (F := F) (c := c) (on := rc) (R := R) (na := CM.2.1) hF hr hW hg (fun i hi => by
    rw [q15, pc_no (by
      unfold cB
      rw [hrn i] at hi
      rw [hi, Bool.and_false]
      decide)]) xs.length 0 F τ5 (Nat.zero_add _) (by have := h4.2.2.2.1.2.1.1.2.2.2.1; rw [List.length_map] at this; omega) hA5 hn5 (fun n _ hn h2n hrn2 => by
    have := hge5 n hn
    rw [eP5, e3.2.1 _ _ (fun w => by unfold J18 at w; omega)]
    refine d3.2.2.2.2.2.2.2.2.2 n (hoT n h2n) ?_
    unfold cB
    rw [← hrn n, hrn2, decide_eq_true h2n]
    rfl) (fun j hj => absurd hj (by omega))
  have f46 : frJE (fun a k => J18 (tB fs s.2.2.1) a k ∨ J60 a k) E0 τ4 τ6 := frJE_trans (frJE_mono e3 (fun _ _ w => Or.inl w) (fun _ _ w => w)) (frJE_mono g3 (fun _ _ w => Or.inr w) (fun _ _ w => w))
  have nJ : ∀ {a k : Nat}, ¬ (152 ≤ a ∧ a < 1688) → a < 1815 → fJ τ6 a k = fJ τ4 a k := fun h1 h2 => f46.2.1 _ _ (fun w => by unfold J18 J60 at w; omega)
  have nE : ∀ a i, eJ τ6 a i = eJ τ4 a i := fun a i => f46.2.2.2.2.1 a i (fun w => w)
  have hA6 := LAc_J hA5 g3 (fun a k w => Or.inr (Or.inr w))
  refine ⟨τ6, cpf, ?_, ⟨hA6, COr_fx ho4 (f46.1 1700 11) (f46.2.2.2.2.2 1701), ⟨?_, b2.2.2⟩, ⟨fun j hj => ?_, ?_⟩, g2, fun x hx => ?_, fun w => ?_, ?_, ?_, ⟨?_, ?_, ?_⟩, ⟨?_, ?_, ?_⟩⟩, ⟨?_, ?_, ?_⟩, ?_⟩
  · unfold f_Layout_lay
    rw [c_o (G1700 h.1), bs, a1, xb_mk, c_o (G1700 h.1), bs, b1, xb_mk, c_o (G1700 h.1), bs, c1, xb_mk, c_o (G1700 h.1), bs, d1, xb_mk, e1]
    unfold f_Layout_lay_58
    exact g1
  · have eI6 : ∀ a k, fI τ6 a k = fI τ2 a k := fun a k => by rw [f46.1, d5.1, c6]
    have eP6 : ∀ n, pN τ6 149 n = pN τ2 149 n := fun n => by unfold pN; rw [f46.2.2.2.2.2, d5.2.2.2.2.2, c9]
    have eE6 : ∀ a, a ≠ 1703 → eI τ6 a = eI τ2 a := fun a ha => by rw [f46.2.2.2.1, d5.2.2.2.1, c8 a ha]
    obtain ⟨z1, z2, z3, z4⟩ := b2.2.1
    refine ⟨by rw [eI6]; exact z1, fun i z hz => by rw [eE6 _ (by decide)]; exact z2 i z hz, fun P hP t ht => by rw [eI6, eP6]; exact z3 P hP t ht, fun z hz hn => by rw [eE6 _ (by decide)]; exact z4 z hz hn⟩
  · rw [f46.2.2.2.1, d5.2.2.2.1, hth]; exact c2 j hj
  · rw [f46.2.2.2.1, d5.2.2.2.1]; exact c3
  · have hx1 := (hl.2 x hx).1
    have hT64 := BK_T (s := s) h.2.2.2.2.1.1
    by_cases cs : sS (tB fs s.2.2.1) x = true
    · rw [g3.2.1 _ _ (fun w => by unfold J60 at w; omega), e2 x hx cs]
      congr 1
      have k1 : G3.2.1 x = G2.2.1 x := by rw [q14]; exact pg_k (cnd_s cs (by decide)) ll _
      have k2 : G2.2.1 x = G5.2.1 x := by rw [q12]; exact pg_k (cnd_s cs (by decide)) ll _
      have k3 : G5.2.1 x = G4.2.1 x := by rw [q11]; exact pg_k (cnd_s cs (by decide)) ll _
      have k4 : G4.2.1 x = psF B (pf0 B tO (tB fs s.2.2.1) ll) tO (tB fs s.2.2.1) G1.1 G1.2.1 x := by rw [q10]; exact pg_k (cnd_s cs (by decide)) ll _
      rw [k1, k2, k3, k4]
      unfold psF
      rw [if_pos cs]
    · exact hA6.2.2.2.2.2.2.1 x hx (by cases hh : sS (tB fs s.2.2.1) x with | false => rfl | true => exact absurd hh cs)
  · rw [nJ (by omega) (by omega)]; exact d3.1 w
  · rw [nJ (by omega) (by omega)]; exact d3.2.1
  · rw [nJ (by omega) (by omega)]; exact d3.2.2.2.2.2.1
  · rw [nE]; exact d3.2.2.2.2.2.2.1.1
  · rw [nE]; exact d3.2.2.2.2.2.2.2.1.1
  · rw [nE]; exact d3.2.2.2.2.2.2.2.2.1.1
  · rw [nE]; exact d3.2.2.2.2.2.2.1.2.1
  · rw [nE]; exact d3.2.2.2.2.2.2.2.1.2.1
  · rw [nE]; exact d3.2.2.2.2.2.2.2.2.1.2.1
  · rw [nE]; exact d3.2.2.2.2.2.2.1.2.2.2
  · rw [nE]; exact d3.2.2.2.2.2.2.2.1.2.2.2
  · rw [nE]; exact d3.2.2.2.2.2.2.2.2.1.2.2.2
  · exact frLy_trans a4.1 (frLy_trans b3.1 (frLy_trans c10 (frLy_trans fl4 (frJE_Ly f46 (fun a k w => by unfold J18 J60 at w; omega) (fun a i w => w.elim)))))
end CLW
