section
/-! the class's link with what it leaves in OUT (made by a program out of c8, c9, da, db) -/
/-! rows and entry of the file, from what the link laid out -/
def rows7 (th : Nat → Bool) (V : px_VV) (pz ns : Nat) (thr : Bool) : List px_R7 := rT7 th (r7s (seg3 (upN V.1 16) (upN V.2.2.2.1 16) (upN V.2.2.2.2.2.2.2.1 16)) (seg3 V.2.1 V.2.2.2.2.2.1 V.2.2.2.2.2.2.2.2.2.1) (seg3 (V.2.2.1.1 - V.2.1) (V.2.2.2.2.2.2.1.1 + pz - V.2.2.2.2.2.1) (V.2.2.2.2.2.2.2.2.2.2.2.2.2.1 + 8 * ns - V.2.2.2.2.2.2.2.2.2.1)) (seg3 (V.2.2.1.1 - V.2.1) (V.2.2.2.2.2.2.1.1 + pz - V.2.2.2.2.2.1) (V.2.2.2.2.2.2.2.2.2.2.2.2.2.2.2.1.1 - V.2.2.2.2.2.2.2.2.2.1))) thr
theorem rows7_mk {th : Nat → Bool} {fe0 bg0 : Nat} {G0 : px_PG} {fe1 mem1 bg1 : Nat} {G1 : px_PG} {fe2 mem2 bg2 : Nat} {G4 G5 G2 : px_PG} {sp : Nat} {G3 CM : px_PG} {fe3 pz ns : Nat} {thr : Bool} : rows7 th (fe0, bg0, G0, fe1, mem1, bg1, G1, fe2, mem2, bg2, G4, G5, G2, sp, G3, CM, fe3) pz ns thr = rT7 th (r7s (seg3 (upN fe0 16) (upN fe1 16) (upN fe2 16)) (seg3 bg0 bg1 bg2) (seg3 (G0.1 - bg0) (G1.1 + pz - bg1) (sp + 8 * ns - bg2)) (seg3 (G0.1 - bg0) (G1.1 + pz - bg1) (CM.1 - bg2))) thr := rfl
def en7 (NA : Nat → Int64) (xs : px_NL) : Nat := (vST NA xs).toBitVec.toNat
theorem en7_l {NA : Nat → Int64} {xs : px_NL} : vST NA xs = lN (en7 NA xs) ∧ en7 NA xs < 2 ^ 64 := ⟨by unfold en7; exact wb_inj (by rw [wb_tb]; simp), (vST NA xs).toBitVec.isLt⟩
/-- rows of the file of a link that was done -/
def l7 (fs : px_FS) (s : px_TK) (B : Nat → Nat) (ll : List Nat) (NA : px_NA) : List px_R7 := rows7 NA.2.1 NA.2.2.2.2 (psz B (pf0 B (tOf fs s.2.2.1) (tB fs s.2.2.1) ll)) NA.2.2.1.length (ll.any (thr1 (tB fs s.2.2.1)))
/-- what a link that is done leaves in OUT of the class -/
def OUL (fs : px_FS) (s : px_TK) (rc : Bool) (B : Nat → Nat) (τ : px_TT) (ro : Nat) : Prop := ∃ ll ad NA, lnX fs s rc B ll ad NA ∧ ∃ g : Nat → Int32, fW ro (ro + 1) 65536 τ (vFe NA.2.2.2.2, g) ∧ fC τ (vFe NA.2.2.2.2, g) ∧ EX8 g (en7 NA.1 (xsN s)) (l7 fs s B ll NA).length (l7 fs s B ll NA) ∧ 64 + 56 * (l7 fs s B ll NA).length ≤ vFe NA.2.2.2.2 ∧ R7o (l7 fs s B ll NA) (vFe NA.2.2.2.2) ∧ ∀ i, 64 + 56 * (l7 fs s B ll NA).length ≤ i → i < vFe NA.2.2.2.2 → g i = w7 fs s B ll ad NA i
theorem OUL_mk {fs : px_FS} {s : px_TK} {rc : Bool} {B : Nat → Nat} {τ : px_TT} {ro : Nat} {ll : List Nat} {ad : Nat → Nat} {NA : Nat → Int64} {th : Nat → Bool} {sl : List Nat} {sy : Nat → Nat → Bool} {V : px_VV} {g : Nat → Int32} {l : List px_R7} (h : lnX fs s rc B ll ad (NA, th, sl, sy, V)) (hl : l = rows7 th V (psz B (pf0 B (tOf fs s.2.2.1) (tB fs s.2.2.1) ll)) sl.length (ll.any (thr1 (tB fs s.2.2.1)))) (h1 : fW ro (ro + 1) 65536 τ (vFe V, g)) (hC : fC τ (vFe V, g)) (h2 : EX8 g (en7 NA (xsN s)) l.length l) (h3 : 64 + 56 * l.length ≤ vFe V) (h5 : R7o l (vFe V)) (h4 : ∀ i, 64 + 56 * l.length ≤ i → i < vFe V → g i = wfV s.2.2.1.length (tOf fs s.2.2.1) (tB fs s.2.2.1) s.2.1.1 (xsN s) sy ll sl NA B ad V i) : OUL fs s rc B τ ro := by
  subst hl
  exact ⟨ll, ad, (NA, th, sl, sy, V), h, g, h1, hC, h2, h3, h5, h4⟩
theorem seg3_H {a b c H : Nat} (ha : H ≤ a) (hb : H ≤ b) (hc : H ≤ c) (j : Nat) : H ≤ seg3 a b c j := by
  unfold seg3
  split
  · exact ha
  · split
    · exact hb
    · exact hc
theorem seg3_lt {a b c H : Nat} (ha : a < H) (hb : b < H) (hc : c < H) (j : Nat) : seg3 a b c j < H := by
  unfold seg3
  split
  · exact ha
  · split
    · exact hb
    · exact hc
theorem seg3_e {x y z : Nat} {f : Nat → Int64} (h0 : f 0 = lN x) (h1 : f 1 = lN y) (h2 : f 2 = lN z) (j : Nat) (hj : j < 3) : f j = lN (seg3 x y z j) := by
  have : j = 0 ∨ j = 1 ∨ j = 2 := by omega
  rcases this with rfl | rfl | rfl
  · exact h0
  · exact h1
  · exact h2
section LYD
variable {tb : Nat → Nat → Nat} {xs : px_NL} {ll od : List Nat} {ns : Nat} {th : Nat → Bool} {on : Bool} {rn : Nat → Bool} {B tO : Nat → Nat} {fe0 bg0 : Nat} {G0 : px_PG} {fe1 mem1 bg1 : Nat} {G1 : px_PG} {fe2 mem2 bg2 : Nat} {G4 G5 G2 : px_PG} {sp : Nat} {G3 CM : px_PG} {fe3 : Nat}
theorem LYe_ad (hZ : ∀ x, x ∈ ll → zS tb x ≤ 16384 ∧ alS tb x ≤ 4096) (hl1 : ll.length ≤ 1536) (hns : ns ≤ 2800) (hpz : psz B (pf0 B tO tb ll) ≤ 2 ^ 30) (hcm : cmOK xs) (hod : ∀ d, d ∈ od → d < xs.length) (hol : od.length ≤ 4128) (hL : LYe B tO tb ll xs od ns on rn th fe0 bg0 G0 fe1 mem1 bg1 G1 fe2 mem2 bg2 G4 G5 G2 sp G3 CM fe3) : ∀ x, G3.2.1 x ≤ 2 ^ 39 := by
  obtain ⟨q0, q1, q2, q3, q4, q5, q6, q7, q8, q9, q10, q11, q12, q13, q14, q15, q16⟩ := hL
  have h6 := ar_6 (K := 0) hl1
  have hsg : sgN th 3 ≤ 3 := by
    show (((0 + (if th 0 = true then 1 else 0)) + (if th 1 = true then 1 else 0)) + (if th 2 = true then 1 else 0)) ≤ 3
    split <;> split <;> split <;> omega
  have hfe0 : fe0 ≤ 288 := by rw [q0]; split <;> omega
  have u0 := upN_le (v := fe0) (a := 16) (by decide)
  have v0 := bgN_lt (mem := 4194304) (fp := upN fe0 16) (th := th 0)
  rw [← q1] at v0
  have m0 := pgs_m (g := 0) (th := th 0) ll (bg0, (fun _ => 0), none) hZ
  rw [← q2] at m0
  have m0 : bg0 ≤ G0.1 ∧ G0.1 ≤ bg0 + ll.length * 20480 := m0
  have hfe1 : fe1 < 2 ^ 34 := by rw [q3]; split <;> omega
  have hmem1 : mem1 < 2 ^ 34 := by rw [q4]; split <;> omega
  have u1 := upN_le (v := fe1) (a := 16) (by decide)
  have v1 := bgN_lt (mem := mem1) (fp := upN fe1 16) (th := th 1)
  rw [← q5] at v1
  have m1 := pgs_m (g := 1) (th := th 1) ll (bg1, G0.2.1, none) hZ
  rw [← q6] at m1
  have m1 : bg1 ≤ G1.1 ∧ G1.1 ≤ bg1 + ll.length * 20480 := m1
  have hfe2 : fe2 < 2 ^ 35 := by rw [q7]; split <;> omega
  have hmem2 : mem2 < 2 ^ 35 := by rw [q8]; split <;> omega
  have u2 := upN_le (v := fe2) (a := 16) (by decide)
  have v2 := bgN_lt (mem := mem2) (fp := upN fe2 16) (th := th 2)
  rw [← q9] at v2
  have m4 := pgs_m (g := 4) (th := th 2) ll (bg2, psF B (pf0 B tO tb ll) tO tb G1.1 G1.2.1, none) hZ
  rw [← q10] at m4
  have m4 : bg2 ≤ G4.1 ∧ G4.1 ≤ bg2 + ll.length * 20480 := m4
  have m2 := pgs_m (g := 2) (th := th 2) ll (G4.1, G5.2.1, none) hZ
  rw [← q12] at m2
  have m2 : G4.1 ≤ G2.1 ∧ G2.1 ≤ G4.1 + ll.length * 20480 := m2
  have u8 := upN_le (v := G2.1) (a := 8) (by decide)
  have hsp : G2.1 ≤ sp ∧ sp < G2.1 + 8 := by rw [q13]; split <;> omega
  have m3 := pgs_m (g := 3) (th := th 2) ll (sp + 8 * ns, G2.2.1, none) hZ
  rw [← q14] at m3
  have m3 : sp + 8 * ns ≤ G3.1 ∧ G3.1 ≤ sp + 8 * ns + ll.length * 20480 := m3
  have mc := pcs_m (on := on) (rn := rn) (th := th 2) hcm od (G3.1, (fun _ => 0), G3.2.2) hod
  rw [← q15] at mc
  have mc : G3.1 ≤ CM.1 ∧ CM.1 ≤ G3.1 + od.length * 20480 := mc
  have ho : od.length * 20480 ≤ 4128 * 20480 := Nat.mul_le_mul_right _ hol
  have hfe3 : fe3 < 2 ^ 39 := by rw [q16]; split <;> omega
  have had0 : ∀ x, G0.2.1 x ≤ 2 ^ 39 := by rw [q2]; exact pg_ad (g := 0) (th := th 0) (K := 2 ^ 39) ll (bg0, (fun _ => 0), none) hZ (fun x => Nat.zero_le _) (show bg0 + ll.length * 20480 ≤ 2 ^ 39 by omega)
  have had1 : ∀ x, G1.2.1 x ≤ 2 ^ 39 := by rw [q6]; exact pg_ad (g := 1) (th := th 1) (K := 2 ^ 39) ll (bg1, G0.2.1, none) hZ had0 (show bg1 + ll.length * 20480 ≤ 2 ^ 39 by omega)
  have hadS : ∀ x, psF B (pf0 B tO tb ll) tO tb G1.1 G1.2.1 x ≤ 2 ^ 39 := psF_le had1 (by omega)
  have had4 : ∀ x, G4.2.1 x ≤ 2 ^ 39 := by rw [q10]; exact pg_ad (g := 4) (th := th 2) (K := 2 ^ 39) ll (bg2, psF B (pf0 B tO tb ll) tO tb G1.1 G1.2.1, none) hZ hadS (show bg2 + ll.length * 20480 ≤ 2 ^ 39 by omega)
  have had5 : ∀ x, G5.2.1 x ≤ 2 ^ 39 := by rw [q11]; exact pg_ad (g := 5) (th := th 2) (K := 2 ^ 39) ll (G4.1, G4.2.1, none) hZ had4 (show G4.1 + ll.length * 20480 ≤ 2 ^ 39 by omega)
  have had2 : ∀ x, G2.2.1 x ≤ 2 ^ 39 := by rw [q12]; exact pg_ad (g := 2) (th := th 2) (K := 2 ^ 39) ll (G4.1, G5.2.1, none) hZ had5 (show G4.1 + ll.length * 20480 ≤ 2 ^ 39 by omega)
  rw [q14]
  exact pg_ad (g := 3) (th := th 2) (K := 2 ^ 39) ll (sp + 8 * ns, G2.2.1, none) hZ had2 (show sp + 8 * ns + ll.length * 20480 ≤ 2 ^ 39 by omega)
end LYD
section CLX
variable {F : Nat} {c : px_CT} {sk : Nat → Nat × Nat × Nat} {L : Nat} {own : Nat → Nat × Nat} {fs : px_FS} {s : px_TK} {xs : px_NL} {ST rn : Nat → Bool} {ll sl : List Nat} {th : Nat → Bool} {rc : Bool} {R rn0 : Nat → Bool} {C B : Nat → Nat} {tO : Nat → Nat}
theorem k_layF {τ : px_TT} {fe0 bg0 : Nat} {G0 : px_PG} {fe1 mem1 bg1 : Nat} {G1 : px_PG} {fe2 mem2 bg2 : Nat} {G4 G5 G2 : px_PG} {sp : Nat} {G3 CM : px_PG} {fe3 : Nat} (hF : 65536 < F) (hc : KT c) (hsum : off fs fs.length ≤ 32768) (hr : STr fs s rc R ST) (hW : WP s.2.2.1.length (tB fs s.2.2.1) s.2.1.1 xs) (hN : SLN s.2.2.1.length (tB fs s.2.2.1)) (hcm : AL cmP xs) (hcq : AL cmQ xs) (hg : AL (fun x => x.2.1 = 4 → 1 ≤ x.2.2.2.1 ∧ x.2.2.2.1 ≤ 4) xs) (hrn : ∀ i, rn i = (!rc || rn0 i)) (hod : ∀ d, d ∈ s.1.2.2.1 → d < xs.length) (hoT : ∀ d, stN xs d = 2 → d ∈ s.1.2.2.1) (hll : ll = layL s.2.2.1.length (tB fs s.2.2.1) (sta (tB fs s.2.2.1) s.2.1.1 rc R)) (hsl : sl = slL s.2.2.1.length (tB fs s.2.2.1) s.2.1.1 xs (sta (tB fs s.2.2.1) s.2.1.1 rc R)) (hth : th = thS (tB fs s.2.2.1) ll xs s.1.2.2.1 rc rn0 sl.length) (hrel : CBR C B (cAd fs s.2.2.1 (tB fs s.2.2.1)) tO (tB fs s.2.2.1) ll) (hL : LYe B tO (tB fs s.2.2.1) ll xs s.1.2.2.1 sl.length rc rn0 th fe0 bg0 G0 fe1 mem1 bg1 G1 fe2 mem2 bg2 G4 G5 G2 sp G3 CM fe3) (h : TKe sk L own τ fs s xs ST rn) (hz : Z15 τ xs) (hb : CB τ C) : ∃ τ' cpf, f_Layout_lay F c 1700 (cH sk L τ) = some ((), cH sk L τ') ∧ LAD sk L own τ' fs s xs ST rn ll sl C B cpf tO th (naF (ownV B (pf0 B tO (tB fs s.2.2.1) ll) tO (tB fs s.2.2.1) s.2.1.1 (sta (tB fs s.2.2.1) s.2.1.1 rc R) G1.1 G3.2.1) (ownK G0.1 bg2 (sp + 8 * sl.length - bg2) (CM.2.2.getD CM.1) (CM.1 - bg2)) CM.2.1 xs) G1.1 G3.2.1 fe3 (tpN bg2 (ll.foldl (ft1 (tB fs s.2.2.1) G3.2.1) (false, 0, 1, 0))) sp (upN fe0 16) (upN fe1 16) (upN fe2 16) bg0 bg1 bg2 ∧ ((eJ τ' 1706 0 = lN (G0.1 - bg0) ∧ eJ τ' 1706 1 = lN (G1.1 + psz B (pf0 B tO (tB fs s.2.2.1) ll) - bg1) ∧ eJ τ' 1706 2 = lN (sp + 8 * sl.length - bg2)) ∧ eJ τ' 1707 0 = lN (G0.1 - bg0) ∧ eJ τ' 1707 1 = lN (G1.1 + psz B (pf0 B tO (tB fs s.2.2.1) ll) - bg1) ∧ eJ τ' 1707 2 = lN (CM.1 - bg2)) ∧ frLy τ τ' := by
  have hk := STr_k hr
  obtain ⟨hl, hnd, hall, hsr⟩ := STr_ll h hr hll
  have hok := hW.2.1
  obtain ⟨τ1, a1, a2, a3, a4⟩ := k_gather (F := F) (c := c) hF hc hsum h hr hb
  rw [← hll] at a2 a3
  obtain ⟨cpf, hcpf⟩ : ∃ cpf, cpf = ll.foldl (sC C (tB fs s.2.2.1) (cAd fs s.2.2.1 (tB fs s.2.2.1))) [] := ⟨_, rfl⟩
  rw [← hcpf] at a3
  have h1 := TKe_Ly h a4.1
  have hb1 := CB_Ly hb a4.1
  have hz1 : Z15 τ1 xs := fun i hi => by
    have z2 := (CLm_at h.2.2.2.1.2.1 (List.getElem?_eq_getElem hi)).2.1
    have hge := (h.2.2.2.1.1 149 i _ (Or.inr (Or.inr rfl)) z2).1
    have eP : pN τ1 149 i = pN τ 149 i := by unfold pN; rw [a4.1.2.2.2.2.2.2.2 149 (by decide)]
    rw [eP, a4.2 _ _ hge, a4.2 _ _ hge]
    exact hz i hi
  obtain ⟨τ2, b1, b2, b3⟩ := k_findSlots (F := F) (c := c) hr hF hW hN h1 hz1
  rw [← hsl] at b2
  have h2 := b2.1
  have ho2 := COr_Sl a2 b3
  have hp2 := CPl_Sl a3 b3
  have hb2 := CB_Ly hb1 b3.1
  have hns := hN _ b2.2.2
  obtain ⟨τ3, c1, c2, c3, c4, c5, ⟨c6, c7, c8, c9⟩, c10⟩ := k_findSegments (F := F) (c := c) (on := rc) (rn0 := rn0) (ns := sl.length) hF hc hk hl hok hrn h2 ho2 b2.2.1.1 (by omega)
  have h3 := TKe_Ly h2 c10
  have ho3 : COr τ3 ll := COr_fx ho2 (c6 1700 11) (c9 1701)
  have hp3 : CPl τ3 C cpf := CPl_fx hp2 (c6 1697 3) (c6 1697 4) (c8 1698 (by decide)) (c8 1699 (by decide))
  have hb3 := CB_Ly hb2 c10
  have hT : cpf.map (st C) = (pf0 B tO (tB fs s.2.2.1) ll).map (st B) := by
    rw [hcpf]
    exact pool_T (fun x hx hs => ⟨(hrel x hx hs).1, (hrel x hx hs).2.1, (hrel x hx hs).2.2.1⟩)
  have hpzE := psz_T hT
  have hpz1 := psz_le cpf hp3.2.2.1.2
  have hpz2 := stL_len hp3.2.2.1
  obtain ⟨q0, q1, q2, q3, q4, q5, q6, q7, q8, q9, q10, q11, q12, q13, q14, q15, q16⟩ := hL
  obtain ⟨τ4, d1, d2, d3, d4, d5⟩ := k_layText (F := F) (c := c) (τ := τ3) (th := th) (on := rc) (rn0 := rn0) (ns := sl.length) (pz := psz B (pf0 B tO (tB fs s.2.2.1) ll)) (thr := ll.any (thr1 (tB fs s.2.2.1))) (ad1 := psF B (pf0 B tO (tB fs s.2.2.1) ll) tO (tB fs s.2.2.1) G1.1 G1.2.1) hF hc hk hl hnd hsr hok (cmOK_of hcm) hcq hrn hod h3 ho3 (fun j hj => by rw [hth]; exact c2 j hj) c3 (by rw [c6]; exact b2.2.1.1) hns (by rw [← hpzE]; exact hp3.2.1) (by rw [← hpzE]; omega) (fun x hx hs => by unfold psF; rw [if_neg (by rw [hs]; decide)]) q0 q1 q2 q3 q4 q5 q6 q7 q8 q9 q10 q11 q12 q13 q14 q15 q16
  have fl4 := frJE_Ly d5 JX_Ly EX4_Ly
  have h4 := TKe_Ly h3 fl4
  have ho4 : COr τ4 ll := COr_fx ho3 (d5.1 1700 11) (d5.2.2.2.2.2 1701)
  have hA4 : LAc sk L own τ4 fs s xs ST rn ll C B cpf tO G1.1 G3.2.1 := ⟨h4, ⟨hk, hl, hall⟩, CB_Ly hb3 fl4, CPl_fx hp3 (d5.1 1697 3) (d5.1 1697 4) (d5.2.2.2.1 1698) (d5.2.2.2.1 1699), d3.2.2.2.2.1, by omega, d2, hT, hrel⟩
  obtain ⟨τ5, e1, e2, e3⟩ := k_ly_18 (F := F) (c := c) hF ll.length 0 F τ4 (Nat.zero_add _) (by have := hl.1; omega) hA4 ho4 (fun x hx => by rw [List.take_zero] at hx; exact absurd hx List.not_mem_nil)
  have hA5 := LAc_J hA4 e3 (fun a k w => Or.inr (Or.inl w))
  have hn5 : LYn τ5 G0.1 bg2 (sp + 8 * sl.length - bg2) (CM.2.2.getD CM.1) (CM.1 - bg2) := ⟨by rw [e3.2.1 _ _ (fun w => by unfold J18 at w; omega)]; exact d3.2.2.2.1, by rw [e3.2.1 _ _ (fun w => by unfold J18 at w; omega)]; exact d3.2.2.1, by rw [e3.2.2.2.2.1 _ _ (fun w => w)]; exact d3.2.2.2.2.2.2.2.2.1.2.1, by rw [e3.2.2.2.2.1 _ _ (fun w => w)]; exact d3.2.2.2.2.2.2.2.2.1.2.2.1, by rw [e3.2.2.2.2.1 _ _ (fun w => w)]; exact d3.2.2.2.2.2.2.2.2.1.2.2.2⟩
  have eP5 : ∀ n, pN τ5 149 n = pN τ4 149 n := fun n => by unfold pN; rw [e3.2.2.2.2.2]
  have hge5 : ∀ n, n < xs.length → 1815 ≤ pN τ4 149 n := fun n hn => (h4.2.2.2.1.1 149 n _ (Or.inr (Or.inr rfl)) (CLm_at h4.2.2.2.1.2.1 (List.getElem?_eq_getElem hn)).2.1).1
  obtain ⟨τ6, g1, g2, g3⟩ := k_ly_60 (F := F) (c := c) (on := rc) (R := R) (na := CM.2.1) hF hr hW hg (fun i hi => by
    rw [q15, pc_no (by
      unfold cB
      rw [hrn i] at hi
      rw [hi, Bool.and_false]
      decide)]) xs.length 0 F τ5 (Nat.zero_add _) (by have := h4.2.2.2.1.2.1.1.2.2.2.1; rw [List.length_map] at this; omega) hA5 hn5 (fun n _ hn h2n hrn2 => by
    have := hge5 n hn
    rw [eP5, e3.2.1 _ _ (fun w => by unfold J18 at w; omega)]
    refine d3.2.2.2.2.2.2.2.2.2 n (hoT n h2n) ?_
    unfold cB
    rw [← hrn n, hrn2, decide_eq_true h2n]
    rfl) (fun j hj => absurd hj (by omega))
  have f46 : frJE (fun a k => J18 (tB fs s.2.2.1) a k ∨ J60 a k) E0 τ4 τ6 := frJE_trans (frJE_mono e3 (fun _ _ w => Or.inl w) (fun _ _ w => w)) (frJE_mono g3 (fun _ _ w => Or.inr w) (fun _ _ w => w))
  have nJ : ∀ {a k : Nat}, ¬ (152 ≤ a ∧ a < 1688) → a < 1815 → fJ τ6 a k = fJ τ4 a k := fun h1 h2 => f46.2.1 _ _ (fun w => by unfold J18 J60 at w; omega)
  have nE : ∀ a i, eJ τ6 a i = eJ τ4 a i := fun a i => f46.2.2.2.2.1 a i (fun w => w)
  have hA6 := LAc_J hA5 g3 (fun a k w => Or.inr (Or.inr w))
  refine ⟨τ6, cpf, ?_, ⟨hA6, COr_fx ho4 (f46.1 1700 11) (f46.2.2.2.2.2 1701), ⟨?_, b2.2.2⟩, ⟨fun j hj => ?_, ?_⟩, g2, fun x hx => ?_, fun w => ?_, ?_, ?_, ⟨?_, ?_, ?_⟩, ⟨?_, ?_, ?_⟩⟩, ⟨⟨?_, ?_, ?_⟩, ?_, ?_, ?_⟩, ?_⟩
  · unfold f_Layout_lay
    rw [c_o (G1700 h.1), bs, a1, xb_mk, c_o (G1700 h.1), bs, b1, xb_mk, c_o (G1700 h.1), bs, c1, xb_mk, c_o (G1700 h.1), bs, d1, xb_mk, e1]
    unfold f_Layout_lay_58
    exact g1
  · have eI6 : ∀ a k, fI τ6 a k = fI τ2 a k := fun a k => by rw [f46.1, d5.1, c6]
    have eP6 : ∀ n, pN τ6 149 n = pN τ2 149 n := fun n => by unfold pN; rw [f46.2.2.2.2.2, d5.2.2.2.2.2, c9]
    have eE6 : ∀ a, a ≠ 1703 → eI τ6 a = eI τ2 a := fun a ha => by rw [f46.2.2.2.1, d5.2.2.2.1, c8 a ha]
    obtain ⟨z1, z2, z3, z4⟩ := b2.2.1
    refine ⟨by rw [eI6]; exact z1, fun i z hz => by rw [eE6 _ (by decide)]; exact z2 i z hz, fun P hP t ht => by rw [eI6, eP6]; exact z3 P hP t ht, fun z hz hn => by rw [eE6 _ (by decide)]; exact z4 z hz hn⟩
  · rw [f46.2.2.2.1, d5.2.2.2.1, hth]; exact c2 j hj
  · rw [f46.2.2.2.1, d5.2.2.2.1]; exact c3
  · have hx1 := (hl.2 x hx).1
    have hT64 := BK_T (s := s) h.2.2.2.2.1.1
    by_cases cs : sS (tB fs s.2.2.1) x = true
    · rw [g3.2.1 _ _ (fun w => by unfold J60 at w; omega), e2 x hx cs]
      congr 1
      have k1 : G3.2.1 x = G2.2.1 x := by rw [q14]; exact pg_k (cnd_s cs (by decide)) ll _
      have k2 : G2.2.1 x = G5.2.1 x := by rw [q12]; exact pg_k (cnd_s cs (by decide)) ll _
      have k3 : G5.2.1 x = G4.2.1 x := by rw [q11]; exact pg_k (cnd_s cs (by decide)) ll _
      have k4 : G4.2.1 x = psF B (pf0 B tO (tB fs s.2.2.1) ll) tO (tB fs s.2.2.1) G1.1 G1.2.1 x := by rw [q10]; exact pg_k (cnd_s cs (by decide)) ll _
      rw [k1, k2, k3, k4]
      unfold psF
      rw [if_pos cs]
    · exact hA6.2.2.2.2.2.2.1 x hx (by cases hh : sS (tB fs s.2.2.1) x with | false => rfl | true => exact absurd hh cs)
  · rw [nJ (by omega) (by omega)]; exact d3.1 w
  · rw [nJ (by omega) (by omega)]; exact d3.2.1
  · rw [nJ (by omega) (by omega)]; exact d3.2.2.2.2.2.1
  · rw [nE]; exact d3.2.2.2.2.2.2.1.1
  · rw [nE]; exact d3.2.2.2.2.2.2.2.1.1
  · rw [nE]; exact d3.2.2.2.2.2.2.2.2.1.1
  · rw [nE]; exact d3.2.2.2.2.2.2.1.2.1
  · rw [nE]; exact d3.2.2.2.2.2.2.2.1.2.1
  · rw [nE]; exact d3.2.2.2.2.2.2.2.2.1.2.1
  · rw [nE]; exact d3.2.2.2.2.2.2.1.2.2.1
  · rw [nE]; exact d3.2.2.2.2.2.2.2.1.2.2.1
  · rw [nE]; exact d3.2.2.2.2.2.2.2.2.1.2.2.1
  · rw [nE]; exact d3.2.2.2.2.2.2.1.2.2.2
  · rw [nE]; exact d3.2.2.2.2.2.2.2.1.2.2.2
  · rw [nE]; exact d3.2.2.2.2.2.2.2.2.1.2.2.2
  · exact frLy_trans a4.1 (frLy_trans b3.1 (frLy_trans c10 (frLy_trans fl4 (frJE_Ly f46 (fun a k w => by unfold J18 J60 at w; omega) (fun a i w => w.elim)))))
end CLX
section CRX
variable {F : Nat} {c : px_CT} {sk : Nat → Nat × Nat × Nat} {L : Nat} {τ : px_TT} {own : Nat → Nat × Nat} {fs : px_FS} {s : px_TK} {xs : px_NL} {ST rn : Nat → Bool} {C B : Nat → Nat} {ll : List Nat} {gs : List (List Nat × Int64)} {ws : List (List Nat)} {k : Nat} {rc : Bool} {R : Nat → Bool}
theorem k_rl63X {a : Nat} (hF : 65536 < F) (hS : GS sk L) (hR : GR τ) (hro : ROk sk L τ) (hbl : BL sk L τ) (ha : a ≤ 4) : ∃ τ', f_H_runLink_63 F c 0 (nI a) (cH sk L τ) = some (nI a, cH sk L τ') ∧ fI τ' 147 18 = nI a ∧ ROk sk L τ' ∧ frE3 τ τ' ∧ ∃ ro, (ro = 3 ∨ ro = 5) ∧ fN τ' 0 1 = some ro ∧ (a = 0 → ∀ w, fC τ w → fW ro (ro + 1) 65536 τ' w) ∧ (3 ≤ a → (∀ k, fI τ' ro k = fI τ ro k) ∧ eI τ' (ro + 1) = eI τ (ro + 1)) ∧ (a = 1 ∨ a = 2 → ∃ z, z ≤ 24 ∧ fI τ' ro 1 = nI z) := by
  obtain ⟨τ1, hτ1⟩ : ∃ y, y = tI τ 147 18 (nI a) := ⟨_, rfl⟩
  have f1 : frE3 τ τ1 := by
    rw [hτ1]
    exact ⟨frZ_I (Or.inr (Or.inr (Or.inr (Or.inr ⟨rfl, rfl⟩)))), fun x hx => ⟨fun k => tI_ne (Or.inl (by omega)), fun _ => rfl, rfl, rfl, rfl⟩, fun _ => rfl, fun k => tI_ne (Or.inl (by decide))⟩
  have hR1 := GR_Z hR f1.1
  have hro1 : ROk sk L τ1 := ROk_fx hro EX_refl (fun k => f1.2.2.1 k) (fun x k _ => by rw [hτ1]; rfl) (fun x k hx => by rw [hτ1]; exact tI_ne (Or.inl (by omega))) (fun x _ => by rw [hτ1]; rfl)
  have h18 : fI τ1 147 18 = nI a := by rw [hτ1, tI_at]
  obtain ⟨ro, hro2, hN1, hrow⟩ := ROk_out hro1
  obtain ⟨τ2, b1, b2, b3, b4, b5⟩ : ∃ τ2, f_Row_clear F c ro (cH sk L τ1) = some ((), cH sk L τ2) ∧ rowOK sk L τ2 ro (ro + 1) 65536 ∧ frRw ro (ro + 1) τ1 τ2 ∧ rz τ2 ro 65536 0 ∧ ∀ g, fW ro (ro + 1) 65536 τ2 (0, g) := by
    obtain ⟨τ2, b1, b2, b3, b4⟩ := k_clearZ (F := F) (c := c) hrow
    exact ⟨τ2, b1, b2, b3, b4, fun g => ⟨Nat.zero_le _, (b4.1 (Nat.zero_le _)).1, fun i hi => absurd hi (Nat.not_lt_zero _)⟩⟩
  have hR2 := GR_Rw hR1 b3 (by omega)
  have hro3 := ROk_Rw hro1 b3 b2 (by omega)
  have f2 := frE3_trans f1 (frE3_Rw b3 hro2)
  have hN2 : fN τ2 0 1 = some ro := (b3.2.2.1 0 1).trans hN1
  have e18 : ∀ {τ3 : px_TT}, frRw ro (ro + 1) τ2 τ3 → fI τ3 147 18 = nI a := fun f => by rw [f.1 _ _ (Or.inl (by omega)), b3.1 _ _ (Or.inl (by omega))]; exact h18
  have hob := hrow.1
  unfold f_H_runLink_63 f_H_runLink_139
  rw [C0r11 (G0 hS) (GR_r (v := 147) hR (by decide)), bs, C3p18 (G147 hS), bs, ← hτ1]
  by_cases c0 : a = 0
  · rw [if_pos (show nI a = 0 by rw [c0]; rfl)]
    obtain ⟨z, hz, ez⟩ := hro3.2.2.2.1.2.2.2.2.1
    obtain ⟨τ3, d1, d2, d3, d4⟩ := k_copyC (F := F) (c := c) (q := 0) (m := z) (G1712 hS) (by decide) (hro3.2.2.2.1.2.2.2.2.2.2) (by omega) b2
    rw [← ez] at d1
    have e2 : fI τ2 1711 1 = fI τ 1711 1 := (f2.2.1 1711 (by omega)).1 1
    have e3 : eI τ2 1712 = eI τ 1712 := (f2.2.1 1712 (by omega)).2.2.1
    refine ⟨τ3, ?_, e18 d3, ROk_Rw hro3 d3 d2 (by omega), frE3_trans f2 (frE3_Rw d3 hro2), ro, hro2, (d3.2.2.1 0 1).trans hN2, fun _ w hw => ?_, fun q => by omega, fun q => by omega⟩
    rotate_left
    · have hz2 : w.1 = z := (nI_eq (by have := hw.1; omega) (by omega)).mp (hw.2.1.symm.trans (e2.symm.trans ez))
      have u := d4 (0, fun _ => 0) (b5 _)
      unfold wCpy at u
      rw [if_pos (show (0, fun _ => (0 : Int32)).1 + z ≤ 65536 by show 0 + z ≤ 65536; omega)] at u
      obtain ⟨u1, u2, u3⟩ := u
      have u2 : fI τ3 ro 1 = nI (0 + z) := u2
      have u3 : ∀ i, i < 0 + z → eI τ3 (ro + 1) i = va_cpy (eI τ2 1712) (fun _ => (0 : Int32)) 0 0 z i := u3
      rw [Nat.zero_add] at u2 u3
      refine ⟨hw.1, by rw [hz2]; exact u2, fun i hi => ?_⟩
      rw [u3 i (by omega), pk_cpy_in (Nat.zero_le _) (by omega), Nat.zero_add, Nat.sub_zero, e3]
      exact hw.2.2 i hi
    rw [C0r1 (G0 hS) hN1, bs, c_o hob, bs, b1, xb_mk, C0r1 (G0 hS) hN2, bs, C0r14 (G0 hS) (GR_r (v := 1710) hR2 (by decide)), bs, C1r4 (G1710 hS) (GR_r (v := 1711) hR2 (by decide)), bs, C10r0 (G1711 hS) (GR_r (v := 1712) hR2 (by decide)), bs, bs, C1r4 (G1710 hS) (GR_r (v := 1711) hR2 (by decide)), bs, C10g1 (G1711 hS), bs, c_o hob, bs, d1, xb_mk]
  · rw [if_neg (show ¬ nI a = 0 from fun e => c0 ((nI_eq (b := 0) (by omega) (by decide)).mp e))]
    by_cases c3 : 3 ≤ a
    · rw [if_pos (nI_le c3 (by omega))]
      exact ⟨τ1, rfl, h18, hro1, f1, ro, hro2, hN1, fun q => by omega, fun _ => ⟨fun k => by rw [hτ1]; exact tI_ne (Or.inl (by omega)), by rw [hτ1]; rfl⟩, fun q => by omega⟩
    · rw [if_neg (nI_ge (by omega) (by decide))]
      obtain ⟨p, w, p1, p2, p3, p4⟩ := hbl
      have p1' : fN τ2 147 13 = some p := by rw [b3.2.2.1, hτ1]; exact p1
      have hpr : p ≠ ro := fun e => by have := p2.1; rw [e, hob.1] at this; exact absurd this (by decide)
      have hp7 : p ≠ 147 := fun e => by have := p2.1; rw [e, (G147 hS).1] at this; exact absurd this (by decide)
      have e3 : fI τ2 p 3 = nI w.length := by
        rw [b3.1 p 3 (Or.inl hpr), hτ1, tI_ne (Or.inl hp7)]
        exact p3.2.2.2
      obtain ⟨τ3, d1, d2, d3, d4⟩ := k_writeToZ (F := F) (c := c) (by omega) p2 hpr (by have := p4.1; omega) e3 b2 b4
      refine ⟨τ3, ?_, e18 d3, ROk_Rw hro3 d3 d2 (by omega), frE3_trans f2 (frE3_Rw d3 hro2), ro, hro2, (d3.2.2.1 0 1).trans hN2, fun q => absurd q c0, fun q => absurd q c3, fun _ => ⟨0 + w.length, by have := p4.1; omega, (d4.1 (by have := p4.1; omega)).1⟩⟩
      rw [C0r1 (G0 hS) hN1, bs, c_o hob, bs, b1, xb_mk, C0r11 (G0 hS) (GR_r (v := 147) hR2 (by decide)), bs, C3n13 (G147 hS), bs, C0r1 (G0 hS) hN2, bs, p1', bs, c_o p2, bs, d1, xb_mk]
end CRX
section CRY
variable {F : Nat} {c : px_CT} {sk : Nat → Nat × Nat × Nat} {L : Nat} {τ : px_TT} {own : Nat → Nat × Nat} {fs : px_FS} {s : px_TK} {B : Nat → Nat} {gs : List (List Nat × Int64)} {ws : List (List Nat)} {k a : Nat} {rc : Bool}
theorem k_runLinkX (hF : 65540 < F) (hc : KT c) (hS : GS sk L) (hR : GR τ) (hn : NP sk L τ own) (hg : CG sk L τ gs) (hw : CW sk L τ ws) (hf : CF sk L τ fs) (hm : RMk sk L (k + rmT fs [] + 32)) (hnd : (gs.map Prod.fst).Nodup) (hst : isNm τ 1696 wST) (hro : ROk sk L τ) (hwo : WOr τ) (hsum : (fs.map Prod.fst).sum ≤ 4096) (hB : BFs fs B) (hln : lnR fs gs ws rc B s a) : ∃ sk' L' τ' ro, f_H_runLink F c 0 (bI rc) (cH sk L τ) = some (nI a, cH sk' L' τ') ∧ EX sk L sk' L' ∧ (ro = 3 ∨ ro = 5) ∧ fN τ 0 1 = some ro ∧ fN τ' 0 1 = some ro ∧ (a = 0 → OUL fs s rc B τ' ro) ∧ (3 ≤ a → fI τ' ro 1 = fI τ ro 1 ∧ eI τ' (ro + 1) = eI τ (ro + 1)) ∧ (a = 1 ∨ a = 2 → ∃ z, z ≤ 24 ∧ fI τ' ro 1 = nI z) := by
  obtain ⟨hs, hn0, hn1⟩ := hln
  have hgl : gs.length ≤ 16 := by have := hg.1.2.2.2.1; rw [List.length_map] at this; exact this
  have hwl : ws.length ≤ 16 := hw.2.2.2.1
  obtain ⟨sk1, L1, τ1, own1, ST, rn, a1, a2, a3, a4, a5, a6, a7, a8, a9, a10, a11, a12⟩ := k_resolve (F := F) (c := c) (rc := rc) (by omega) hS hR hn hg hw hf hm hnd hst hs
  have hS1 := a4.1
  have hR1 := a4.2.1
  have hro1 : ROk sk1 L1 τ1 := ROk_fx hro a2 (fun j => a9.2.2.1 0 j (by omega) (by omega)) (fun x j hx => a9.2.2.1 x j (by omega) (by omega)) (fun x j hx => a9.1 x j (by omega) (by omega) (by omega) (by omega) (by omega) (by omega)) (fun x _ => a9.2.2.2.1 x)
  have hwo1 : WOr τ1 := WOr_fx hwo (a9.1 1700 11 (by omega) (by omega) (by omega) (by omega) (by omega) (by omega)) (a9.2.2.2.2.2 1701 (by omega) (by omega) (by omega) (by omega) (by omega))
  obtain ⟨ro, hr35, hN0⟩ : ∃ ro, (ro = 3 ∨ ro = 5) ∧ fN τ 0 1 = some ro := by
    obtain ⟨ro, h35, hN, _⟩ := ROk_out hro
    exact ⟨ro, h35, hN⟩
  have fI1 : ∀ k, fI τ1 ro k = fI τ ro k := fun k => a9.1 ro k (by omega) (by omega) (by omega) (by omega) (by omega) (by omega)
  have eI1 : eI τ1 (ro + 1) = eI τ (ro + 1) := a9.2.2.2.1 _
  have fN1 : fN τ1 0 1 = some ro := (a9.2.2.1 0 1 (by omega) (by omega)).trans hN0
  by_cases ca : anN fs ws s (xsN s) = 0
  · obtain ⟨R', rn0', r1, r2, r3⟩ := a11 ca
    obtain ⟨R, rn0, e1, e2⟩ := hn1 ca
    have h0 := anN_0 ca
    have hFSo := CF_FSo hf
    obtain ⟨x1, x2, x3, x4, x5, x6, x7, x8⟩ := LN_f (fs := fs) (gs := gs) (ws := ws) (s := s) hFSo hgl hwl hs h0
    have hr : STr fs s rc R ST := fun x hx => by
      rw [r2 x hx]
      cases hrc : rc with
      | false => rfl
      | true =>
        have u1 := (r1 hrc).1 x
        have u2 := (e1 hrc).1 x
        have : R' x = R x := by
          cases q1 : R' x with
          | true => exact (u2.mpr (u1.mp q1)).symm
          | false =>
            cases q2 : R x with
            | false => rfl
            | true => rw [u1.mpr (u2.mp q2)] at q1; cases q1
        rw [this]
    have hrn : ∀ i, rn i = (!rc || rn0 i) := fun i => by
      rw [r3 i]
      cases hrc : rc with
      | false => rfl
      | true =>
        have u1 := (r1 hrc).2 i
        have u2 := (e1 hrc).2 i
        have : rn0' i = rn0 i := by
          cases q1 : rn0' i with
          | true => exact (u2.mpr (u1.mp q1)).symm
          | false =>
            cases q2 : rn0 i with
            | false => rfl
            | true => rw [u1.mpr (u2.mp q2)] at q1; cases q1
        rw [this]
    obtain ⟨ll, hll⟩ : ∃ ll, ll = layL s.2.2.1.length (tB fs s.2.2.1) (sta (tB fs s.2.2.1) s.2.1.1 rc R) := ⟨_, rfl⟩
    obtain ⟨sl, hsl⟩ : ∃ sl, sl = slL s.2.2.1.length (tB fs s.2.2.1) s.2.1.1 (xsN s) (sta (tB fs s.2.2.1) s.2.1.1 rc R) := ⟨_, rfl⟩
    obtain ⟨th, hth⟩ : ∃ th, th = thS (tB fs s.2.2.1) ll (xsN s) s.1.2.2.1 rc rn0 sl.length := ⟨_, rfl⟩
    rw [← hll, ← hsl, ← hth] at e2
    obtain ⟨fe0, bg0, G0', fe1, mem1, bg1, G1, fe2, mem2, bg2, G4, G5, G2, sp, G3, CM, fe3, hL, ea⟩ := e2
    obtain ⟨hl, hll2, hall, hsr⟩ := STr_ll a4 hr hll
    have hk := STr_k hr
    have hN := SLN_of (s := s) hFSo x2.1 hsum
    have hof : off fs fs.length ≤ 32768 := by rw [off_sum]; omega
    obtain ⟨C, hC⟩ : ∃ C : Nat → Nat, C = fun x => b8 (eI τ1 8 x) := ⟨_, rfl⟩
    have hcb : CB τ1 C := ⟨a4.2.2.1.2.2.1, fun x => by rw [hC]⟩
    have hrel := CBR_of a4 hl hk hcb hB
    obtain ⟨τ2, cpf, b1, b2, ⟨⟨m0, m1, m2⟩, b3, b4, b5⟩, b6⟩ := k_layF (F := F) (c := c) (τ := τ1) (C := C) (B := B) (tO := tOf fs s.2.2.1) (ll := ll) (sl := sl) (th := th) (rc := rc) (R := R) (rn0 := rn0) (by omega) hc hof hr x3 hN x4 x5 x6 hrn x7 x8 hll hsl hth hrel hL a4 a10.1 hcb
    have hns := hN _ b2.2.2.1.2
    have hZ := TKe_Z a4 hk hl
    have hpz1 := psz_le cpf b2.1.2.2.2.1.2.2.1.2
    have hpz2 := stL_len b2.1.2.2.2.1.2.2.1
    have hpzE := psz_T b2.1.2.2.2.2.2.2.2.1
    have hol : s.1.2.2.1.length ≤ 4128 := by
      have h1 := x2.1.2.2.2.1
      have h2 := BK_T (s := s) x2.1
      omega
    obtain ⟨⟨y1, y2, y3, y4⟩, _, _⟩ := LYe_b hZ hl.1 hns (by rw [← hpzE]; omega) (cmOK_of x4) x7 hol hL
    have hz3 := LYe_z hth hL
    have kt := k_isTooLarge (F := F) (c := c) (τ := τ2) (th := th) (by omega) b2.1.1.1 b2.1.1.2.1 b3 b4 b5 b2.2.2.2.2.2.2.2.2.1 ⟨by omega, by omega, by omega, y4⟩ hz3
    have hS2 := b2.1.1.1
    have hR2 := b2.1.1.2.1
    have hro2 : ROk sk1 L1 τ2 := ROk_fx hro1 EX_refl (fun j => b6.2.2.2.2.1 0 j) (fun x j _ => b6.2.2.2.2.1 x j) (fun x j hx => b6.1 x j (by omega) (by omega) (by omega)) (fun x hx => b6.2.2.2.2.2.1 x (by omega))
    have hwo2 : WOr τ2 := ⟨ll, hl.1, fun x hx => by have h1 := (hl.2 x hx).1; have h2 := BK_T (s := s) x2.1; omega, b2.2.1⟩
    have hbl2 := BL_Ly hS1 a7 b6
    have hg2 := CG_Ly a5 a4.2.2.2.1.1 b6
    have hw2 := CW_Ly a6 a4.2.2.2.1.1 b6
    have hst2 : isNm τ2 1696 wST := ⟨(b6.2.2.1 _ 0 (by omega) (by omega) (by omega) (by omega)).trans a8.1, (b6.2.2.1 _ 1 (by omega) (by omega) (by omega) (by omega)).trans a8.2.1, (b6.2.2.1 _ 2 (by omega) (by omega) (by omega) (by omega)).trans a8.2.2.1, (b6.1 _ 3 (by omega) (by omega) (by omega)).trans a8.2.2.2⟩
    have f2 := frRL_trans (frRL_Rs a9) (frRL_Ly b6)
    have pre : ∀ z, f_H_runLink F c 0 (bI rc) (cH sk L τ) = z ↔ (if bI (lyA th (G0'.1 - bg0) (G1.1 + psz B (pf0 B (tOf fs s.2.2.1) (tB fs s.2.2.1) ll) - bg1) (CM.1 - bg2) fe3) = 0 then f_H_runLink_35 F c 0 (nI 0) (cH sk1 L1 τ2) else f_H_runLink_35 F c 0 (nI 3) (cH sk1 L1 τ2)) = z := fun z => by
      unfold f_H_runLink
      rw [C0r11 (G0 hS) (GR_r (v := 147) hR (by decide)), bs, c_o (G147 hS), bs, a1, xb_mk, ca, if_pos (show nI 0 = 0 from rfl), C0r13 (G0 hS1) (GR_r (v := 1700) hR1 (by decide)), bs, c_o (G1700 hS1), bs, b1, xb_mk, C0r13 (G0 hS2) (GR_r (v := 1700) hR2 (by decide)), bs, c_o (G1700 hS2), bs, kt, xb_mk]
    have fI2 : ∀ k, fI τ2 ro k = fI τ ro k := fun k => (b6.1 ro k (by omega) (by omega) (by omega)).trans (fI1 k)
    have eI2 : eI τ2 (ro + 1) = eI τ (ro + 1) := (b6.2.2.2.2.2.1 _ (by omega)).trans eI1
    have fN2 : fN τ2 0 1 = some ro := (b6.2.2.2.2.1 0 1).trans fN1
    cases eA : lyA th (G0'.1 - bg0) (G1.1 + psz B (pf0 B (tOf fs s.2.2.1) (tB fs s.2.2.1) ll) - bg1) (CM.1 - bg2) fe3 with
    | true =>
      rw [eA, if_pos rfl] at ea
      obtain ⟨τ4, u1, u2, u3, u4, ro', v1, v2, v3, v4, v5⟩ := k_rl63X (F := F) (c := c) (a := 3) (by omega) hS2 hR2 hro2 hbl2 (by decide)
      obtain rfl : ro' = ro := Option.some.inj (v2.symm.trans ((u4.2.2.1 1).trans fN2))
      refine ⟨sk1, L1, τ4, ro', (pre _).mpr ?_, a2, hr35, hN0, v2, fun q => by omega, fun _ => ⟨((v4 (by decide)).1 1).trans (fI2 1), (v4 (by decide)).2.trans eI2⟩, fun q => by omega⟩
      rw [eA, if_neg (show ¬ bI true = 0 by decide), ea]
      unfold f_H_runLink_35 f_H_runLink_36
      rw [if_neg (show ¬ nI 3 = 0 by decide)]
      exact u1
    | false =>
      rw [eA, if_neg (by decide)] at ea
      obtain ⟨τ3, d1, d2, d3, d4⟩ := k_write (F := F) (c := c) (by omega) hc hr hN (by omega) b2 hst2 hro2.2.2.2.1
      have hL3 := LAD_Z b2 (frZ_F d3)
      have hro3 : ROk sk1 L1 τ3 := ROk_Rw hro2 d3 d2 (by omega)
      obtain ⟨τ4, g1, g2, g3, g4⟩ := k_fillSites (F := F) (c := c) (rn0 := rn0) (by omega) hr hc x3 e1 hsl hns rfl hL3 d2
      have hL4 := LAD_Z hL3 (frZ_S g3)
      have hro4 : ROk sk1 L1 τ4 := by
        obtain ⟨⟨ro, rd, w1, w2, w3⟩, h3, h5, h11, h14, h19⟩ := hro3
        exact ⟨⟨ro, rd, w1, (g3.2.2.1 _ _).trans w2, (g3.2.2.1 _ _).trans w3⟩, rowOK_fx h3 EX_refl (g3.2.2.1 _ _) (g3.1 _ _ (by omega)) (g3.1 _ _ (by omega)) (g3.2.2.2.1 _ (by omega)), rowOK_fx h5 EX_refl (g3.2.2.1 _ _) (g3.1 _ _ (by omega)) (g3.1 _ _ (by omega)) (g3.2.2.2.1 _ (by omega)), g2, rowOK_fx h14 EX_refl (g3.2.2.1 _ _) (g3.1 _ _ (by omega)) (g3.1 _ _ (by omega)) (g3.2.2.2.1 _ (by omega)), rowOK_fx h19 EX_refl (g3.2.2.1 _ _) (g3.1 _ _ (by omega)) (g3.1 _ _ (by omega)) (g3.2.2.2.1 _ (by omega))⟩
      have hbl4 : BL sk1 L1 τ4 := by
        obtain ⟨p, w, p1, p2, p3, p4⟩ := hbl2
        refine ⟨p, w, (g3.2.2.1 _ _).trans ((d3.2.2.1 _ _).trans p1), p2, ?_, p4⟩
        exact ⟨(g3.2.1 _ 0 (by omega)).trans ((d3.2.1 _ _).trans p3.1), (g3.2.1 _ 1 (by omega)).trans ((d3.2.1 _ _).trans p3.2.1), (g3.2.1 _ 2 (by omega)).trans ((d3.2.1 _ _).trans p3.2.2.1), (g3.1 _ 3 (by omega)).trans ((d3.1 _ 3 (by omega)).trans p3.2.2.2)⟩
      have hfe : fe3 ≤ 65536 := by
        unfold lyA at eA
        rw [Bool.or_eq_false_iff, Bool.or_eq_false_iff, Bool.or_eq_false_iff] at eA
        have := of_decide_eq_false eA.2.2
        omega
      have fI4 : ∀ k, fI τ4 ro k = fI τ ro k := fun k => (g3.1 ro k (by omega)).trans ((d3.1 ro k (Or.inl (by omega))).trans (fI2 k))
      have eI4 : eI τ4 (ro + 1) = eI τ (ro + 1) := (g3.2.2.2.1 _ (by omega)).trans ((d3.2.2.2.1 _ (by omega)).trans eI2)
      have fN4 : fN τ4 0 1 = some ro := (g3.2.2.1 0 1).trans ((d3.2.2.1 0 1).trans fN2)
      have ha4 : a ≤ 4 := by rw [ea]; split <;> omega
      obtain ⟨τ5, u1, u2, u3, u4, ro', v1, v2, v3, v4, v5⟩ := k_rl63X (F := F) (c := c) (a := a) (by omega) hL4.1.1.1 hL4.1.1.2.1 hro4 hbl4 ha4
      obtain rfl : ro' = ro := Option.some.inj (v2.symm.trans ((u4.2.2.1 1).trans fN4))
      have hlo := LYe_lo hL
      have hT := BK_T (s := s) x2.1
      have hob : ∀ t, t < s.2.2.1.length → eObj (tB fs s.2.2.1 t) (tNf fs s.2.2.1 t) = 0 := fun t ht => by
        obtain ⟨q, _, _, _, _, he, _⟩ := TKe_ob a4 ht
        exact he
      have hY : LYo s.2.2.1.length (tB fs s.2.2.1) ll := by
        rw [hll]
        exact (LYo_lay hT hob (LI_lay (fun t ht => (eObj_0 (hob t ht)).1.1.2.1))).1
      have hRo := LY_room (dr := s.2.1.1) (R := R) hY hth (by rw [hsl]) hL hfe (LYe_ad hZ hl.1 hns (by rw [← hpzE]; omega) (cmOK_of x4) x7 hol hL)
      obtain ⟨h1, _, _, h4, h5, _⟩ := hRo
      rw [← hpzE] at h4
      rw [← hsl] at h5
      obtain ⟨_, w2, w3⟩ := LYe_b hZ hl.1 hns (by rw [← hpzE]; omega) (cmOK_of x4) x7 hol hL
      obtain ⟨l1, l2, l3, l4, l5, l6, l7, l8, l9, l10, l11, l12, l13, l14, l15, l16, l17⟩ := id hL
      have t0 := upN_le (v := fe0) (a := 16) (by decide)
      have t1 := upN_le (v := fe1) (a := 16) (by decide)
      have t2 := upN_le (v := fe2) (a := 16) (by decide)
      have mo01 : fe0 ≤ fe1 := by rw [l4]; split <;> omega
      have mo12 : fe1 ≤ fe2 := by rw [l8]; split <;> omega
      obtain ⟨l, el⟩ : ∃ l, l = rT7 th (r7s (seg3 (upN fe0 16) (upN fe1 16) (upN fe2 16)) (seg3 bg0 bg1 bg2) (seg3 (G0'.1 - bg0) (G1.1 + psz B (pf0 B (tOf fs s.2.2.1) (tB fs s.2.2.1) ll) - bg1) (sp + 8 * sl.length - bg2)) (seg3 (G0'.1 - bg0) (G1.1 + psz B (pf0 B (tOf fs s.2.2.1) (tB fs s.2.2.1) ll) - bg1) (CM.1 - bg2))) (ll.any (thr1 (tB fs s.2.2.1))) := ⟨_, rfl⟩
      have hH : 64 + 56 * l.length = fe0 := by
        rw [el, rT7_len, l1]
        split <;> omega
      have cont : a = 0 → OUL fs s rc B τ5 ro' := fun h0 => by
        obtain ⟨ev, hen⟩ := en7_l (NA := naF (ownV B (pf0 B (tOf fs s.2.2.1) (tB fs s.2.2.1) ll) (tOf fs s.2.2.1) (tB fs s.2.2.1) s.2.1.1 (sta (tB fs s.2.2.1) s.2.1.1 rc R) G1.1 G3.2.1) (ownK G0'.1 bg2 (sp + 8 * sl.length - bg2) (CM.2.2.getD CM.1) (CM.1 - bg2)) CM.2.1 (xsN s)) (xs := xsN s)
        obtain ⟨z1, z2⟩ := wr0_at (τ := τ2) (fp := seg3 (upN fe0 16) (upN fe1 16) (upN fe2 16)) (bg := seg3 bg0 bg1 bg2) (fz := seg3 (G0'.1 - bg0) (G1.1 + psz B (pf0 B (tOf fs s.2.2.1) (tB fs s.2.2.1) ll) - bg1) (sp + 8 * sl.length - bg2)) (mz := seg3 (G0'.1 - bg0) (G1.1 + psz B (pf0 B (tOf fs s.2.2.1) (tB fs s.2.2.1) ll) - bg1) (CM.1 - bg2)) (g := fun _ => 0) ev hen b2.2.2.2.1.1 b2.2.2.2.1.2 (fun j hj => ⟨⟨(LAD_47 b2 hj).1, (LAD_47 b2 hj).2, seg3_e (f := eJ τ2 1706) m0 m1 m2 j hj, seg3_e (f := eJ τ2 1707) b3 b4 b5 j hj⟩, seg3_lt (by omega) (by omega) (by omega) j, seg3_lt (by omega) (by omega) (by omega) j, seg3_lt (by omega) (by omega) (by omega) j, seg3_lt (by omega) (by omega) (by omega) j⟩)
        rw [← el] at z1 z2
        have hlo2 := hlo
        rw [← l1] at hlo2
        obtain ⟨W, w1, w2, w3, w4, w5⟩ : ∃ W : px_FW, W.1 = fe3 ∧ EX8 W.2 (en7 (naF (ownV B (pf0 B (tOf fs s.2.2.1) (tB fs s.2.2.1) ll) (tOf fs s.2.2.1) (tB fs s.2.2.1) s.2.1.1 (sta (tB fs s.2.2.1) s.2.1.1 rc R) G1.1 G3.2.1) (ownK G0'.1 bg2 (sp + 8 * sl.length - bg2) (CM.2.2.getD CM.1) (CM.1 - bg2)) CM.2.1 (xsN s)) (xsN s)) l.length l ∧ fW ro' (ro' + 1) 65536 τ5 W ∧ fC τ4 W ∧ ∀ i, fe0 ≤ i → i < fe3 → W.2 i = wfF s.2.2.1.length (tOf fs s.2.2.1) (tB fs s.2.2.1) s.2.1.1 (xsN s) (sta (tB fs s.2.2.1) s.2.1.1 rc R) ll sl (naF (ownV B (pf0 B (tOf fs s.2.2.1) (tB fs s.2.2.1) ll) (tOf fs s.2.2.1) (tB fs s.2.2.1) s.2.1.1 (sta (tB fs s.2.2.1) s.2.1.1 rc R) G1.1 G3.2.1) (ownK G0'.1 bg2 (sp + 8 * sl.length - bg2) (CM.2.2.getD CM.1) (CM.1 - bg2)) CM.2.1 (xsN s)) B G3.2.1 (seg3 (upN fe0 16) (upN fe1 16) (upN fe2 16)) (seg3 bg0 bg1 bg2) sp (tpN bg2 (ll.foldl (ft1 (tB fs s.2.2.1) G3.2.1) (false, 0, 1, 0))) G1.1 (fun _ => nI 0) i := ⟨_, by rw [siT_z, wrW_z b2.2.2.2.1.1 b2.2.2.2.1.2 hlo], EX8_lo z2 (fun i hi => by
            rw [itr_lo2 (H := fe0) (a := 0) (n := s.2.2.1.length) (fun t y _ ht i hi => siT_lo hL3 h1 (fun j _ => seg3_H (by omega) (by omega) (by omega) j) ht i hi) s.2.2.1.length 0 _ (Nat.zero_le _) (by omega) i (by omega)]
            unfold wrW
            rw [psW_lo (H := fe0) b2 h4 h5 (by omega) (by omega) i (by omega), foldl_lo (H := fe0) ll _ (fun y x hx i hi => seW_lo b2 h1 (fun j _ => seg3_H (by omega) (by omega) (by omega) j) hx i hi) i (by omega)]
            exact wFil_at i (by rw [z1]; exact hi)), v3 h0 _ ((g4 (if4 ea h0)).2 _ (d4 hfe (fun _ => 0))), (g4 (if4 ea h0)).2 _ (d4 hfe (fun _ => 0)), fun i hi hn => by
            unfold wfF
            exact (EQ_st hL3 hr h1 (st_ll b2.1 hr) (EQ_wr b2 hB (LY_in hY hth hL) (pf0_st (fun x hx hs => (hrel x hx hs).2.1)) hfe hlo2 (z1.trans hH))).2 i hi hn⟩
        exact OUL_mk (ad := G3.2.1) (NA := naF (ownV B (pf0 B (tOf fs s.2.2.1) (tB fs s.2.2.1) ll) (tOf fs s.2.2.1) (tB fs s.2.2.1) s.2.1.1 (sta (tB fs s.2.2.1) s.2.1.1 rc R) G1.1 G3.2.1) (ownK G0'.1 bg2 (sp + 8 * sl.length - bg2) (CM.2.2.getD CM.1) (CM.1 - bg2)) CM.2.1 (xsN s)) (th := th) (sl := sl) (sy := sta (tB fs s.2.2.1) s.2.1.1 rc R) (V := (fe0, bg0, G0', fe1, mem1, bg1, G1, fe2, mem2, bg2, G4, G5, G2, sp, G3, CM, fe3)) (lnX_mk e1 hll ⟨fe0, bg0, G0', fe1, mem1, bg1, G1, fe2, mem2, bg2, G4, G5, G2, sp, G3, CM, fe3, by rw [← hsl, ← hth]; exact hL, rfl, by rw [← hsl], rfl⟩ (by rw [← hsl]; exact hth) hsl rfl) (el.trans rows7_mk.symm) ⟨hfe, w3.2.1.trans (by rw [w1]; rfl), fun i hi => w3.2.2 i (by rw [w1]; exact hi)⟩ ⟨hfe, ((u4.2.1 1711 (by omega)).1 1).trans (w4.2.1.trans (by rw [w1]; rfl)), fun i hi => by rw [(u4.2.1 1712 (by omega)).2.2.1]; exact w4.2.2 i (by rw [w1]; exact hi)⟩ w2 (by rw [hH]; exact hlo2) (by
          show R7o l fe3
          unfold R7o
          rw [hH, el]
          exact rT7_fp (fun j hj ht => by
            have : j = 0 ∨ j = 1 ∨ j = 2 := by omega
            rcases this with e | e | e <;> subst e
            · rw [if_pos ht] at l4
              have mo23 : fe2 ≤ fe3 := by rw [l17]; split <;> omega
              show fe0 ≤ upN fe0 16 ∧ upN fe0 16 + (G0'.1 - bg0) ≤ fe3
              omega
            · rw [if_pos ht] at l8
              have mo23 : fe2 ≤ fe3 := by rw [l17]; split <;> omega
              show fe0 ≤ upN fe1 16 ∧ upN fe1 16 + (G1.1 + psz B (pf0 B (tOf fs s.2.2.1) (tB fs s.2.2.1) ll) - bg1) ≤ fe3
              omega
            · rw [if_pos ht] at l17
              show fe0 ≤ upN fe2 16 ∧ upN fe2 16 + (sp + 8 * sl.length - bg2) ≤ fe3
              omega)) (fun i hi hn => (w5 i (by omega) hn).trans (by rw [wfV_mk]))
      refine ⟨sk1, L1, τ5, ro', (pre _).mpr ?_, a2, hr35, hN0, v2, cont, fun q => ⟨((v4 q).1 1).trans (fI4 1), (v4 q).2.trans eI4⟩, v5⟩
      rw [eA, if_pos (show bI false = 0 from rfl)]
      unfold f_H_runLink_35 f_H_runLink_36 f_H_runLink_62
      rw [if_pos (show nI 0 = 0 from rfl), C0r14 (G0 hS2) (GR_r (v := 1710) hR2 (by decide)), bs, c_o (G1710 hS2), bs, d1, xb_mk, C0r14 (G0 hS2) (GR_r (v := 1710) hL3.1.1.2.1 (by decide)), bs, c_o (G1710 hS2), bs, g1, xb_mk]
      cases eO : ex1 (ovT (svF B (tOf fs s.2.2.1) (tB fs s.2.2.1) s.2.1.1 (xsN s) (sta (tB fs s.2.2.1) s.2.1.1 rc R) ll sl (naF (ownV B (pf0 B (tOf fs s.2.2.1) (tB fs s.2.2.1) ll) (tOf fs s.2.2.1) (tB fs s.2.2.1) s.2.1.1 (sta (tB fs s.2.2.1) s.2.1.1 rc R) G1.1 G3.2.1) (ownK G0'.1 bg2 (sp + 8 * sl.length - bg2) (CM.2.2.getD CM.1) (CM.1 - bg2)) CM.2.1 (xsN s)) G3.2.1 sp (tpN bg2 (ll.foldl (ft1 (tB fs s.2.2.1) G3.2.1) (false, 0, 1, 0))) G1.1) (tB fs s.2.2.1) (sta (tB fs s.2.2.1) s.2.1.1 rc R)) 0 s.2.2.1.length with
      | false =>
        rw [eO, if_neg (by decide)] at ea
        rw [if_neg (show ¬ bI (!false) = 0 by decide)]
        rw [ea] at u1 ⊢
        exact u1
      | true =>
        rw [eO, if_pos rfl] at ea
        rw [if_pos (show bI (!true) = 0 from rfl)]
        rw [ea] at u1 ⊢
        exact u1
  · have ea := hn0 ca
    have h2 : anN fs ws s (xsN s) ≤ 2 := anN_2 a4.2.2.2.2.1.1.1
    obtain ⟨τ2, u1, u2, u3, u4, ro', v1, v2, v3, v4, v5⟩ := k_rl63X (F := F) (c := c) (a := a) (by omega) hS1 hR1 hro1 a7 (by omega)
    obtain rfl : ro' = ro := Option.some.inj (v2.symm.trans ((u4.2.2.1 1).trans fN1))
    refine ⟨sk1, L1, τ2, ro', ?_, a2, hr35, hN0, v2, fun q => absurd (ea.symm.trans q) ca, fun q => by omega, v5⟩
    unfold f_H_runLink
    rw [C0r11 (G0 hS) (GR_r (v := 147) hR (by decide)), bs, c_o (G147 hS), bs, a1, xb_mk, ← ea, if_neg (show ¬ nI a = 0 from fun e => ca (by rw [← ea]; exact (nI_eq (b := 0) (by omega) (by decide)).mp e))]
    unfold f_H_runLink_36
    rw [if_neg (show ¬ nI a = 0 from fun e => ca (by rw [← ea]; exact (nI_eq (b := 0) (by omega) (by decide)).mp e))]
    exact u1
end CRY
end
section
/-! the reference's link with what it leaves in OUT (made by a program out of 99zc-99zq) -/
/-- whom the link blames -/
def blP (s : px_TS) : Prop := s.1 ≤ 1 ∧ (s.1 ≠ 1 → s.2.2.2 = none) ∧ (s.1 = 1 → ∃ w, s.2.2.2 = some w ∧ w.length ≤ 20)
theorem blP_tk (dr : Nat → Bool) (t : Nat) (b : Nat → Nat) (k : Nat) (s : px_TS) (hy : yOK b k = true) (h : blP s) : blP (tk1 dr t b k s) := by
  unfold tk1
  by_cases c1 : yB b k = 0
  · rw [if_pos c1]; exact h
  · rw [if_neg c1]
    by_cases c2 : s.1 = 1
    · rw [if_pos c2]
      exact ⟨Nat.le_refl _, fun q => absurd rfl q, fun _ => h.2.2 c2⟩
    · rw [if_neg c2]
      generalize comS dr t b k (s.2.1, s.2.2.1) = u
      by_cases c3 : u.1 = true
      · rw [if_pos c3]
        exact ⟨h.1, fun _ => h.2.1 c2, fun q => absurd q c2⟩
      · rw [if_neg c3]
        refine ⟨Nat.le_refl _, fun q => absurd rfl q, fun _ => ⟨_, rfl, ?_⟩⟩
        have hL := (yG_n (yOK_n hy c1).2.1).2.1
        unfold yT
        rw [tk_len]
        exact hL
theorem bl_ta {fs : px_FS} (hf : FSo fs) (xs : px_NL) (od : List Nat) : blP (taL fs xs od).1 := TK_inv (P := blP) blP_tk hf ⟨Nat.zero_le _, fun _ => rfl, fun q => absurd (show 0 = 1 from q) (by decide)⟩
section MLTX
variable {F m : Nat} {h : px_H} {a : Int32} {fs : px_FS} {gs : List (List Nat × Int64)} {ws : List (List Nat)} {s : px_TK}
theorem q_ln92X {σ : px_S} (hm : m ≤ h.length) (hF : 65536 < F) (hB : LB σ) (hd : RDr σ (fun _ => false)) (hr : RF σ fs) (hg : RG σ gs) (hw : RW σ ws) (hc : RC σ) (h3 : ∀ k, isB (gA σ 3 k)) (h4 : ∃ n, n ≤ 65536 ∧ gI σ 4 = nI n) (es : s = taL fs (xs0 gs ws) (od0 gs)) : ∃ σ', f_M_link_92 F m a (mh m h σ) = f_M_link_111 F m a (mh m h σ') ∧ gI σ' 13 = nI s.1.1 ∧ LM fs s (if s.1.1 = 0 then ownL s.1.2.1 else s.1.2.1) σ' ∧ BK fs s ∧ (∀ k, isB (gA σ' 3 k)) ∧ (∃ n, n ≤ 65536 ∧ gI σ' 4 = nI n) ∧ FR tkI [] taA [30] σ σ' ∧ (s.1.1 ≠ 1 → gI σ' 4 = gI σ 4 ∧ gA σ' 3 = gA σ 3) ∧ (s.1.1 = 1 → ∃ n, n ≤ 20 ∧ gI σ' 4 = nI n) := by
  obtain ⟨hB1, hB2, hB3, hB4, hB5, hB6, hB7, hB8, hB9⟩ := hB
  have hgl : gs.length ≤ 16 := by have := hg.2.1.1; rw [List.length_map] at this; exact this
  have hwl : ws.length ≤ 16 := hw.2.1
  obtain ⟨hS, _⟩ := ST0_xs hgl hwl
  obtain ⟨σ1, a1, a2, a3, a4⟩ := q_tellNames (F := F) (h := h) hm (by omega) hg hw hB3 hB4
  have f1 := frK_FR a4
  have a2 : RL σ1 (xs0 gs ws) := a2
  have a3 : RO σ1 (od0 gs) := a3
  have e13 : gI σ1 13 = nI 0 := (a4.1 13 (by decide) (by decide)).trans hB1
  have hr1 : RF σ1 fs := by
    have hFK : FR [20, 48] [] [21, 22, 23, 24, 28, 73, 49] [30] σ σ1 := ⟨fun k hk => a4.1 k (fun e => hk (by rw [e]; decide)) (fun e => hk (by rw [e]; decide)), fun k _ => a4.2.1 k, fun k hk => a4.2.2.1 k (fun e => hk (by rw [e]; decide)) (fun e => hk (by rw [e]; decide)) (fun e => hk (by rw [e]; decide)) (fun e => hk (by rw [e]; decide)) (fun e => hk (by rw [e]; decide)) (fun e => hk (by rw [e]; decide)) (fun e => hk (by rw [e]; decide)), fun k hk => a4.2.2.2 k (fun e => hk (by rw [e]; decide))⟩
    exact RF_FR hr hFK (by decide) (by decide)
  have g3 : gA σ1 3 = gA σ 3 := a4.2.2.1 3 (by decide) (by decide) (by decide) (by decide) (by decide) (by decide) (by decide)
  have g65 : gA σ1 65 = gA σ 65 := a4.2.2.1 65 (by decide) (by decide) (by decide) (by decide) (by decide) (by decide) (by decide)
  have hB3' : ∀ k, isB (gA σ1 3 k) := fun k => by rw [g3]; exact h3 k
  obtain ⟨σ2, b1, b2, b3, b4, b5, b6⟩ := q_takeAll (F := F) (h := h) (fs := fs) hm hF hr1 hB3' e13 a2 (fun i x hx => (hS.1 i x hx).1) hS.2.2.2.1 a3 hS.2.2.2.2 (fun i hi => by rw [g65]; exact hd i hi) ((a4.1 69 (by decide) (by decide)).trans hB5) ((a4.1 70 (by decide) (by decide)).trans hB6) ((a4.1 14 (by decide) (by decide)).trans hB2)
  rw [← es] at b2 b3
  obtain ⟨k1, k2, k3, k4, k5, k6, k7, k8, k9, k10, k11⟩ := b2
  have hB32 := OU_3 k4 hB3'
  have hbl : blP s.1 := by rw [es]; exact bl_ta (RF_FSo hr) _ _
  have o0 : s.1.1 ≠ 1 → gI σ2 4 = gI σ 4 ∧ gA σ2 3 = gA σ 3 := fun q => ⟨((k4.1 (hbl.2.1 q)).1).trans (a4.1 4 (by decide) (by decide)), ((k4.1 (hbl.2.1 q)).2).trans g3⟩
  have o1 : s.1.1 = 1 → ∃ n, n ≤ 20 ∧ gI σ2 4 = nI n := fun q => by
    obtain ⟨w, w1, w2⟩ := hbl.2.2 q
    exact ⟨w.length, w2, (k4.2 w w1).1⟩
  have h42 : ∃ n, n ≤ 65536 ∧ gI σ2 4 = nI n := by
    obtain ⟨n, n1, n2⟩ := h4
    cases eo : s.1.2.2.2 with
    | none => exact ⟨n, n1, (k4.1 eo).1.trans ((a4.1 4 (by decide) (by decide)).trans n2)⟩
    | some w =>
      have := k4.2 w eo
      exact ⟨w.length, this.2.1, this.1⟩
  have fT : FR tkI [] taA [30] σ σ2 := FR_trans f1 b6
  have hLM : LM fs s s.1.2.1 σ2 := ⟨k8, b4, k2, k3, k5, ⟨k6, k7⟩, k9, ⟨k10, b5⟩, k11⟩
  unfold f_M_link_92
  rw [e_o hm, bs, a1, xb_mk, e_o hm, bs, b1, xb_mk, Mg13 hm, bs, k1]
  by_cases c : s.1.1 = 0
  · rw [if_pos (by rw [c]; rfl), if_pos c]
    have hc2 : RC σ2 := RC_FR hc fT (by decide) (by decide)
    obtain ⟨σ3, d1, d2, d3⟩ := q_ownNames (F := F) (h := h) hm (by omega) k2 b3.2.1 hc2
    refine ⟨σ3, ?_, (d3.1 13 (by decide)).trans k1, ?_, b3, fun k => by rw [d3.2.2.1 3 (by decide)]; exact hB32 k, ?_, FR_trans fT (FR_mono d3 (by decide) (by decide) (by decide) (by decide)), fun q => ⟨(d3.1 4 (by decide)).trans (o0 q).1, (d3.2.2.1 3 (by decide)).trans (o0 q).2⟩, fun q => absurd (c.symm.trans q) (by decide)⟩
    · rw [e_o hm, bs, d1, xb_mk]
    · refine ⟨(d3.1 14 (by decide)).trans k8, RF_FR b4 d3 (by decide) (by decide), d2, RO_FR k3 d3 (by decide) (by decide), fun i hi => by rw [d3.2.2.1 65 (by decide)]; exact k5 i hi, ⟨(d3.1 69 (by decide)).trans k6, (d3.1 70 (by decide)).trans k7.1, k7.2.1, fun i w hw => ?_⟩, fun i q hq => by rw [d3.2.2.1 17 (by decide)]; exact k9 i q hq, ⟨fun q hq => by rw [d3.2.2.1 18 (by decide)]; exact k10 q hq, fun q hq => by rw [d3.2.2.1 19 (by decide)]; exact b5 q hq⟩, fun q hq => by rw [d3.2.2.1 40 (by decide)]; exact k11 q hq⟩
      rw [d3.2.2.1 71 (by decide), d3.2.2.1 72 (by decide), d3.2.2.1 6 (by decide)]
      exact k7.2.2 i w hw
    · obtain ⟨n, n1, n2⟩ := h42
      exact ⟨n, n1, (d3.1 4 (by decide)).trans n2⟩
  · have hs2 := b3.1
    rw [if_neg (show ¬ nI s.1.1 = 0 from fun q => c ((nI_eq (b := 0) (by omega) (by decide)).mp q)), if_neg c]
    exact ⟨σ2, rfl, k1, hLM, b3, hB32, h42, fT, o0, o1⟩
end MLTX
section MLUX
variable {F m : Nat} {h : px_H} {a : Int32} {fs : px_FS} {gs : List (List Nat × Int64)} {ws : List (List Nat)} {s : px_TK} {xs : px_NL}
theorem q_ln111X {σ : px_S} (hm : m ≤ h.length) (hF : 65536 < F) (h13 : gI σ 13 = nI s.1.1) (hL : LM fs s xs σ) (hb : WK fs s) (hx : s.1.1 = 0 → xs = ownL s.1.2.1) (hw : RW σ ws) (hwn : ∀ w, w ∈ ws → w ∈ s.1.2.1.map Prod.fst) (hc : RC σ) (h3 : ∀ k, isB (gA σ 3 k)) (h4 : ∃ n, n ≤ 65536 ∧ gI σ 4 = nI n) : ∃ σ', f_M_link_111 F m a (mh m h σ) = f_M_link_122 F m a (mh m h σ') ∧ gI σ' 13 = nI (anN fs ws s xs) ∧ LM fs s xs σ' ∧ (∀ k, isB (gA σ' 3 k)) ∧ (∃ n, n ≤ 65536 ∧ gI σ' 4 = nI n) ∧ FR [4, 13] [] [3] [] σ σ' ∧ (anN fs ws s xs = 0 → gI σ' 4 = gI σ 4 ∧ gA σ' 3 = gA σ 3) ∧ (s.1.1 = 0 → anN fs ws s xs ≠ 0 → ∃ n, n ≤ 20 ∧ gI σ' 4 = nI n) ∧ (s.1.1 ≠ 0 → σ' = σ) := by
  have hs2 := hb.1.1
  unfold f_M_link_111 anN
  rw [Mg13 hm, bs, h13]
  by_cases c : s.1.1 = 0
  · rw [if_pos (by rw [c]; rfl), if_pos c]
    obtain ⟨l1, l2, l3, l4, l5, l6, l7, l8, l9⟩ := hL
    have ex := hx c
    have hWP : WP s.2.2.1.length (tB fs s.2.2.1) s.2.1.1 xs := by rw [ex]; exact WP_own (WP_of hb)
    obtain ⟨σ', a1, a2, a3⟩ := q_look2 (F := F) (h := h) (s := s) (σ0 := σ) (ws := ws) (xs := xs) (fs := fs) hm hF l2 h3 hb.1 l5 l1 l7 l3 hWP.2.1 hc (by rw [h13, c]) (by rw [ex]; exact nmI_of hb) hw (fun w hq => by
      rw [ex, ownL_fst]; exact idx_iff.mpr (hwn w hq))
    rw [e_o hm, bs, a1, xb_mk]
    refine ⟨σ', rfl, ?_⟩
    cases ek : lkA fs ws s xs with
    | false =>
      rw [a2 ek, if_neg (by decide)]
      exact ⟨by rw [h13, c], ⟨l1, l2, l3, l4, l5, l6, l7, l8, l9⟩, h3, h4, FR_refl σ, fun _ => ⟨rfl, rfl⟩, fun _ q => absurd rfl q, fun _ => rfl⟩
    | true =>
      obtain ⟨b1, b2, b3, n, b4, b5⟩ := a3 ek
      rw [if_pos rfl]
      exact ⟨b1, LM_FR ⟨l1, l2, l3, l4, l5, l6, l7, l8, l9⟩ b2 (by decide) (by decide) (by decide), b3, ⟨n, by omega, b5⟩, b2, fun q => absurd q (by decide), fun _ _ => ⟨n, b4, b5⟩, fun q => absurd c q⟩
  · rw [if_neg (show ¬ nI s.1.1 = 0 from fun q => c ((nI_eq (b := 0) (by omega) (by decide)).mp q)), if_neg c]
    exact ⟨σ, rfl, h13, hL, h3, h4, FR_refl σ, fun _ => ⟨rfl, rfl⟩, fun q => absurd q c, fun _ => rfl⟩
end MLUX
/-- OUT is written from H on -/
def WRh (H : Nat) (σ σ' : px_S) : Prop := WRo σ σ' ∧ ∀ i, i < H → gA σ' 3 i = gA σ 3 i
theorem WRh_tr {H : Nat} {σ σ1 σ2 : px_S} (h : WRh H σ σ1) (g : WRh H σ1 σ2) : WRh H σ σ2 := ⟨WRo_tr h.1 g.1, fun i hi => (g.2 i hi).trans (h.2 i hi)⟩
theorem WRh_refl {H : Nat} {σ : px_S} (h3 : ∀ k, isB (gA σ 3 k)) : WRh H σ σ := ⟨⟨FR_refl σ, h3⟩, fun _ _ => rfl⟩
theorem WRh_set {H : Nat} {σ : px_S} {i : Nat} {v : Int32} (hi : H ≤ i) (h3 : ∀ k, isB (gA σ 3 k)) (hv : isB v) : WRh H σ (sA σ 3 (upd (gA σ 3) i v)) := ⟨WRo_set h3 hv, fun j hj => by
  rw [gA_sA, if_pos rfl]
  exact upd_ne (by omega)⟩
section MPUH
variable {F m H : Nat} {h : px_H}
theorem q_putH {σ : px_S} {at0 n : Nat} {v : Int64} (hH : H ≤ at0) (hm : m ≤ h.length) (hF : 65536 < F) (ha : at0 + n ≤ 65536) (h3 : ∀ k, isB (gA σ 3 k)) : ∃ σ', f_M_put F m (nI at0) v (nI n) (mh m h σ) = some ((), mh m h σ') ∧ WRh H σ σ' := by
  obtain ⟨σ', e1, e2, e3, e4⟩ := q_putV (F := F) (v := v) hm hF ha h3
  exact ⟨σ', e1, ⟨e2, e3⟩, fun i hi => by rw [e4 i, if_neg (by omega)]⟩
theorem q_fillSiteH {σ : px_S} {at0 n sk : Nat} {v : Int64} (hm : m ≤ h.length) (hF : 65536 < F) (ha : at0 + n ≤ 65536) (hsk : sk ≤ 3) (hH : H ≤ at0) (h2 : 0 < sk → H + 2 ≤ at0 ∧ at0 + 4 ≤ 65536) (h3 : ∀ k, isB (gA σ 3 k)) : ∃ σ', f_M_fillSite F m (nI at0) v (nI n) (nI sk) (mh m h σ) = some ((), mh m h σ') ∧ WRh H σ σ' := by
  have e14 : ∀ a1, a1 + n ≤ 65536 → H ≤ a1 → ∃ σ', f_M_fillSite_14 F m (nI at0) v (nI n) (nI sk) m (nI a1) (mh m h σ) = some ((), mh m h σ') ∧ WRh H σ σ' := by
    intro a1 ha1 hH1
    obtain ⟨σ1, p1, p2⟩ := q_putH (F := F) (h := h) (v := v) hH1 hm hF ha1 h3
    have e53 : ∀ σ2, (∀ k, isB (gA σ2 3 k)) → ∃ σ', f_M_fillSite_53 F m (nI at0) (nI sk) (mh m h σ2) = some ((), mh m h σ') ∧ WRh H σ2 σ' := by
      intro σ2 h32
      unfold f_M_fillSite_53
      by_cases c3 : sk = 3
      · have := h2 (by omega)
        rw [if_pos (by rw [c3]), Mr3 hm, bs, pk_sub (by omega), Ms3 hm (by omega), bs]
        have w1 := WRh_set (H := H) (i := at0 - 2) (by omega) h32 (isB_8 ((Int8.ofInt (-23)).toInt32))
        rw [Mr3 hm, bs, nI_add, Ms3 hm (by omega), bs]
        have w2 := WRh_set (H := H) (i := at0 + 3) (by omega) w1.1.2 (isB_8 ((Int8.ofInt (-112)).toInt32))
        exact ⟨_, rfl, WRh_tr w1 w2⟩
      · rw [if_neg (fun q => c3 ((nI_eq (by omega) (by decide)).mp q))]
        exact ⟨σ2, rfl, WRh_refl h32⟩
    have e36 : ∀ σ2, (∀ k, isB (gA σ2 3 k)) → ∃ σ', f_M_fillSite_36 F m (nI at0) (nI sk) (mh m h σ2) = some ((), mh m h σ') ∧ WRh H σ2 σ' := by
      intro σ2 h32
      unfold f_M_fillSite_36
      by_cases c2 : sk = 2
      · have := h2 (by omega)
        obtain ⟨σ3, q1, q2⟩ := q_putH (F := F) (h := h) (σ := σ2) (at0 := at0 - 2) (n := 2) (v := (59495 : Int64)) (H := H) (by omega) hm hF (by omega) h32
        obtain ⟨σ4, r1, r2⟩ := e53 σ3 q2.1.2
        rw [if_pos (by rw [c2]), e_o hm, bs, pk_sub (by omega), q1, xb_mk]
        exact ⟨σ4, r1, WRh_tr q2 r2⟩
      · rw [if_neg (fun q => c2 ((nI_eq (by omega) (by decide)).mp q))]
        exact e53 σ2 h32
    unfold f_M_fillSite_14
    rw [e_o hm, bs, p1, xb_mk]
    by_cases c1 : sk = 1
    · have := h2 (by omega)
      have w1 := WRh_set (H := H) (σ := σ1) (i := at0 - 2) (by omega) p2.1.2 (isB_8 ((Int8.ofInt (-115)).toInt32))
      obtain ⟨σ4, r1, r2⟩ := e36 _ w1.1.2
      rw [if_pos (by rw [c1]), Mr3 hm, bs, pk_sub (by omega), Ms3 hm (by omega), bs]
      exact ⟨σ4, r1, WRh_tr p2 (WRh_tr w1 r2)⟩
    · obtain ⟨σ4, r1, r2⟩ := e36 σ1 p2.1.2
      rw [if_neg (fun q => c1 ((nI_eq (by omega) (by decide)).mp q))]
      exact ⟨σ4, r1, WRh_tr p2 r2⟩
  unfold f_M_fillSite
  by_cases c3 : sk = 3
  · have := h2 (by omega)
    rw [if_pos (by rw [c3]), pk_sub (by omega)]
    exact e14 (at0 - 1) (by omega) (by omega)
  · rw [if_neg (fun q => c3 ((nI_eq (by omega) (by decide)).mp q))]
    exact e14 at0 ha hH
end MPUH
section MFIH
variable {F m T t i H : Nat} {h : px_H} {B : Nat → Nat} {tb : Nat → Nat → Nat} {tO tn tq : Nat → Nat} {dr : Nat → Bool} {xs : px_NL} {ll : List Nat} {on : Bool} {R : Nat → Bool} {NA : Nat → Int64} {ad fpS bgS : Nat → Nat} {sp tp pp : Nat} {k2 : Nat → Int32 → Int32 → px_H → Option (Unit × px_H)} {k19 : Nat → Int32 → Int32 → Int32 → Int32 → px_H → Option (Unit × px_H)}
theorem q_one1H {σ : px_S} {j : Nat} (hHs : ∀ s, s < 3 → H ≤ fpS s) (hm : m ≤ h.length) (hF : 65540 < F) (hf : RFo σ T tO tn tq tb dr xs on R ll B NA ad fpS bgS sp tp pp) (hN : FNo T tO tb dr xs (sta tb dr on R) ll B (slL T tb dr xs (sta tb dr on R))) (hlo : hLo tb ll ad fpS bgS) (had : ∀ x, ad x ≤ 2 ^ 39) (hfp : ∀ s, fpS s ≤ 2 ^ 39) (ht : t < T) (h1 : 1 ≤ i) (hi : i < oS (tb t)) (hs : isS (tb t) i = true) (hj : j < sN (tb t) i) (hsta : sta tb dr on R t (oI (tb t) i) = true) : ∃ σ', f_M_one F m (nI t) (nI i) (nI j) (nI 1) (mh m h σ) = some ((), mh m h σ') ∧ WRh H σ σ' := by
  have hfn := hf.1
  have hb := hfn.1.1.1 t ht
  have he := eSit_0 hb.2.2.2.1 h1 hi hs
  have hok := sOK_0w (he.2.2.2.2.2 j hj)
  have h1o := oI_1 hb.2.2.2.1 h1 hi hs
  have hp := OB_sP hb h1 hi hs hj
  have hS24 := (OB_w hb).1.2.1.2
  have hsH : sH (tb t) i j < 2 ^ 32 := le_lt (OB_lt hb) _ 4
  unfold f_M_one f_M_one_138
  rw [e_o hm, bs, O_obj hm hb, xb_mk, e_o hm, bs, O_site hm (by omega) hb hi, xb_mk, e_o hm, bs, nI_add, O_sH hm (by omega) hb hp, xb_mk]
  by_cases c0 : sH (tb t) i j = 0
  · rw [if_pos (by rw [c0])]
    exact ⟨σ, rfl, WRh_refl hf.2.2.2⟩
  · have hwd0 : wd (sH (tb t) i j) ≠ 0 := fun e => by
      unfold wd at e
      rw [if_neg c0] at e
      split at e
      · cases e
      · split at e <;> cases e
    have h8 := hok.2.2.elim (fun q => absurd q hwd0) id
    have hin := hN.2.2.2.2.1 t (oI (tb t) i) ht h1o he.1 hsta
    have e1 : (24 * t + oI (tb t) i) / 24 = t := by have := he.1; omega
    have e2 : (24 * t + oI (tb t) i) % 24 = oI (tb t) i := by have := he.1; omega
    have ez : zS tb (24 * t + oI (tb t) i) = oZ (tb t) (oI (tb t) i) := by unfold zS; rw [e1, e2]
    have hG := oG_8 h8.1
    have hl := hlo _ hin (by unfold sS; rw [e1, e2]; exact sS_no hi hs) (by rw [e1, e2]; exact hG.1) (by rw [e1, e2]; exact hG.2) (by rw [ez]; omega)
    rw [e1, e2, ez] at hl
    have hg5 : oG (tb t) (oI (tb t) i) ≤ 5 := by unfold oG; repeat (first | omega | split)
    have hsg := sgO_2 (g := oG (tb t) (oI (tb t) i))
    generalize hsv : sgO (oG (tb t) (oI (tb t) i)) = s at *
    obtain ⟨r60, r61⟩ := hf.2.1 s (by omega)
    have hHx := hHs s (by omega)
    have hadx := had (24 * t + oI (tb t) i)
    have hfpx := hfp s
    generalize hav : ad (24 * t + oI (tb t) i) = a at *
    have hwd8 : wd (sH (tb t) i j) ≤ 8 := by
      have h16 := hok.1
      unfold wd at h16 ⊢
      repeat (first | omega | (split at h16 <;> split) | (exfalso; omega))
    have esi : siA tb ad t i j = lN (a + sL (tb t) i j) := by unfold siA; rw [hav]
    have ewd : wI (sH (tb t) i j) = nI (wd (sH (tb t) i j)) := by unfold wI; rw [if_neg hok.1]
    have hsk3 := skY_3 (tb := tb) (dr := dr) (xs := xs) (t := t) (i := i) (j := j)
    have hskL : 0 < skY tb dr xs t i j → 2 ≤ sL (tb t) i j ∧ wd (sH (tb t) i j) = 4 := fun q => by
      unfold skY at q
      split at q
      · rename_i c
        refine ⟨c.2.2.1, ?_⟩
        rcases c.1 with e | e <;> rw [e] <;> rfl
      · omega
    obtain ⟨σ', f1, f2⟩ := q_fillSiteH (F := F) (H := H) (h := h) (σ := σ) (at0 := fpS s + (a + sL (tb t) i j) - bgS s) (n := wd (sH (tb t) i j)) (sk := skY tb dr xs t i j) (v := siV B (pf0 B tO tb ll) tO tb dr xs (sta tb dr on R) (slL T tb dr xs (sta tb dr on R)) (syA tb xs (ownV B (pf0 B tO tb ll) tO tb dr (sta tb dr on R) pp ad) NA) (siA tb ad t i j) sp tp pp t i j) hm (by omega) (by omega) hsk3 (by omega) (fun q => by have := hskL q; omega) hf.2.2.2
    refine ⟨σ', ?_, f2⟩
    rw [if_neg (fun q => c0 ((lEQ (by omega) (by decide)).mp q)), e_o hm, bs, q_siteValue hm hF hfn hN ht h1 hi hs hj hsta h1o, xb_mk, if_neg (show ¬ nI 1 = 0 by decide), e_o hm, bs, O_info hm (by omega) hb hi, xb_mk, lN_i, e_o hm, bs, O_group hm (by omega) hb he.1, xb_mk, q_segmentOf (by omega), xb_mk, hsv, Mr60 hm, bs, Ma60 hm (by omega), bs, r60, e_o hm, bs, q_siteAddress hm hF hfn hN ht h1 hi hs hj hsta h1o, xb_mk, Mr61 hm, bs, Ma61 hm (by omega), bs, r61, q_width (by omega), xb_mk, e_o hm, bs, q_shortKind hm (by omega) hN.1 ⟨hfn.1.1.1, hfn.2.1.1, hfn.2.1.2.2⟩ ht h1 hi hs hj, xb_mk, e_o hm, bs, ewd]
    rw [show (lN (fpS s) + siA tb ad t i j - lN (bgS s)).toInt32 = nI (fpS s + (a + sL (tb t) i j) - bgS s) by rw [esi, lN_add, lN_sub (by omega), lN_i], f1, xb_mk]
theorem q_f1_61H (hHs : ∀ s, s < 3 → H ≤ fpS s) (hm : m ≤ h.length) (hF : 65540 < F) (hN : FNo T tO tb dr xs (sta tb dr on R) ll B (slL T tb dr xs (sta tb dr on R))) (hlo : hLo tb ll ad fpS bgS) (had : ∀ x, ad x ≤ 2 ^ 39) (hfp : ∀ s, fpS s ≤ 2 ^ 39) (ht : t < T) (h1 : 1 ≤ i) (hi : i < oS (tb t)) (hs : isS (tb t) i = true) (hsta : sta tb dr on R t (oI (tb t) i) = true) : ∀ (c j g : Nat) (σ : px_S), j + c = sN (tb t) i → c < g → RFo σ T tO tn tq tb dr xs on R ll B NA ad fpS bgS sp tp pp → ∃ σd, f_M_sites_61 F k2 k19 g m (nI 1) (nI t) (nI (tO t)) (nI i) (nI j) (mh m h σ) = k19 m (nI 1) (nI t) (nI (tO t)) (nI (i + 1)) (mh m h σd) ∧ WRh H σ σd := by
  intro c
  induction c with
  | zero =>
    intro j g σ hj hg hf
    obtain ⟨g, rfl⟩ : ∃ x, g = x + 1 := ⟨g - 1, by omega⟩
    have hb := hf.1.1.1.1 t ht
    have hz := (eSit_0 hb.2.2.2.1 h1 hi hs).2.2.2.1
    have hn := hb.2.2.1
    have hsz : sN (tb t) i < 2 ^ 30 := by unfold sN; omega
    unfold f_M_sites_61 f_M_sites_96
    rw [e_o hm, bs, O_sN hm (by omega) hb h1 hi hs, xb_mk, if_pos (nI_le (by omega) (by omega)), nI_add]
    exact ⟨σ, rfl, WRh_refl hf.2.2.2⟩
  | succ c ih =>
    intro j g σ hj hg hf
    obtain ⟨g, rfl⟩ : ∃ x, g = x + 1 := ⟨g - 1, by omega⟩
    have hb := hf.1.1.1.1 t ht
    have hz := (eSit_0 hb.2.2.2.1 h1 hi hs).2.2.2.1
    have hn := hb.2.2.1
    have hsz : sN (tb t) i < 2 ^ 30 := by unfold sN; omega
    obtain ⟨σ1, a1, a2⟩ := q_one1H (F := F) (j := j) hHs hm hF hf hN hlo had hfp ht h1 hi hs (by omega) hsta
    obtain ⟨σ2, b1, b2⟩ := ih (j + 1) g σ1 (by omega) (by omega) (RFo_W hf a2.1)
    unfold f_M_sites_61
    rw [e_o hm, bs, O_sN hm (by omega) hb h1 hi hs, xb_mk, if_neg (nI_ge (by omega) (by omega)), Mg13 hm, bs, hf.2.2.1, if_pos (show nI 0 = 0 from rfl), e_o hm, bs, a1, xb_mk, nI_add]
    exact ⟨σ2, b1, WRh_tr a2 b2⟩
theorem q_f1_19H (hHs : ∀ s, s < 3 → H ≤ fpS s) (hm : m ≤ h.length) (hF : 65540 < F) (hN : FNo T tO tb dr xs (sta tb dr on R) ll B (slL T tb dr xs (sta tb dr on R))) (hlo : hLo tb ll ad fpS bgS) (had : ∀ x, ad x ≤ 2 ^ 39) (hfp : ∀ s, fpS s ≤ 2 ^ 39) (ht : t < T) : ∀ (c i g : Nat) (σ : px_S), 1 ≤ i → i + c = oS (tb t) → c < g → RFo σ T tO tn tq tb dr xs on R ll B NA ad fpS bgS sp tp pp → ∃ σd, f_M_sites_19 F k2 g m (nI 1) (nI t) (nI (tO t)) (nI i) (mh m h σ) = k2 m (nI 1) (nI (t + 1)) (mh m h σd) ∧ WRh H σ σd := by
  intro c
  induction c with
  | zero =>
    intro i g σ h1 hi hg hf
    obtain ⟨g, rfl⟩ : ∃ x, g = x + 1 := ⟨g - 1, by omega⟩
    have hb := hf.1.1.1.1 t ht
    have hs24 := (OB_w hb).1.2.1.2
    unfold f_M_sites_19 f_M_sites_102
    rw [e_o hm, bs, O_sec hm (by omega) hb, xb_mk, if_pos (nI_le (by omega) (by omega)), nI_add]
    exact ⟨σ, rfl, WRh_refl hf.2.2.2⟩
  | succ c ih =>
    intro i g σ h1 hi hg hf
    obtain ⟨g, rfl⟩ : ∃ x, g = x + 1 := ⟨g - 1, by omega⟩
    have hb := hf.1.1.1.1 t ht
    have hs24 := (OB_w hb).1.2.1.2
    have hiS : i < oS (tb t) := by omega
    have nx : ∀ σ1, WRh H σ σ1 → ∃ σd, f_M_sites_19 F k2 g m (nI 1) (nI t) (nI (tO t)) (nI (i + 1)) (mh m h σ1) = k2 m (nI 1) (nI (t + 1)) (mh m h σd) ∧ WRh H σ σd := fun σ1 w => by
      obtain ⟨σ2, b1, b2⟩ := ih (i + 1) g σ1 (by omega) (by omega) (by omega) (RFo_W hf w.1)
      exact ⟨σ2, b1, WRh_tr w b2⟩
    unfold f_M_sites_19 f_M_sites_96
    rw [e_o hm, bs, O_sec hm (by omega) hb, xb_mk, if_neg (nI_ge (by omega) (by omega)), e_o hm, bs, O_isS hm (by omega) hb hiS, xb_mk, nI_add]
    cases es : isS (tb t) i with
    | false =>
      rw [if_pos (show bI false = 0 from rfl)]
      exact nx σ (WRh_refl hf.2.2.2)
    | true =>
      have he := eSit_0 hb.2.2.2.1 h1 hiS es
      rw [if_neg (show ¬ bI true = 0 by decide), e_o hm, bs, O_info hm (by omega) hb hiS, xb_mk, lN_i, e_o hm, bs, q_stays hm (by omega) hb hf.1.2.1.1 hf.1.2.1.2.1 he.1, xb_mk]
      cases er : sta tb dr on R t (oI (tb t) i) with
      | false =>
        rw [if_pos (show bI false = 0 from rfl)]
        exact nx σ (WRh_refl hf.2.2.2)
      | true =>
        have hz := he.2.2.2.1
        have hn := hb.2.2.1
        have hsz : sN (tb t) i < 65536 := by unfold sN; omega
        obtain ⟨σ1, d1, d2⟩ := q_f1_61H (F := F) (k2 := k2) (k19 := f_M_sites_19 F k2 g) hHs hm hF hN hlo had hfp ht h1 hiS es er (sN (tb t) i) 0 F σ (by omega) (by omega) hf
        rw [if_neg (show ¬ bI true = 0 by decide), d1]
        exact nx σ1 d2
theorem q_sites1H (hHs : ∀ s, s < 3 → H ≤ fpS s) (hm : m ≤ h.length) (hF : 65540 < F) (hN : FNo T tO tb dr xs (sta tb dr on R) ll B (slL T tb dr xs (sta tb dr on R))) (hlo : hLo tb ll ad fpS bgS) (had : ∀ x, ad x ≤ 2 ^ 39) (hfp : ∀ s, fpS s ≤ 2 ^ 39) : ∀ (c t g : Nat) (σ : px_S), t + c = T → c < g → RFo σ T tO tn tq tb dr xs on R ll B NA ad fpS bgS sp tp pp → ∃ σd, f_M_sites_2 F g m (nI 1) (nI t) (mh m h σ) = some ((), mh m h σd) ∧ WRh H σ σd := by
  have hT := hN.1.1
  intro c
  induction c with
  | zero =>
    intro t g σ ht hg hf
    obtain ⟨g, rfl⟩ : ∃ x, g = x + 1 := ⟨g - 1, by omega⟩
    unfold f_M_sites_2 f_M_sites_108
    rw [Mg14 hm, bs, hf.1.2.2.2.2.2.2.2.2, if_pos (nI_le (by omega) (by omega))]
    exact ⟨σ, rfl, WRh_refl hf.2.2.2⟩
  | succ c ih =>
    intro t g σ ht hg hf
    obtain ⟨g, rfl⟩ : ∃ x, g = x + 1 := ⟨g - 1, by omega⟩
    have hb := hf.1.1.1.1 t (by omega)
    have hs24 := (OB_w hb).1.2.1
    obtain ⟨σ1, a1, a2⟩ := q_f1_19H (F := F) (k2 := f_M_sites_2 F g) (t := t) hHs hm hF hN hlo had hfp (by omega) (oS (tb t) - 1) 1 F σ (by omega) (by omega) (by omega) hf
    obtain ⟨σ2, b1, b2⟩ := ih (t + 1) g σ1 (by omega) (by omega) (RFo_W hf a2.1)
    unfold f_M_sites_2
    rw [Mg14 hm, bs, hf.1.2.2.2.2.2.2.2.2, if_neg (nI_ge (by omega) (by omega)), e_o hm, bs, O_obj hm hb, xb_mk, a1, b1]
    exact ⟨σ2, rfl, WRh_tr a2 b2⟩
end MFIH
section MWRH
variable {F m T H : Nat} {h : px_H} {σ : px_S} {B : Nat → Nat} {tb : Nat → Nat → Nat} {tO tn tq : Nat → Nat} {dr : Nat → Bool} {xs : px_NL} {ll : List Nat} {on : Bool} {R : Nat → Bool} {NA : Nat → Int64} {ad fpS bgS : Nat → Nat} {sp tp pp : Nat} {th : Nat → Bool}
theorem put_kH {K : Unit → px_H → Option (Unit × px_H)} {a n : Nat} {v : Int64} (hH : H ≤ a) (hm : m ≤ h.length) (hF : 65536 < F) (h3 : ∀ k, isB (gA σ 3 k)) (ha : a + n ≤ 65536) (hk : ∀ σ1, WRh H σ σ1 → ∃ σ', K () (mh m h σ1) = some ((), mh m h σ') ∧ WRh H σ1 σ') : ∃ σ', ((xo (mh m h σ) 12 m).bind fun _ => xb (f_M_put F m (nI a) v (nI n) (mh m h σ)) K) = some ((), mh m h σ') ∧ WRh H σ σ' := by
  obtain ⟨σ1, p1, w1⟩ := q_putH (F := F) (h := h) (v := v) hH hm hF ha h3
  obtain ⟨σ2, r1, w2⟩ := hk σ1 w1
  exact ⟨σ2, by rw [e_o hm, bs, p1, xb_mk, r1], WRh_tr w1 w2⟩
theorem q_w_633H (hHs : ∀ s, s < 3 → H ≤ fpS s) (hm : m ≤ h.length) (hF : 65540 < F) (hN : FNo T tO tb dr xs (sta tb dr on R) ll B (slL T tb dr xs (sta tb dr on R))) (hRr : hRm T tO tb dr xs (sta tb dr on R) ll B ad fpS bgS sp pp) : ∀ (c k g : Nat) (σ : px_S), k + c = (slL T tb dr xs (sta tb dr on R)).length → c < g → RFw σ T tO tn tq tb dr xs on R ll B NA ad fpS bgS sp tp pp th → ∃ σ', f_M_write_633 F g m (nI k) (mh m h σ) = some ((), mh m h σ') ∧ WRh H σ σ' := by
  have hll := hN.2.2.2.2.2.1 _ hN.2.2.2.2.2.2
  have hT := hN.1.1
  intro c
  induction c with
  | zero =>
    intro k g σ hk hg hf
    obtain ⟨g, rfl⟩ : ∃ x, g = x + 1 := ⟨g - 1, by omega⟩
    obtain ⟨σ1, a1, a2⟩ := q_sites1H (F := F) (h := h) hHs hm hF hN hRr.1 hRr.2.1 hRr.2.2.1 T 0 F σ (by omega) (by omega) hf.1
    unfold f_M_write_633 f_M_write_734 f_M_sites
    rw [Mg74 hm, bs, hf.1.1.2.2.1.1, if_pos (nI_le (by omega) (by omega)), e_o hm, bs, a1, xb_mk]
    exact ⟨σ1, rfl, a2⟩
  | succ c ih =>
    intro k g σ hk hg hf
    obtain ⟨g, rfl⟩ : ∃ x, g = x + 1 := ⟨g - 1, by omega⟩
    have hkl : k < (slL T tb dr xs (sta tb dr on R)).length := by omega
    have hz := List.getElem?_eq_getElem hkl
    have hzI := hN.2.2.2.2.2.2.2 _ (List.getElem_mem hkl)
    obtain ⟨r78, r75, r76, r77⟩ := hf.1.1.2.2.1.2 k _ hz
    generalize (slL T tb dr xs (sta tb dr on R))[k] = z at *
    obtain ⟨s60, s61⟩ := hf.1.2.1 2 (by decide)
    obtain ⟨b1, b2⟩ := hRr.2.2.2.2.1 (by omega)
    have hfp2 := hRr.2.2.1 2
    have hH2 := hHs 2 (by decide)
    have fin : ∀ v w, ∃ σ', f_M_write_722 F (f_M_write_633 F g) m (nI k) m (nI (fpS 2 + (sp - bgS 2) + 8 * k)) v w (mh m h σ) = some ((), mh m h σ') ∧ WRh H σ σ' := fun v w => by
      unfold f_M_write_722
      refine put_kH (H := H) (by omega) hm (by omega) hf.1.2.2.2 (by omega) (fun σ1 w1 => ?_)
      rw [nI_add]
      exact ih (k + 1) g σ1 (by omega) (by omega) (RFw_W hf w1.1)
    have e705 : ∀ v, ∃ σ', f_M_write_705 F (f_M_write_633 F g) m (nI k) m (nI (fpS 2 + (sp - bgS 2) + 8 * k)) v (mh m h σ) = some ((), mh m h σ') ∧ WRh H σ σ' := fun v => by
      unfold f_M_write_705
      rw [Mr78 hm, bs, Ma78 hm (by omega), bs, r78]
      cases decide (z % 2 = 1) with
      | false => rw [if_pos (show bI false = 0 from rfl)]; exact fin v _
      | true => rw [if_neg (show ¬ bI true = 0 by decide), Mg87 hm, bs]; exact fin v _
    have eat : (lN (fpS 2) + lN sp - lN (bgS 2)).toInt32 + nI 8 * nI k = nI (fpS 2 + (sp - bgS 2) + 8 * k) := by
      rw [lN_add, lN_sub (by omega), lN_i, pk_mul, nI_add]
      congr 1
      omega
    unfold f_M_write_633
    rw [Mg74 hm, bs, hf.1.1.2.2.1.1, if_neg (nI_ge (by omega) (by omega)), Mr60 hm, bs, Ma60 hm (by decide), bs, s60, Mg79 hm, bs, hf.1.1.2.2.2.2.2.1, Mr61 hm, bs, Ma61 hm (by decide), bs, s61, eat, Mr75 hm, bs, Ma75 hm (by omega), bs, r75]
    cases en : nmZ tb xs z with
    | none =>
      rw [if_pos (show tdA none < 0 from m1_neg), Mr76 hm, bs, Ma76 hm (by omega), bs, r76, Mr77 hm, bs, Ma77 hm (by omega), bs, r77, e_o hm, bs, q_symbolAddress hm hF hf.1.1 hN hzI.1 hzI.2, xb_mk]
      exact e705 _
    | some n =>
      have hn31 := nmZ_lt (σ := σ) hN.1 ⟨hf.1.1.1.1.1, hf.1.1.2.1.1, hf.1.1.2.1.2.2⟩ z n en
      have hnl : n < 4096 := by
        have hxl : xs.length ≤ 4096 := by have := hf.1.1.2.1.2.2.1.2.1; rw [List.length_map] at this; exact this
        unfold nmZ at en
        split at en
        · cases en
        · rename_i cz
          have hk0 : z / 2 % 64 ≠ 0 := fun q => cz (Or.inl q)
          obtain ⟨x, x1, _, _⟩ := plc_ix (hN.1.2.2.2.1 (z / 2 / 64) (z / 2 % 64) hzI.1 (by omega) hzI.2 (fun q => cz (Or.inr q)))
          have := (List.getElem?_eq_some_iff.mp x1).1
          have := Option.some.inj en
          omega
      rw [if_neg (show ¬ tdA (some n) < 0 from nI_pos hn31), Mr29 hm, bs, bs, Ma75 hm (by omega), bs, r75, en, show tdA (some n) = nI n from rfl, Ma29 hm hnl, bs]
      exact e705 _
theorem q_w_576H {K : Nat → Int32 → px_H → Option (Unit × px_H)} {P x to : Nat} (hm : m ≤ h.length) (hF : 65540 < F) (hP : P < 1536) (hx : ll[P]? = some x) (hx2 : x / 24 < T ∧ 1 ≤ x % 24 ∧ x % 24 < oS (tb (x / 24))) (hin : oP (tb (x / 24)) (x % 24) + zS tb x ≤ tn (x / 24)) (hz : zS tb x ≤ 16384) (hto : 0 < zS tb x → to + zS tb x ≤ 65536) (htH : 0 < zS tb x → H ≤ to) : ∀ (c k g : Nat) (σ : px_S), k + c = zS tb x → c < g → RFw σ T tO tn tq tb dr xs on R ll B NA ad fpS bgS sp tp pp th → ∃ σ', f_M_write_576 F K g m (nI P) (nI (tO (x / 24))) (nI to) (nI k) (mh m h σ) = K m (nI (P + 1)) (mh m h σ') ∧ WRh H σ σ' := by
  intro c
  induction c with
  | zero =>
    intro k g σ hk hg hf
    obtain ⟨g, rfl⟩ : ∃ x, g = x + 1 := ⟨g - 1, by omega⟩
    obtain ⟨r1, r2, r3, r4, r5, r6⟩ := hf.1.1.1.1.2.1.2 P x hx
    unfold f_M_write_576 f_M_write_625
    rw [Mr56 hm, bs, Ma56 hm hP, bs, r6, if_pos (show nI (oZ (tb (x / 24)) (x % 24)) ≤ nI k from nI_le (show zS tb x ≤ k by omega) (by omega)), nI_add]
    exact ⟨σ, rfl, WRh_refl hf.1.2.2.2⟩
  | succ c ih =>
    intro k g σ hk hg hf
    obtain ⟨g, rfl⟩ : ∃ x, g = x + 1 := ⟨g - 1, by omega⟩
    obtain ⟨r1, r2, r3, r4, r5, r6⟩ := hf.1.1.1.1.2.1.2 P x hx
    have hb := hf.1.1.1.1.1 _ hx2.1
    have hn := hb.2.2.1
    have hto2 := hto (by omega)
    have w := WRh_set (H := H) (i := to + k) (by have := htH (by omega); omega) hf.1.2.2.2 (isB_8 (gA σ 6 (tO (x / 24) + (oP (tb (x / 24)) (x % 24) + k))))
    obtain ⟨σ2, j1, j2⟩ := ih (k + 1) g _ (by omega) (by omega) (RFw_W hf w.1)
    unfold f_M_write_576
    rw [Mr56 hm, bs, Ma56 hm hP, bs, r6, if_neg (show ¬ nI (oZ (tb (x / 24)) (x % 24)) ≤ nI k from nI_ge (show k < zS tb x by omega) (show zS tb x < 2 ^ 31 by omega)), Mr3 hm, bs, Mr6 hm, bs, Mr54 hm, bs, Ma54 hm hP, bs, r4, e_o hm, bs, O_beg hm (by omega) hb hx2.2.2, xb_mk, lN_i, nI_add, nI_add, Nat.add_assoc, O_byte hm hb (by omega), bs, nI_add, Ms3 hm (by omega), bs, nI_add]
    exact ⟨σ2, j1, WRh_tr w j2⟩
theorem q_w_481H (hHs : ∀ s, s < 3 → H ≤ fpS s) (hm : m ≤ h.length) (hF : 65540 < F) (hN : FNo T tO tb dr xs (sta tb dr on R) ll B (slL T tb dr xs (sta tb dr on R))) (hRr : hRm T tO tb dr xs (sta tb dr on R) ll B ad fpS bgS sp pp) (hkp : ∀ x, x ∈ ll → oK (tb (x / 24)) (x % 24) = true) : ∀ (c P g : Nat) (σ : px_S), P + c = ll.length → c < g → RFw σ T tO tn tq tb dr xs on R ll B NA ad fpS bgS sp tp pp th → ∃ σ', f_M_write_481 F g m (nI P) (mh m h σ) = some ((), mh m h σ') ∧ WRh H σ σ' := by
  have hl := hN.2.1
  have hl1 := hl.1
  have hll := hN.2.2.2.2.2.1 _ hN.2.2.2.2.2.2
  intro c
  induction c with
  | zero =>
    intro P g σ hP hg hf
    obtain ⟨g, rfl⟩ : ∃ x, g = x + 1 := ⟨g - 1, by omega⟩
    unfold f_M_write_481 f_M_write_631
    rw [Mg50 hm, bs, hf.1.1.1.1.2.1.1, if_pos (nI_le (by omega) (by omega))]
    exact q_w_633H hHs hm hF hN hRr (slL T tb dr xs (sta tb dr on R)).length 0 F σ (by omega) (by omega) hf
  | succ c ih =>
    intro P g σ hP hg hf
    obtain ⟨g, rfl⟩ : ∃ x, g = x + 1 := ⟨g - 1, by omega⟩
    have hPl : P < ll.length := by omega
    have hx := List.getElem?_eq_getElem hPl
    have hxm := List.getElem_mem hPl
    have hx2 := hl.2 _ hxm
    have hlo := hRr.1 _ hxm
    have hz := hRr.2.2.2.2.2 _ hxm
    have hk := hkp _ hxm
    generalize ll[P] = x at *
    obtain ⟨r1, r2, r3, r4, r5, r6⟩ := hf.1.1.1.1.2.1.2 P x hx
    have hb := hf.1.1.1.1.1 _ hx2.1
    have hG : oG (tb (x / 24)) (x % 24) ≤ 5 := by unfold oG; repeat (first | omega | split)
    have nx : ∀ σ1, WRh H σ σ1 → ∃ σ', f_M_write_481 F g m (nI (P + 1)) (mh m h σ1) = some ((), mh m h σ') ∧ WRh H σ σ' := fun σ1 w => by
      obtain ⟨σ2, b1, b2⟩ := ih (P + 1) g σ1 (by omega) (by omega) (RFw_W hf w.1)
      exact ⟨σ2, b1, WRh_tr w b2⟩
    unfold f_M_write_481 f_M_write_625
    rw [Mg50 hm, bs, hf.1.1.1.1.2.1.1, if_neg (nI_ge (by omega) (by omega)), Mr51 hm, bs, Ma51 hm (by omega), bs, r1, e_o hm, bs, O_obj hm hb, xb_mk, Mr55 hm, bs, Ma55 hm (by omega), bs, r5, nI_add]
    by_cases c3 : oG (tb (x / 24)) (x % 24) = 3
    · rw [if_pos (by rw [c3])]
      exact nx σ (WRh_refl hf.1.2.2.2)
    · rw [if_neg (fun q => c3 ((nI_eq (by omega) (by decide)).mp q)), bs, Ma55 hm (by omega), bs, r5]
      by_cases c5 : oG (tb (x / 24)) (x % 24) = 5
      · rw [if_pos (by rw [c5])]
        exact nx σ (WRh_refl hf.1.2.2.2)
      · rw [if_neg (fun q => c5 ((nI_eq (by omega) (by decide)).mp q)), Mr54 hm, bs, Ma54 hm (by omega), bs, r4, e_o hm, bs, q_isStrings hm (by omega) hb hx2.2.2, xb_mk]
        cases es : oStr (tb (x / 24)) (x % 24) with
        | true =>
          rw [if_neg (show ¬ bI true = 0 by decide)]
          exact nx σ (WRh_refl hf.1.2.2.2)
        | false =>
          have hsg := sgO_2 (g := oG (tb (x / 24)) (x % 24))
          have hin : oP (tb (x / 24)) (x % 24) + zS tb x ≤ tn (x / 24) := by
            have h8 : oT (tb (x / 24)) (x % 24) ≠ 8 := fun e => by
              have hg8 : oG (tb (x / 24)) (x % 24) = 5 ∨ oG (tb (x / 24)) (x % 24) = 3 := by
                unfold oG
                rw [if_pos e, if_pos e]
                split
                · exact Or.inl rfl
                · exact Or.inr rfl
              exact hg8.elim c5 c3
            have h0 : oT (tb (x / 24)) (x % 24) ≠ 0 := fun e => by
              unfold oK at hk
              have := of_decide_eq_true hk
              omega
            exact (OB_w hb).1.2.2.2.1 _ hx2.2.2 h0 h8
          generalize hsv : sgO (oG (tb (x / 24)) (x % 24)) = s at *
          obtain ⟨s60, s61⟩ := hf.1.2.1 s (by omega)
          have a57 := (hf.2.2.2.2.1 P x hx trivial).1
          rw [if_pos (show bI false = 0 from rfl), Mr55 hm, bs, Ma55 hm (by omega), bs, r5, q_segmentOf (by omega), xb_mk, hsv, Mr60 hm, bs, Ma60 hm (by omega), bs, s60, Mr57 hm, bs, Ma57 hm (by omega), bs, a57, Mr61 hm, bs, Ma61 hm (by omega), bs, s61]
          by_cases cz : 0 < zS tb x
          · obtain ⟨l1, l2⟩ := hlo es c3 c5 cz
            have hHx := hHs s (by omega)
            rw [show (lN (fpS s) + lN (ad x) - lN (bgS s)).toInt32 = nI (fpS s + ad x - bgS s) by rw [lN_add, lN_sub (by omega), lN_i]]
            obtain ⟨σ1, d1, d2⟩ := q_w_576H (F := F) (h := h) (H := H) (K := f_M_write_481 F g) (to := fpS s + ad x - bgS s) hm hF (by omega) hx hx2 hin hz (fun _ => by omega) (fun _ => by omega) (zS tb x) 0 F σ (by omega) (by omega) hf
            rw [d1]
            exact nx σ1 d2
          · obtain ⟨F1, hF1⟩ : ∃ y, F = y + 1 := ⟨F - 1, by omega⟩
            rw [show ∀ a b, f_M_write_576 F (f_M_write_481 F g) F m a b = f_M_write_576 F (f_M_write_481 F g) (F1 + 1) m a b from fun a b => by rw [← hF1]]
            unfold f_M_write_576 f_M_write_625
            rw [Mr56 hm, bs, Ma56 hm (by omega), bs, r6, if_pos (show nI (oZ (tb (x / 24)) (x % 24)) ≤ nI 0 by rw [show oZ (tb (x / 24)) (x % 24) = 0 from Nat.eq_zero_of_not_pos cz]; decide), nI_add]
            exact nx σ (WRh_refl hf.1.2.2.2)
theorem q_w_433H (hHs : ∀ s, s < 3 → H ≤ fpS s) (hm : m ≤ h.length) (hF : 65540 < F) (hN : FNo T tO tb dr xs (sta tb dr on R) ll B (slL T tb dr xs (sta tb dr on R))) (hRr : hRm T tO tb dr xs (sta tb dr on R) ll B ad fpS bgS sp pp) (hkp : ∀ x, x ∈ ll → oK (tb (x / 24)) (x % 24) = true) : ∀ (c k g : Nat) (σ : px_S), k + c = psz B (pf0 B tO tb ll) → c < g → RFw σ T tO tn tq tb dr xs on R ll B NA ad fpS bgS sp tp pp th → ∃ σ', f_M_write_433 F g m (nI k) (mh m h σ) = some ((), mh m h σ') ∧ WRh H σ σ' := by
  have hsz := PIn_sz hN.2.2.2.1
  have hl1 := hN.2.1.1
  intro c
  induction c with
  | zero =>
    intro k g σ hk hg hf
    obtain ⟨g, rfl⟩ : ∃ x, g = x + 1 := ⟨g - 1, by omega⟩
    unfold f_M_write_433 f_M_write_479
    rw [Mg88 hm, bs, hf.1.1.1.2.2.2.1, if_pos (nI_le (by omega) (by omega))]
    exact q_w_481H hHs hm hF hN hRr hkp ll.length 0 F σ (by omega) (by omega) hf
  | succ c ih =>
    intro k g σ hk hg hf
    obtain ⟨g, rfl⟩ : ∃ x, g = x + 1 := ⟨g - 1, by omega⟩
    obtain ⟨b1, b2⟩ := hRr.2.2.2.1 (by omega)
    obtain ⟨s60, s61⟩ := hf.1.2.1 1 (by decide)
    have hH1 := hHs 1 (by decide)
    have w := WRh_set (H := H) (i := fpS 1 + pp - bgS 1 + k) (by omega) hf.1.2.2.2 (isB_8 (gA σ 91 k))
    obtain ⟨σ2, j1, j2⟩ := ih (k + 1) g _ (by omega) (by omega) (RFw_W hf w.1)
    unfold f_M_write_433
    rw [Mg88 hm, bs, hf.1.1.1.2.2.2.1, if_neg (nI_ge (by omega) (by omega)), Mr3 hm, bs, Mr60 hm, bs, Ma60 hm (by decide), bs, s60, Mg90 hm, bs, hf.1.1.2.2.2.2.2.2.2.1, Mr61 hm, bs, Ma61 hm (by decide), bs, s61, Mr91 hm, bs, Ma91 hm (by omega), bs, show (lN (fpS 1) + lN pp - lN (bgS 1)).toInt32 + nI k = nI (fpS 1 + pp - bgS 1 + k) by rw [lN_add, lN_sub (by omega), lN_i, nI_add], Ms3 hm (by omega), bs, nI_add]
    exact ⟨σ2, j1, WRh_tr w j2⟩
end MWRH
end
section
/-! the head and the rows that the reference writes; its link with OUT (made by a program out of 99ze, 99zp, 99zq) -/
/-- numbers were put into OUT, from lo on and below hi -/
def PSr (σ0 σ : px_S) (lo hi : Nat) (l : List (Nat × Nat × Nat)) : Prop := WRo σ0 σ ∧ (∀ i, i < lo ∨ hi ≤ i → gA σ 3 i = gA σ0 3 i) ∧ ∀ y, y ∈ l → vAt (gA σ 3) y.1 y.2.1 y.2.2 ∧ y.1 + y.2.1 ≤ hi
section MHD
variable {F m : Nat} {h : px_H} {σ0 σ : px_S} {lo hi : Nat} {l : List (Nat × Nat × Nat)}
theorem PSr_0 (h3 : ∀ k, isB (gA σ 3 k)) : PSr σ σ lo lo [] := ⟨⟨FR_refl σ, h3⟩, fun _ _ => rfl, fun y hy => by cases hy⟩
theorem put_kR {Q : px_S → Prop} {K : Unit → px_H → Option (Unit × px_H)} {a k x : Nat} {v : Int64} (hm : m ≤ h.length) (hF : 65536 < F) (hP : PSr σ0 σ lo hi l) (h1 : hi ≤ a) (h2 : lo ≤ a) (ev : v = lN x) (hx : x < 2 ^ 64) (hk8 : k ≤ 8) (ha : a + k ≤ 65536) (hk : ∀ σ1, PSr σ0 σ1 lo (a + k) ((a, k, x) :: l) → ∃ σ', K () (mh m h σ1) = some ((), mh m h σ') ∧ Q σ') : ∃ σ', ((xo (mh m h σ) 12 m).bind fun _ => xb (f_M_put F m (nI a) v (nI k) (mh m h σ)) K) = some ((), mh m h σ') ∧ Q σ' := by
  obtain ⟨σ1, p1, w1, w2, w3⟩ := q_putV (F := F) (h := h) (v := v) hm hF ha hP.1.2
  obtain ⟨σ2, r1, r2⟩ := hk σ1 ⟨WRo_tr hP.1 ⟨w1, w2⟩, fun i hi => by rw [w3 i, if_neg (by omega)]; exact hP.2.1 i (by omega), fun y hy => by
    rcases List.mem_cons.mp hy with e | e
    · subst e
      refine ⟨fun j hj => ?_, Nat.le_refl _⟩
      have hj : j < k := hj
      rw [w3 (a + j), if_pos ⟨by omega, by omega⟩, Nat.add_sub_cancel_left, ev]
      exact bRv_n hx (by omega)
    · obtain ⟨y1, y2⟩ := hP.2.2 y e
      exact ⟨fun j hj => by rw [w3 (y.1 + j), if_neg (by omega)]; exact y1 j hj, by omega⟩⟩
  exact ⟨σ2, by rw [e_o hm, bs, p1, xb_mk, r1], r2⟩
end MHD
/-- the numbers of the head -/
theorem HD7_of {g : Nat → Int32} {en n : Nat} (h : ∀ y, y ∈ [(56, 2, n), (54, 2, 56), (52, 2, 64), (32, 8, 64), (24, 8, en), (20, 4, 1), (18, 2, 62), (16, 2, 2), (0, 7, 282584257676671)] → vAt g y.1 y.2.1 y.2.2) : HD7 g en n := ⟨h (0, 7, 282584257676671) (by simp), h (16, 2, 2) (by simp), h (18, 2, 62) (by simp), h (20, 4, 1) (by simp), h (24, 8, en) (by simp), h (32, 8, 64) (by simp), h (54, 2, 56) (by simp), h (56, 2, n) (by simp)⟩
theorem RW7_of {g : Nat → Int32} {p t f pl a fz mz al : Nat} (ht : t < 256) (h : ∀ y, y ∈ [(p + 48, 8, al), (p + 40, 8, mz), (p + 32, 8, fz), (p + 24, 8, a), (p + 16, 8, a), (p + 8, 8, pl), (p + 4, 4, f), (p, 4, t)] → vAt g y.1 y.2.1 y.2.2) : RW7 g p (t, f, pl, a, fz, mz, al) := ⟨⟨h (p, 4, t) (by simp), ht⟩, fun _ => ⟨h (p + 4, 4, f) (by simp), h (p + 8, 8, pl) (by simp), h (p + 16, 8, a) (by simp), h (p + 32, 8, fz) (by simp), h (p + 40, 8, mz) (by simp), h (p + 48, 8, al) (by simp)⟩⟩
theorem dfI_v {xs : px_NL} {NA : Nat → Int64} {i : Nat} (h : dfI wST xs = some i) : vST NA xs = NA i := by
  unfold dfI at h
  unfold vST
  cases e : idx wST 0 (xs.map Prod.fst) with
  | none => rw [e] at h; cases h
  | some k =>
    rw [e] at h
    have h : (if stN xs k = 0 then none else some k) = some i := h
    split at h
    · cases h
    · rw [Option.some.inj h]
section MWX
variable {F m T : Nat} {h : px_H} {σ : px_S} {B : Nat → Nat} {tb : Nat → Nat → Nat} {tO tn tq : Nat → Nat} {dr : Nat → Bool} {xs : px_NL} {ll : List Nat} {on : Bool} {R : Nat → Bool} {NA : Nat → Int64} {ad fpS bgS : Nat → Nat} {sp tp pp : Nat} {th : Nat → Bool}
/-- file and memory of the segments -/
def RS2 (σ : px_S) (fz mz : Nat → Nat) : Prop := ∀ s, s < 3 → gB σ 62 s = lN (fz s) ∧ gB σ 63 s = lN (mz s)
theorem RS2_W {σ' : px_S} {fz mz : Nat → Nat} (hf : RS2 σ fz mz) (w : WRo σ σ') : RS2 σ' fz mz := fun s hs => by rw [w.1.2.2.2 62 (by decide), w.1.2.2.2 63 (by decide)]; exact hf s hs
theorem q_w_306X {fz mz : Nat → Nat} {en n : Nat} {thr : Bool} {l : List px_R7} (hm : m ≤ h.length) (hF : 65540 < F) (hN : FNo T tO tb dr xs (sta tb dr on R) ll B (slL T tb dr xs (sta tb dr on R))) (hRr : hRm T tO tb dr xs (sta tb dr on R) ll B ad fpS bgS sp pp) (hkp : ∀ x, x ∈ ll → oK (tb (x / 24)) (x % 24) = true) (h82 : gI σ 82 = bI thr) (hl : l.length ≤ 4) (hH : ∀ s, s < 3 → 64 + 56 * (l ++ (if thr = true then [(7, 0, 0, 0, 0, 0, 0)] else [])).length ≤ fpS s) (hf : RFw σ T tO tn tq tb dr xs on R ll B NA ad fpS bgS sp tp pp th) (hE : EX8 (gA σ 3) en n l) : ∃ σ', f_M_write_306 F m (nI (64 + 56 * l.length)) (mh m h σ) = some ((), mh m h σ') ∧ WRo σ σ' ∧ EX8 (gA σ' 3) en n (l ++ (if thr = true then [(7, 0, 0, 0, 0, 0, 0)] else [])) ∧ ∀ i, 64 + 56 * (l ++ (if thr = true then [(7, 0, 0, 0, 0, 0, 0)] else [])).length ≤ i → gA σ' 3 i = wfF T tO tb dr xs (sta tb dr on R) ll (slL T tb dr xs (sta tb dr on R)) NA B ad fpS bgS sp tp pp (gA σ 3) i := by
  have hsz := PIn_sz hN.2.2.2.1
  have e431 : ∀ σ1, WRo σ σ1 → EX8 (gA σ1 3) en n (l ++ (if thr = true then [(7, 0, 0, 0, 0, 0, 0)] else [])) → (∀ i, 64 + 56 * (l ++ (if thr = true then [(7, 0, 0, 0, 0, 0, 0)] else [])).length ≤ i → gA σ1 3 i = gA σ 3 i) → ∃ σ', f_M_write_431 F m (mh m h σ1) = some ((), mh m h σ') ∧ WRo σ σ' ∧ EX8 (gA σ' 3) en n (l ++ (if thr = true then [(7, 0, 0, 0, 0, 0, 0)] else [])) ∧ ∀ i, 64 + 56 * (l ++ (if thr = true then [(7, 0, 0, 0, 0, 0, 0)] else [])).length ≤ i → gA σ' 3 i = wfF T tO tb dr xs (sta tb dr on R) ll (slL T tb dr xs (sta tb dr on R)) NA B ad fpS bgS sp tp pp (gA σ 3) i := fun σ1 w hE1 hU => by
    unfold f_M_write_431
    obtain ⟨σ2, a1, a2⟩ := q_w_433H (H := 64 + 56 * (l ++ (if thr = true then [(7, 0, 0, 0, 0, 0, 0)] else [])).length) hH hm hF hN hRr hkp (psz B (pf0 B tO tb ll)) 0 F σ1 (by omega) (by omega) (RFw_W hf w)
    obtain ⟨σ3, c1, c2⟩ := q_w_433C (SV := svF B tO tb dr xs (sta tb dr on R) ll (slL T tb dr xs (sta tb dr on R)) NA ad sp tp pp) (SY := syA tb xs (ownV B (pf0 B tO tb ll) tO tb dr (sta tb dr on R) pp ad) NA) rfl rfl hm hF hN hRr hkp (psz B (pf0 B tO tb ll)) 0 F σ1 (by omega) (by omega) (RFw_W hf w)
    have e23 := mpA3 hm (Prod.mk.inj (Option.some.inj (c1.symm.trans a1))).2
    have eφ : gA σ2 3 = wfF T tO tb dr xs (sta tb dr on R) ll (slL T tb dr xs (sta tb dr on R)) NA B ad fpS bgS sp tp pp (gA σ1 3) := by
      rw [e23]
      unfold wfF rpoF
      exact c2.2
    exact ⟨σ2, a1, WRo_tr w a2.1, EX8_lo hE1 a2.2, fun i hi => by rw [eφ]; exact LOC_wf _ _ i (hU i hi)⟩
  unfold f_M_write_306
  rw [Mg82 hm, bs, h82]
  cases thr with
  | false =>
    rw [if_pos (show bI false = 0 from rfl)]
    refine e431 σ ⟨FR_refl σ, hf.1.2.2.2⟩ ?_ (fun _ _ => rfl)
    rw [if_neg (by decide), List.append_nil]
    exact hE
  | true =>
    rw [if_neg (show ¬ bI true = 0 by decide)]
    have hF' : 65536 < F := by omega
    generalize hp : 64 + 56 * l.length = p at *
    have hp3 : p ≤ 300 := by omega
    refine put_kR (x := 7) hm hF' (PSr_0 (lo := p) hf.1.2.2.2) (Nat.le_refl _) (Nat.le_refl _) rfl (by decide) (by decide) (by omega) (fun σ1 P1 => ?_)
    rw [nI_add]
    refine put_kR (x := 4) hm hF' P1 (by omega) (by omega) rfl (by decide) (by decide) (by omega) (fun σ2 P2 => ?_)
    rw [Mr60 hm, bs, Ma60 hm (by decide), bs, Mg83 hm, bs, Mr61 hm, bs, Ma61 hm (by decide), bs, nI_add]
    obtain ⟨x3, hx3, e3⟩ := wb_of (gB σ2 60 2 + gJ σ2 83 - gB σ2 61 2)
    refine put_kR (x := x3) hm hF' P2 (by omega) (by omega) e3 hx3 (by decide) (by omega) (fun σ3 P3 => ?_)
    rw [Mg83 hm, bs, nI_add]
    obtain ⟨x4, hx4, e4⟩ := wb_of (gJ σ3 83)
    refine put_kR (x := x4) hm hF' P3 (by omega) (by omega) e4 hx4 (by decide) (by omega) (fun σ4 P4 => ?_)
    rw [Mg83 hm, bs, nI_add]
    obtain ⟨x5, hx5, e5⟩ := wb_of (gJ σ4 83)
    refine put_kR (x := x5) hm hF' P4 (by omega) (by omega) e5 hx5 (by decide) (by omega) (fun σ5 P5 => ?_)
    rw [Mg84 hm, bs, nI_add]
    obtain ⟨x6, hx6, e6⟩ := wb_of (gJ σ5 84)
    refine put_kR (x := x6) hm hF' P5 (by omega) (by omega) e6 hx6 (by decide) (by omega) (fun σ6 P6 => ?_)
    rw [Mg85 hm, bs, nI_add]
    obtain ⟨x7, hx7, e7⟩ := wb_of (gJ σ6 85)
    refine put_kR (x := x7) hm hF' P6 (by omega) (by omega) e7 hx7 (by decide) (by omega) (fun σ7 P7 => ?_)
    rw [Mg86 hm, bs, nI_add]
    obtain ⟨x8, hx8, e8⟩ := wb_of (gJ σ7 86)
    refine put_kR (x := x8) hm hF' P7 (by omega) (by omega) e8 hx8 (by decide) (by omega) (fun σ8 P8 => ?_)
    refine e431 σ8 P8.1 ?_ (fun i hi => P8.2.1 i (Or.inr (by
      rw [if_pos rfl, List.length_append, List.length_singleton] at hi
      omega)))
    rw [if_pos rfl]
    refine EX8_app hE (fun i hi => P8.2.1 i (Or.inl (by omega))) ?_
    rw [hp]
    exact ⟨⟨(P8.2.2 (p, 4, 7) (by simp)).1, by decide⟩, fun q => absurd q (by decide)⟩
theorem q_w_148X {fz mz : Nat → Nat} {en n : Nat} {thr : Bool} (hm : m ≤ h.length) (hF : 65540 < F) (hN : FNo T tO tb dr xs (sta tb dr on R) ll B (slL T tb dr xs (sta tb dr on R))) (hRr : hRm T tO tb dr xs (sta tb dr on R) ll B ad fpS bgS sp pp) (hkp : ∀ x, x ∈ ll → oK (tb (x / 24)) (x % 24) = true) (hb : ∀ s, s < 3 → fpS s < 2 ^ 64 ∧ bgS s < 2 ^ 64 ∧ fz s < 2 ^ 64 ∧ mz s < 2 ^ 64) (hH : ∀ s, s < 3 → 64 + 56 * (rT7 th (r7s fpS bgS fz mz) thr).length ≤ fpS s) : ∀ (c s g : Nat) (σ : px_S), s + c = 3 → c < g → RFw σ T tO tn tq tb dr xs on R ll B NA ad fpS bgS sp tp pp th → RS2 σ fz mz → gI σ 82 = bI thr → EX8 (gA σ 3) en n (rL7 th (r7s fpS bgS fz mz) s) → ∃ σ', f_M_write_148 F g m (nI (64 + 56 * (rL7 th (r7s fpS bgS fz mz) s).length)) (nI s) (mh m h σ) = some ((), mh m h σ') ∧ WRo σ σ' ∧ EX8 (gA σ' 3) en n (rT7 th (r7s fpS bgS fz mz) thr) ∧ ∀ i, 64 + 56 * (rT7 th (r7s fpS bgS fz mz) thr).length ≤ i → gA σ' 3 i = wfF T tO tb dr xs (sta tb dr on R) ll (slL T tb dr xs (sta tb dr on R)) NA B ad fpS bgS sp tp pp (gA σ 3) i := by
  have hF' : 65536 < F := by omega
  intro c
  induction c with
  | zero =>
    intro s g σ hs hg hf h2 h82 hE
    obtain ⟨g, rfl⟩ : ∃ x, g = x + 1 := ⟨g - 1, by omega⟩
    obtain rfl : s = 3 := by omega
    unfold f_M_write_148
    rw [if_pos (nI_le (by omega) (by omega))]
    exact q_w_306X (fz := fz) (mz := mz) hm hF hN hRr hkp h82 (by rw [rL7_len]; have := sgN_le (th := th) 3; omega) hH hf hE
  | succ c ih =>
    intro s g σ hs hg hf h2 h82 hE
    obtain ⟨g, rfl⟩ : ∃ x, g = x + 1 := ⟨g - 1, by omega⟩
    have hlen : (rL7 th (r7s fpS bgS fz mz) s).length ≤ 3 := by
      rw [rL7_len]
      have := sgN_le (th := th) s
      omega
    have eL : rL7 th (r7s fpS bgS fz mz) (s + 1) = rL7 th (r7s fpS bgS fz mz) s ++ (if th s = true then [r7s fpS bgS fz mz s] else []) := rfl
    have hpre : th s = true → (rL7 th (r7s fpS bgS fz mz) s).length + 1 ≤ (rT7 th (r7s fpS bgS fz mz) thr).length := fun hth => by
      have := sgN_up (th := th) (s := s) (by omega) hth
      rw [rL7_len, rT7_len]
      split <;> omega
    have nx : ∀ σ1, WRo σ σ1 → EX8 (gA σ1 3) en n (rL7 th (r7s fpS bgS fz mz) (s + 1)) → (∀ i, 64 + 56 * (rT7 th (r7s fpS bgS fz mz) thr).length ≤ i → gA σ1 3 i = gA σ 3 i) → ∃ σ', f_M_write_148 F g m (nI (64 + 56 * (rL7 th (r7s fpS bgS fz mz) (s + 1)).length)) (nI (s + 1)) (mh m h σ1) = some ((), mh m h σ') ∧ WRo σ σ' ∧ EX8 (gA σ' 3) en n (rT7 th (r7s fpS bgS fz mz) thr) ∧ ∀ i, 64 + 56 * (rT7 th (r7s fpS bgS fz mz) thr).length ≤ i → gA σ' 3 i = wfF T tO tb dr xs (sta tb dr on R) ll (slL T tb dr xs (sta tb dr on R)) NA B ad fpS bgS sp tp pp (gA σ 3) i := fun σ1 w hE1 hU => by
      obtain ⟨σ2, b1, b2, b3, b4⟩ := ih (s + 1) g σ1 (by omega) (by omega) (RFw_W hf w) (RS2_W h2 w) ((w.1.1 82 (by decide)).trans h82) hE1
      exact ⟨σ2, b1, WRo_tr w b2, b3, fun i hi => (b4 i hi).trans (LOC_wf _ _ i (hU i hi))⟩
    obtain ⟨s60, s61⟩ := hf.1.2.1 s (by omega)
    obtain ⟨s62, s63⟩ := h2 s (by omega)
    obtain ⟨b1, b2, b3, b4⟩ := hb s (by omega)
    generalize rL7 th (r7s fpS bgS fz mz) s = l at *
    have e200 : ∀ (fl : Nat) (v : Int64), v = lN fl → [5, 4, 6].getD s 0 = fl → fl < 2 ^ 32 → th s = true → ∀ σ1, PSr σ σ1 (64 + 56 * l.length) (64 + 56 * l.length + 4) [(64 + 56 * l.length, 4, 1)] → ∃ σ', f_M_write_200 F (f_M_write_148 F g) m (nI (64 + 56 * l.length)) (nI s) m (nI (64 + 56 * l.length + 4)) v (mh m h σ1) = some ((), mh m h σ') ∧ WRo σ σ' ∧ EX8 (gA σ' 3) en n (rT7 th (r7s fpS bgS fz mz) thr) ∧ ∀ i, 64 + 56 * (rT7 th (r7s fpS bgS fz mz) thr).length ≤ i → gA σ' 3 i = wfF T tO tb dr xs (sta tb dr on R) ll (slL T tb dr xs (sta tb dr on R)) NA B ad fpS bgS sp tp pp (gA σ 3) i := fun fl v ev efl hfl hth σ1 P1 => by
      have hpre := hpre hth
      rw [eL, hth, if_pos rfl] at nx
      generalize hp : 64 + 56 * l.length = p at *
      have hp3 : p ≤ 300 := by omega
      have r60 : ∀ σ1, WRo σ σ1 → gB σ1 60 s = lN (fpS s) := fun σ1 w => by rw [w.1.2.2.2 60 (by decide)]; exact s60
      have r61 : ∀ σ1, WRo σ σ1 → gB σ1 61 s = lN (bgS s) := fun σ1 w => by rw [w.1.2.2.2 61 (by decide)]; exact s61
      have r62 : ∀ σ1, WRo σ σ1 → gB σ1 62 s = lN (fz s) := fun σ1 w => by rw [w.1.2.2.2 62 (by decide)]; exact s62
      have r63 : ∀ σ1, WRo σ σ1 → gB σ1 63 s = lN (mz s) := fun σ1 w => by rw [w.1.2.2.2 63 (by decide)]; exact s63
      unfold f_M_write_200 f_M_write_300
      refine put_kR (x := fl) hm hF' P1 (by omega) (by omega) ev (by omega) (by decide) (by omega) (fun σ2 P2 => ?_)
      rw [Mr60 hm, bs, Ma60 hm (by omega), bs, nI_add]
      refine put_kR (x := fpS s) hm hF' P2 (by omega) (by omega) (r60 σ2 P2.1) b1 (by decide) (by omega) (fun σ3 P3 => ?_)
      rw [Mr61 hm, bs, Ma61 hm (by omega), bs, nI_add]
      refine put_kR (x := bgS s) hm hF' P3 (by omega) (by omega) (r61 σ3 P3.1) b2 (by decide) (by omega) (fun σ4 P4 => ?_)
      rw [Mr61 hm, bs, Ma61 hm (by omega), bs, nI_add]
      refine put_kR (x := bgS s) hm hF' P4 (by omega) (by omega) (r61 σ4 P4.1) b2 (by decide) (by omega) (fun σ5 P5 => ?_)
      rw [Mr62 hm, bs, Ma62 hm (by omega), bs, nI_add]
      refine put_kR (x := fz s) hm hF' P5 (by omega) (by omega) (r62 σ5 P5.1) b3 (by decide) (by omega) (fun σ6 P6 => ?_)
      rw [Mr63 hm, bs, Ma63 hm (by omega), bs, nI_add]
      refine put_kR (x := mz s) hm hF' P6 (by omega) (by omega) (r63 σ6 P6.1) b4 (by decide) (by omega) (fun σ7 P7 => ?_)
      rw [nI_add]
      refine put_kR (x := 4096) hm hF' P7 (by omega) (by omega) rfl (by decide) (by decide) (by omega) (fun σ8 P8 => ?_)
      rw [nI_add, nI_add]
      have hR : RW7 (gA σ8 3) p (r7s fpS bgS fz mz s) := by
        unfold r7s
        rw [efl]
        exact RW7_of (by decide) (fun y hy => (P8.2.2 y hy).1)
      have go := nx σ8 P8.1 (EX8_app hE (fun i hi => P8.2.1 i (Or.inl (by omega))) (by rw [hp]; exact hR)) (fun i hi => P8.2.1 i (Or.inr (by omega)))
      rw [List.length_append, List.length_singleton, show 64 + 56 * (l.length + 1) = p + 56 by omega] at go
      exact go
    unfold f_M_write_148
    rw [if_neg (nI_ge (by omega) (by omega)), Mr59 hm, bs, Ma59 hm (by omega), bs, hf.2.1 s (by omega)]
    cases hth : th s with
    | false =>
      rw [if_pos (show bI false = 0 from rfl)]
      unfold f_M_write_300
      rw [nI_add s 1]
      rw [eL, hth, if_neg (by decide), List.append_nil] at nx
      exact nx σ ⟨FR_refl σ, hf.1.2.2.2⟩ hE (fun _ _ => rfl)
    | true =>
      rw [if_neg (show ¬ bI true = 0 by decide)]
      refine put_kR (x := 1) hm hF' (PSr_0 (lo := 64 + 56 * l.length) hf.1.2.2.2) (Nat.le_refl _) (Nat.le_refl _) rfl (by decide) (by decide) (by omega) (fun σ1 P1 => ?_)
      rw [nI_add (64 + 56 * l.length) 4]
      have : s = 0 ∨ s = 1 ∨ s = 2 := by omega
      rcases this with rfl | rfl | rfl
      · rw [if_pos (show nI 0 = 0 from rfl)]
        exact e200 5 _ rfl rfl (by decide) hth σ1 P1
      · rw [if_neg (show ¬ nI 1 = 0 by decide), if_pos rfl]
        exact e200 4 _ rfl rfl (by decide) hth σ1 P1
      · rw [if_neg (show ¬ nI 2 = 0 by decide), if_neg (show ¬ nI 2 = nI 1 by decide)]
        exact e200 6 _ rfl rfl (by decide) hth σ1 P1
theorem q_w_32X {fz mz : Nat → Nat} {thr : Bool} (hm : m ≤ h.length) (hF : 65540 < F) (hN : FNo T tO tb dr xs (sta tb dr on R) ll B (slL T tb dr xs (sta tb dr on R))) (hRr : hRm T tO tb dr xs (sta tb dr on R) ll B ad fpS bgS sp pp) (hkp : ∀ x, x ∈ ll → oK (tb (x / 24)) (x % 24) = true) (hst : (dfI wST xs).isSome = true) (hNA : ∀ j, j < xs.length → gB σ 29 j = NA j) (hb : ∀ s, s < 3 → fpS s < 2 ^ 64 ∧ bgS s < 2 ^ 64 ∧ fz s < 2 ^ 64 ∧ mz s < 2 ^ 64) (hH : ∀ s, s < 3 → 64 + 56 * (rT7 th (r7s fpS bgS fz mz) thr).length ≤ fpS s) (h2 : RS2 σ fz mz) (h15 : gI σ 15 = nI (sgN th 3)) (h82 : gI σ 82 = bI thr) (hf : RFw σ T tO tn tq tb dr xs on R ll B NA ad fpS bgS sp tp pp th) (h58 : ∀ i, i < 60 → gA σ 3 i = nI 0) : ∃ σ', f_M_write_32 F m (mh m h σ) = some ((), mh m h σ') ∧ WRo σ σ' ∧ EX8 (gA σ' 3) (en7 NA xs) (rT7 th (r7s fpS bgS fz mz) thr).length (rT7 th (r7s fpS bgS fz mz) thr) ∧ ∀ i, 64 + 56 * (rT7 th (r7s fpS bgS fz mz) thr).length ≤ i → gA σ' 3 i = wfF T tO tb dr xs (sta tb dr on R) ll (slL T tb dr xs (sta tb dr on R)) NA B ad fpS bgS sp tp pp (gA σ 3) i := by
  have hF' : 65536 < F := by omega
  obtain ⟨i, hi⟩ := Option.isSome_iff_exists.mp hst
  have hxl : xs.length ≤ 4096 := by have := hf.1.1.2.1.2.2.1.2.1; rw [List.length_map] at this; exact this
  have hix : i < xs.length := by
    unfold dfI at hi
    split at hi
    · cases hi
    · rename_i ei
      split at hi
      · cases hi
      · have := idx_lt ei
        rw [List.length_map] at this
        have := Option.some.inj hi
        omega
  obtain ⟨ev, hen⟩ := en7_l (NA := NA) (xs := xs)
  have h3 := sgN_le (th := th) 3
  have hn : (rT7 th (r7s fpS bgS fz mz) thr).length ≤ 4 := by
    rw [rT7_len]
    split <;> omega
  unfold f_M_write_32
  refine put_kR (a := 0) (x := 282584257676671) hm hF' (PSr_0 (lo := 0) hf.1.2.2.2) (Nat.le_refl _) (Nat.le_refl _) rfl (by decide) (by decide) (by decide) (fun σ1 P1 => ?_)
  refine put_kR (x := 2) hm hF' P1 (by decide) (by decide) rfl (by decide) (by decide) (by decide) (fun σ2 P2 => ?_)
  refine put_kR (x := 62) hm hF' P2 (by decide) (by decide) rfl (by decide) (by decide) (by decide) (fun σ3 P3 => ?_)
  refine put_kR (x := 1) hm hF' P3 (by decide) (by decide) rfl (by decide) (by decide) (by decide) (fun σ4 P4 => ?_)
  have hf4 := RFw_W hf P4.1
  have e29 : gB σ4 29 i = lN (en7 NA xs) := by
    rw [P4.1.1.2.2.2 29 (by decide), hNA i hix, ← ev]
    exact (dfI_v hi).symm
  rw [Mr29 hm, bs, e_o hm, bs, q_start hm (by omega) hf4.1.1.2.1.2.2 hN.1.2.1 hf4.2.2.2.2.2, xb_mk, hi, show tdA (some i) = nI i from rfl, Ma29 hm (by omega), bs]
  refine put_kR (x := en7 NA xs) hm hF' P4 (by decide) (by decide) e29 hen (by decide) (by decide) (fun σ5 P5 => ?_)
  refine put_kR (x := 64) hm hF' P5 (by decide) (by decide) rfl (by decide) (by decide) (by decide) (fun σ6 P6 => ?_)
  refine put_kR (x := 64) hm hF' P6 (by decide) (by decide) rfl (by decide) (by decide) (by decide) (fun σ7 P7 => ?_)
  refine put_kR (x := 56) hm hF' P7 (by decide) (by decide) rfl (by decide) (by decide) (by decide) (fun σ8 P8 => ?_)
  have e15 : gI σ8 15 = nI (sgN th 3) := (P8.1.1.1 15 (by decide)).trans h15
  have e82 : gI σ8 82 = bI thr := (P8.1.1.1 82 (by decide)).trans h82
  rw [Mg15 hm, bs, Mg82 hm, bs, e15, e82]
  have e137 : ∀ y : Int32, (nI (sgN th 3) + y).toInt64 = lN (rT7 th (r7s fpS bgS fz mz) thr).length → ∃ σ', f_M_write_137 F m m (nI 56) (nI (sgN th 3)) y (mh m h σ8) = some ((), mh m h σ') ∧ WRo σ σ' ∧ EX8 (gA σ' 3) (en7 NA xs) (rT7 th (r7s fpS bgS fz mz) thr).length (rT7 th (r7s fpS bgS fz mz) thr) ∧ ∀ i, 64 + 56 * (rT7 th (r7s fpS bgS fz mz) thr).length ≤ i → gA σ' 3 i = wfF T tO tb dr xs (sta tb dr on R) ll (slL T tb dr xs (sta tb dr on R)) NA B ad fpS bgS sp tp pp (gA σ 3) i := fun y ey => by
    unfold f_M_write_137
    refine put_kR (x := (rT7 th (r7s fpS bgS fz mz) thr).length) hm hF' P8 (by decide) (by decide) ey (by omega) (by decide) (by decide) (fun σ9 P9 => ?_)
    have hE : EX8 (gA σ9 3) (en7 NA xs) (rT7 th (r7s fpS bgS fz mz) thr).length [] := ⟨⟨HD7_of (fun y hy => (P9.2.2 y hy).1), fun k r hk => by cases hk⟩, fun j hj => by
      rw [P9.2.1 (58 + j) (Or.inr (by omega)), h58 (58 + j) (by omega)]
      have hz : ∀ j, j < 2 → nI 0 = nB 0 j := by decide +kernel
      exact hz j hj⟩
    obtain ⟨σ', a1, a2, a3, a4⟩ := q_w_148X hm hF hN hRr hkp hb hH 3 0 F σ9 rfl (by omega) (RFw_W hf P9.1) (RS2_W h2 P9.1) ((P9.1.1.1 82 (by decide)).trans h82) hE
    exact ⟨σ', a1, WRo_tr P9.1 a2, a3, fun i hi => (a4 i hi).trans (LOC_wf _ _ i (P9.2.1 i (Or.inr (by omega))))⟩
  cases thr with
  | false =>
    rw [if_pos (show bI false = 0 from rfl)]
    exact e137 (nI 0) (by rw [rT7_len, if_neg (by decide), nI_add, nI_l (by omega)])
  | true =>
    rw [if_neg (show ¬ bI true = 0 by decide)]
    exact e137 (nI 1) (by rw [rT7_len, if_pos rfl, nI_add, nI_l (by omega)])
theorem q_w11X {fe : Nat} (hm : m ≤ h.length) (hfe : fe ≤ 65536) : ∀ (c k g : Nat) (σ : px_S), k + c = fe → c < g → gI σ 4 = nI fe → (∀ k, isB (gA σ 3 k)) → (∀ i, i < k → gA σ 3 i = nI 0) → ∃ σ', f_M_write_11 F g m (nI k) (mh m h σ) = f_M_write_32 F m (mh m h σ') ∧ WRo σ σ' ∧ ∀ i, i < fe → gA σ' 3 i = nI 0 := by
  intro c
  induction c with
  | zero =>
    intro k g σ hk hg h4 h3 hz
    obtain ⟨g, rfl⟩ : ∃ x, g = x + 1 := ⟨g - 1, by omega⟩
    refine ⟨σ, ?_, ⟨FR_refl σ, h3⟩, fun i hi => hz i (by omega)⟩
    unfold f_M_write_11
    rw [Mg4 hm, bs, h4, if_pos (nI_le (by omega) (by omega))]
  | succ c ih =>
    intro k g σ hk hg h4 h3 hz
    obtain ⟨g, rfl⟩ : ∃ x, g = x + 1 := ⟨g - 1, by omega⟩
    unfold f_M_write_11
    rw [Mg4 hm, bs, h4, if_neg (nI_ge (by omega) (by omega)), Mr3 hm, bs, Ms3 hm (by omega), bs, nI_add]
    have w1 := WRo_set (σ := σ) (i := k) h3 (isB_8 (nI 0))
    obtain ⟨σ2, j1, j2, j3⟩ := ih (k + 1) g _ (by omega) (by omega) ((w1.1.1 4 (by decide)).trans h4) w1.2 (fun i hi => by
      show upd (gA σ 3) k _ i = nI 0
      by_cases c1 : i = k
      · rw [c1, upd_eq]; decide
      · rw [upd_ne c1]; exact hz i (by omega))
    exact ⟨σ2, j1, WRo_tr w1 j2, j3⟩
theorem q_writeX {fe : Nat} {fz mz : Nat → Nat} {thr : Bool} (hm : m ≤ h.length) (hF : 65540 < F) (hN : FNo T tO tb dr xs (sta tb dr on R) ll B (slL T tb dr xs (sta tb dr on R))) (hRr : hRm T tO tb dr xs (sta tb dr on R) ll B ad fpS bgS sp pp) (hkp : ∀ x, x ∈ ll → oK (tb (x / 24)) (x % 24) = true) (hst : (dfI wST xs).isSome = true) (hNA : ∀ j, j < xs.length → gB σ 29 j = NA j) (hb : ∀ s, s < 3 → fpS s < 2 ^ 64 ∧ bgS s < 2 ^ 64 ∧ fz s < 2 ^ 64 ∧ mz s < 2 ^ 64) (hH : ∀ s, s < 3 → 64 + 56 * (rT7 th (r7s fpS bgS fz mz) thr).length ≤ fpS s) (h2 : RS2 σ fz mz) (h15 : gI σ 15 = nI (sgN th 3)) (h82 : gI σ 82 = bI thr) (hf : RFw σ T tO tn tq tb dr xs on R ll B NA ad fpS bgS sp tp pp th) (hfe : fe ≤ 65536) (h60 : 60 ≤ fe) (h64 : gJ σ 64 = lN fe) : ∃ σ', f_M_write F m (mh m h σ) = some ((), mh m h σ') ∧ gI σ' 4 = nI fe ∧ (∀ k, isB (gA σ' 3 k)) ∧ FR [4] [] [3] [] σ σ' ∧ EX8 (gA σ' 3) (en7 NA xs) (rT7 th (r7s fpS bgS fz mz) thr).length (rT7 th (r7s fpS bgS fz mz) thr) ∧ ∀ i, 64 + 56 * (rT7 th (r7s fpS bgS fz mz) thr).length ≤ i → i < fe → gA σ' 3 i = wfF T tO tb dr xs (sta tb dr on R) ll (slL T tb dr xs (sta tb dr on R)) NA B ad fpS bgS sp tp pp (fun _ => nI 0) i := by
  have f1 := FR_I σ 4 (nI fe)
  have hf1 : RFw (sI σ 4 (nI fe)) T tO tn tq tb dr xs on R ll B NA ad fpS bgS sp tp pp th := by
    obtain ⟨⟨g1, g2, g3, g4⟩, f2, ⟨sg, f3, f4⟩, ⟨thr, f5⟩, f6, f7⟩ := hf
    exact ⟨⟨RFn_FR g1 f1 (by decide) (by decide) (by decide) (by decide), g2, g3, g4⟩, f2, ⟨sg, f3, f4⟩, ⟨thr, f5⟩, RAd_FR f6 f1 (by decide), RC_FR f7 f1 (by decide) (by decide)⟩
  have g4 : gI (sI σ 4 (nI fe)) 4 = nI fe := by rw [gI_sI, if_pos rfl]
  have p4 : xpI (mh m h σ) 12 4 m (nI fe) = some (mh m h (sI σ 4 (nI fe))) := Mp4 hm _
  have k1 : gI (sI σ 4 (nI fe)) 15 = nI (sgN th 3) := (f1.1 15 (by decide)).trans h15
  have k2 : gI (sI σ 4 (nI fe)) 82 = bI thr := (f1.1 82 (by decide)).trans h82
  have k3 : RS2 (sI σ 4 (nI fe)) fz mz := h2
  have k4 : ∀ j, j < xs.length → gB (sI σ 4 (nI fe)) 29 j = NA j := hNA
  generalize sI σ 4 (nI fe) = σ1 at *
  have hfe64 : 60 ≤ fe := h60
  obtain ⟨σ2, a1, a2, a3⟩ := q_w11X (F := F) (h := h) hm hfe fe 0 F σ1 (by omega) (by omega) g4 hf1.1.2.2.2 (fun i hi => absurd hi (Nat.not_lt_zero _))
  obtain ⟨σ3, b1, b2, b3, b4⟩ := q_w_32X (F := F) (h := h) hm hF hN hRr hkp hst (fun j hj => by rw [a2.1.2.2.2 29 (by decide)]; exact k4 j hj) hb hH (RS2_W k3 a2) ((a2.1.1 15 (by decide)).trans k1) ((a2.1.1 82 (by decide)).trans k2) (RFw_W hf1 a2) (fun i hi => a3 i (by omega))
  refine ⟨σ3, ?_, ?_, b2.2, FR_trans (FR_mono f1 (by decide) (by decide) (by decide) (by decide)) (FR_trans (FR_mono a2.1 (by decide) (by decide) (by decide) (by decide)) (FR_mono b2.1 (by decide) (by decide) (by decide) (by decide))), b3, fun i hi hn => (b4 i hi).trans (LOC_wf _ _ i (a3 i hn))⟩
  · unfold f_M_write
    rw [Mg64 hm, bs, h64, lN_i, p4, bs, a1, b1]
  · rw [b2.1.1 4 (by decide), a2.1.1 4 (by decide)]; exact g4
end MWX
section MKX
variable {F m T : Nat} {h : px_H} {tb : Nat → Nat → Nat} {tO tn : Nat → Nat} {dr : Nat → Bool} {xs : px_NL} {od : List Nat} {on : Bool} {R rn : Nat → Bool}
theorem q_kL10X {fe : Nat} (hm : m ≤ h.length) (hfe : fe ≤ 65536) : ∀ (c k g : Nat) (σ : px_S), k + c = fe → c < g → gI σ 4 = nI fe → (∀ k, isB (gA σ 42 k)) → (∀ k, isB (gA σ 3 k)) → (∀ i, i < k → gA σ 42 i = gA σ 3 i) → ∃ σ', f_M_keepLink_10 F g m (nI k) (mh m h σ) = f_M_keepLink_36 F m (mh m h σ') ∧ (∀ k, isB (gA σ' 42 k)) ∧ FR [] [] [42] [] σ σ' ∧ ∀ i, i < fe → gA σ' 42 i = gA σ 3 i := by
  intro c
  induction c with
  | zero =>
    intro k g σ hk hg h4 h42 h3 hC
    obtain ⟨g, rfl⟩ : ∃ x, g = x + 1 := ⟨g - 1, by omega⟩
    unfold f_M_keepLink_10
    rw [Mg4 hm, bs, h4, if_pos (nI_le (by omega) (by omega))]
    exact ⟨σ, rfl, h42, FR_refl σ, fun i hi => hC i (by omega)⟩
  | succ c ih =>
    intro k g σ hk hg h4 h42 h3 hC
    obtain ⟨g, rfl⟩ : ∃ x, g = x + 1 := ⟨g - 1, by omega⟩
    unfold f_M_keepLink_10
    rw [Mg4 hm, bs, h4, if_neg (nI_ge (by omega) (by omega)), Mr42 hm, bs, Mr3 hm, bs, Ma3 hm (by omega), bs, Ms42 hm (by omega), bs, nI_add]
    have f1 := FR_A σ 42 (upd (gA σ 42) k (gA σ 3 k).toInt8.toInt32)
    obtain ⟨σ2, j1, j2, j3, j4⟩ := ih (k + 1) g _ (by omega) (by omega) ((f1.1 4 (by decide)).trans h4) (fun q => by
      show isB (upd (gA σ 42) k _ q)
      by_cases c1 : q = k
      · rw [c1, upd_eq]; exact isB_8 _
      · rw [upd_ne c1]; exact h42 q) (fun q => by rw [f1.2.2.1 3 (by decide)]; exact h3 q) (fun i hi => by
      rw [f1.2.2.1 3 (by decide)]
      show upd (gA σ 42) k _ i = _
      by_cases c1 : i = k
      · rw [c1, upd_eq]; exact isB_c (h3 k)
      · rw [upd_ne c1]; exact hC i (by omega))
    exact ⟨σ2, j1, j2, FR_trans f1 j3, fun i hi => (j4 i hi).trans (by rw [f1.2.2.1 3 (by decide)])⟩
theorem q_kL38I (hm : m ≤ h.length) (hF : 65540 < F) (hWP : WP T tb dr xs) (hod : ∀ d, d ∈ od → d < xs.length) (hoS : ∀ d, d ∈ od → stN xs d = 1 ∨ stN xs d = 2 ∨ stN xs d = 3) : ∀ (c P g : Nat) (σ : px_S), P + c = od.length → c < g → RWd σ T tO tn tb dr xs → RO σ od → RRn σ xs on rn → RSt σ on R → (∀ (Q n : Nat), Q < P → od[Q]? = some n → okS (gA σ 39 n) ∧ isI (gA σ 38 n)) → ∃ σ', f_M_keepLink_38 F g m (nI P) (mh m h σ) = some ((), mh m h σ') ∧ (∀ (Q n : Nat), od[Q]? = some n → okS (gA σ' 39 n) ∧ isI (gA σ' 38 n)) ∧ FR [] [] klA [41] σ σ' := by
  intro c
  induction c with
  | zero =>
    intro P g σ hP hg hR ho hc hs hQ
    obtain ⟨g, rfl⟩ : ∃ x, g = x + 1 := ⟨g - 1, by omega⟩
    have hol := ho.2.1
    unfold f_M_keepLink_38 f_M_keepLink_266
    rw [Mg48 hm, bs, ho.1, if_pos (nI_le (by omega) (by omega))]
    exact ⟨σ, rfl, fun Q n hn => hQ Q n (by have := (List.getElem?_eq_some_iff.mp hn).1; omega) hn, FR_refl σ⟩
  | succ c ih =>
    intro P g σ hP hg hR ho hc hs hQ
    obtain ⟨g, rfl⟩ : ∃ x, g = x + 1 := ⟨g - 1, by omega⟩
    have hol := ho.2.1
    have hxl : xs.length ≤ 4096 := by have := hR.2.2.1.2.1; rw [List.length_map] at this; exact this
    have hPl : P < od.length := by omega
    have hx := List.getElem?_eq_getElem hPl
    have hn := hod _ (List.getElem_mem hPl)
    have hns := hoS _ (List.getElem_mem hPl)
    generalize od[P] = n at *
    obtain ⟨x, hxn⟩ : ∃ x, xs[n]? = some x := ⟨xs[n], List.getElem?_eq_getElem hn⟩
    rw [stN_at hxn] at hns
    have rr := hR.2.2.2 n x hxn
    have hby := hWP.2.2.1 n x hxn
    have hgv : ∀ q, x.2.2.2.2.1 = some q → q.1 < 64 := fun q hq => by
      have := hby
      unfold byP at this
      rw [hq] at this
      have := this.1
      have := hWP.1
      omega
    -- whatever is written, the loop goes on
    have nx : ∀ σ1, FR [] [] klA [41] σ σ1 → okS (gA σ1 39 n) ∧ isI (gA σ1 38 n) → (∀ j, j ≠ n → gA σ1 39 j = gA σ 39 j ∧ gA σ1 38 j = gA σ 38 j) → ∃ σ', f_M_keepLink_38 F g m (nI (P + 1)) (mh m h σ1) = some ((), mh m h σ') ∧ (∀ (Q n : Nat), od[Q]? = some n → okS (gA σ' 39 n) ∧ isI (gA σ' 38 n)) ∧ FR [] [] klA [41] σ σ' := by
      intro σ1 f1 hk1 hk2
      obtain ⟨σ2, b1, b2, b3⟩ := ih (P + 1) g σ1 (by omega) (by omega) (RWd_FR hR f1 (by decide) (by decide) (by decide)) (RO_FR ho f1 (by decide) (by decide)) (RRn_FR hc f1 (by decide) (by decide)) (RSt_FR hs f1 (by decide) (by decide)) (fun Q n' hQ' hn' => by
        by_cases e : n' = n
        · rw [e]; exact hk1
        · rw [(hk2 n' e).1, (hk2 n' e).2]
          refine hQ Q n' ?_ hn'
          by_cases eq : Q = P
          · rw [eq, hx] at hn'
            exact absurd (Option.some.inj hn').symm e
          · omega)
      exact ⟨σ2, b1, b2, FR_trans f1 b3⟩
    have e120 : ∀ (σ1 : px_S) (v : Int32) (cm : Bool), FR [] [] klA [41] σ σ1 → gA σ1 39 = gA σ 39 → gA σ1 38 = upd (gA σ 38) n (nI 16) → okS v → cm = decide (x.2.1 = 2) → ∃ σ', f_M_keepLink_120 F (f_M_keepLink_38 F g) m (nI P) (nI n) (bI cm) (m + 29) (nI n) v (mh m h σ1) = some ((), mh m h σ') ∧ (∀ (Q n : Nat), od[Q]? = some n → okS (gA σ' 39 n) ∧ isI (gA σ' 38 n)) ∧ FR [] [] klA [41] σ σ' := by
      intro σ1 v cm f1 h39 h38 hv hcm
      unfold f_M_keepLink_120 f_M_keepLink_260
      rw [Ms39 hm (by omega), bs, nI_add]
      have f2 : FR [] [] klA [41] σ1 (sA σ1 39 (upd (gA σ1 39) n v)) := FR_mono (FR_A σ1 39 _) (by decide) (by decide) (by decide) (by decide)
      have g39 : gA (sA σ1 39 (upd (gA σ1 39) n v)) 39 = upd (gA σ 39) n v := by rw [gA_sA, if_pos rfl, h39]
      have g38 : gA (sA σ1 39 (upd (gA σ1 39) n v)) 38 = upd (gA σ 38) n (nI 16) := by rw [gA_sA, if_neg (by decide)]; exact h38
      generalize sA σ1 39 (upd (gA σ1 39) n v) = σ2 at *
      have f12 := FR_trans f1 f2
      have done1 : ∃ σ', f_M_keepLink_38 F g m (nI (P + 1)) (mh m h σ2) = some ((), mh m h σ') ∧ (∀ (Q n : Nat), od[Q]? = some n → okS (gA σ' 39 n) ∧ isI (gA σ' 38 n)) ∧ FR [] [] klA [41] σ σ' := nx σ2 f12 ⟨by rw [g39, upd_eq]; exact hv, by rw [g38, upd_eq]; exact isI_16⟩ (fun j hj => ⟨by rw [g39, upd_ne hj], by rw [g38, upd_ne hj]⟩)
      cases ecm : cm with
      | true => rw [if_neg (show ¬ bI true = 0 by decide)]; exact done1
      | false =>
        rw [ecm] at hcm
        have c2 : x.2.1 ≠ 2 := fun q => by rw [decide_eq_true q] at hcm; cases hcm
        have hR2 := RWd_FR hR f12 (by decide) (by decide) (by decide)
        rw [if_pos (show bI false = 0 from rfl), e_o hm, bs, q_isGiven hm hR2.2.2 hWP.2.1 hxn hgv, xb_mk]
        cases eq : x.2.2.2.2.1 with
        | none =>
          have hb0 := hby
          unfold byP at hb0
          rw [eq] at hb0
          have hb0 : x.2.1 = 0 ∨ x.2.1 = 3 ∨ x.2.1 = 4 := hb0
          rw [decide_eq_true (show x.2.1 = 3 by omega), if_neg (by decide)]
          exact done1
        | some q =>
          have hb0 := hby
          unfold byP at hb0
          rw [eq] at hb0
          obtain ⟨b1, b2, b3, b4, b5, b6⟩ := hb0
          have rr2 := hR2.2.2.2 n x hxn
          have hy := rr2.2.2.2.1
          rw [eq] at hy
          have hy : gA σ2 24 n = nI q.1 ∧ gA σ2 25 n = nI q.2 := hy
          have hb := hR2.1 q.1 b1
          have hyP := w2_y (OB_w hb) b2.2
          have hwl := wNo_lt (k := q.2) (dr := dr) hb
          have hx4 : yP (tb q.1) q.2 + 4 < tn q.1 := by omega
          rw [show (some q).isNone = false from rfl, Bool.and_false, if_pos (show bI false = 0 from rfl), Mr24 hm, bs, Ma24 hm (by omega), bs, hy.1, Mr25 hm, bs, Ma25 hm (by omega), bs, hy.2, e_o hm, bs, O_wNo hm (by omega) hb hR2.2.1 b2.2, xb_mk, Mr38 hm, bs, Mr6 hm, bs, e_o hm, bs, O_obj hm hb, xb_mk, Mr25 hm, bs, Ma25 hm (by omega), bs, hy.2, e_o hm, bs, O_sym hm (by omega) hb, xb_mk, nI_add, Nat.add_assoc, O_byte hm hb hx4, bs, Ms38 hm (by omega), bs]
          have f3 : FR [] [] klA [41] σ2 (sA σ2 38 (upd (gA σ2 38) n (gA σ2 6 (tO q.1 + (yP (tb q.1) q.2 + 4)) &&& nI 255))) := FR_mono (FR_A σ2 38 _) (by decide) (by decide) (by decide) (by decide)
          have g393 : gA (sA σ2 38 (upd (gA σ2 38) n (gA σ2 6 (tO q.1 + (yP (tb q.1) q.2 + 4)) &&& nI 255))) 39 = upd (gA σ 39) n v := by rw [gA_sA, if_neg (by decide)]; exact g39
          have hInf : isI (gA σ2 6 (tO q.1 + (yP (tb q.1) q.2 + 4)) &&& nI 255) := ⟨tb q.1 (yP (tb q.1) q.2 + 4), by rw [← hb.2.1]; exact cb_lt _ _ _ _, O_b255 hb hx4, yOK_B ((eObj_0 hb.2.2.2.1).2.1 q.2 b2.1 b2.2) b3⟩
          have g383 : gA (sA σ2 38 (upd (gA σ2 38) n (gA σ2 6 (tO q.1 + (yP (tb q.1) q.2 + 4)) &&& nI 255))) 38 = upd (upd (gA σ 38) n (nI 16)) n (gA σ2 6 (tO q.1 + (yP (tb q.1) q.2 + 4)) &&& nI 255) := by rw [gA_sA, if_pos rfl, g38]
          generalize gA σ2 6 (tO q.1 + (yP (tb q.1) q.2 + 4)) &&& nI 255 = inf at *
          generalize sA σ2 38 (upd (gA σ2 38) n inf) = σ3 at *
          have f13 := FR_trans f12 f3
          have hR3 := RWd_FR hR f13 (by decide) (by decide) (by decide)
          have hy3 : gA σ3 25 n = nI q.2 := by rw [f3.2.2.1 25 (by decide)]; exact hy.2
          have hb3 := hR3.1 q.1 b1
          rw [Mr41 hm, bs, e_o hm, bs, O_obj hm hb3, xb_mk, Mr25 hm, bs, Ma25 hm (by omega), bs, hy3, e_o hm, bs, O_ysize hm (by omega) hb3 b2.2, xb_mk, Ms41 hm (by omega), bs]
          have f4 : FR [] [] klA [41] σ3 (sB σ3 41 (vp_updL (gB σ3 41) n (lN (yZ (tb q.1) q.2)))) := FR_mono (FR_B σ3 41 _) (by decide) (by decide) (by decide) (by decide)
          have g394 : gA (sB σ3 41 (vp_updL (gB σ3 41) n (lN (yZ (tb q.1) q.2)))) 39 = upd (gA σ 39) n v := g393
          have g384 : gA (sB σ3 41 (vp_updL (gB σ3 41) n (lN (yZ (tb q.1) q.2)))) 38 = upd (upd (gA σ 38) n (nI 16)) n inf := g383
          generalize sB σ3 41 (vp_updL (gB σ3 41) n (lN (yZ (tb q.1) q.2))) = σ4 at *
          have f14 := FR_trans f13 f4
          have hR4 := RWd_FR hR f14 (by decide) (by decide) (by decide)
          have hb4 := hR4.1 q.1 b1
          have hs4 := RSt_FR hs f14 (by decide) (by decide)
          rw [Mr39 hm, bs, e_o hm, bs, q_isSectionNow hm (by omega) hb4 (by omega), xb_mk]
          have e259 : ∀ w, okS w → ∃ σ', f_M_keepLink_259 F (f_M_keepLink_38 F g) m (nI P) (m + 29) (nI n) w (mh m h σ4) = some ((), mh m h σ') ∧ (∀ (Q n : Nat), od[Q]? = some n → okS (gA σ' 39 n) ∧ isI (gA σ' 38 n)) ∧ FR [] [] klA [41] σ σ' := fun w hw => by
            unfold f_M_keepLink_259 f_M_keepLink_260
            rw [Ms39 hm (by omega), bs, nI_add]
            refine nx _ (FR_trans f14 (FR_mono (FR_A σ4 39 _) (by decide) (by decide) (by decide) (by decide))) ⟨by rw [gA_sA, if_pos rfl, upd_eq]; exact hw, by rw [gA_sA, if_neg (by decide), g384, upd_eq]; exact hInf⟩ (fun j hj => ⟨by rw [gA_sA, if_pos rfl, upd_ne hj, g394, upd_ne hj], by rw [gA_sA, if_neg (by decide), g384, upd_ne hj, upd_ne hj]⟩)
          have hm1 : okS (Int32.ofInt (-1)) := ⟨none, rfl, fun s hs => nomatch hs⟩
          unfold f_M_keepLink_258
          cases en : isN tb q.1 (wNo dr q.1 (tb q.1) q.2) with
          | false => rw [if_pos (show bI false = 0 from rfl)]; exact e259 _ hm1
          | true =>
            have hwo : wNo dr q.1 (tb q.1) q.2 < oS (tb q.1) := by
              unfold isN at en
              rw [Bool.and_eq_true] at en
              exact (of_decide_eq_true en.1).2
            rw [if_neg (show ¬ bI true = 0 by decide), e_o hm, bs, q_stays hm (by omega) hb4 hR4.2.1 hs4 hwo, xb_mk]
            cases sta tb dr on R q.1 (wNo dr q.1 (tb q.1) q.2) with
            | false => rw [if_pos (show bI false = 0 from rfl)]; exact e259 _ hm1
            | true =>
              have hG : oG (tb q.1) (wNo dr q.1 (tb q.1) q.2) ≤ 5 := by unfold oG; repeat (first | omega | split)
              have hsg := sgO_2 (g := oG (tb q.1) (wNo dr q.1 (tb q.1) q.2))
              rw [if_neg (show ¬ bI true = 0 by decide), e_o hm, bs, O_obj hm hb4, xb_mk, e_o hm, bs, O_group hm (by omega) hb4 hwo, xb_mk, q_segmentOf (by omega), xb_mk]
              exact e259 _ ⟨some _, rfl, fun s hs => by have := Option.some.inj hs; omega⟩
    have e68 : ∀ cm : Bool, cm = decide (x.2.1 = 2) → ∃ σ', f_M_keepLink_68 F (f_M_keepLink_38 F g) m (nI P) (nI n) (bI cm) (mh m h σ) = some ((), mh m h σ') ∧ (∀ (Q n : Nat), od[Q]? = some n → okS (gA σ' 39 n) ∧ isI (gA σ' 38 n)) ∧ FR [] [] klA [41] σ σ' := by
      intro cm hcm
      unfold f_M_keepLink_68
      rw [Mr38 hm, bs, Ms38 hm (by omega), bs]
      have f1 : FR [] [] klA [41] σ (sA σ 38 (upd (gA σ 38) n (nI 16))) := FR_mono (FR_A σ 38 _) (by decide) (by decide) (by decide) (by decide)
      have g39 : gA (sA σ 38 (upd (gA σ 38) n (nI 16))) 39 = gA σ 39 := by rw [gA_sA, if_neg (by decide)]
      have g38 : gA (sA σ 38 (upd (gA σ 38) n (nI 16))) 38 = upd (gA σ 38) n (nI 16) := by rw [gA_sA, if_pos rfl]
      generalize sA σ 38 (upd (gA σ 38) n (nI 16)) = σ1 at *
      have e97 : ∀ w, ∃ σ', f_M_keepLink_97 F (f_M_keepLink_38 F g) m (nI P) (nI n) (bI cm) (m + 31) (nI n) w (mh m h σ1) = some ((), mh m h σ') ∧ (∀ (Q n : Nat), od[Q]? = some n → okS (gA σ' 39 n) ∧ isI (gA σ' 38 n)) ∧ FR [] [] klA [41] σ σ' := by
        intro w
        unfold f_M_keepLink_97 f_M_keepLink_119
        rw [Ms41 hm (by omega), bs]
        have f2 : FR [] [] klA [41] σ1 (sB σ1 41 (vp_updL (gB σ1 41) n w)) := FR_mono (FR_B σ1 41 _) (by decide) (by decide) (by decide) (by decide)
        have g392 : gA (sB σ1 41 (vp_updL (gB σ1 41) n w)) 39 = gA σ 39 := g39
        have g382 : gA (sB σ1 41 (vp_updL (gB σ1 41) n w)) 38 = upd (gA σ 38) n (nI 16) := g38
        generalize sB σ1 41 (vp_updL (gB σ1 41) n w) = σ2 at *
        have f12 := FR_trans f1 f2
        have hm1 : okS (Int32.ofInt (-1)) := ⟨none, rfl, fun s hs => nomatch hs⟩
        rw [Mr39 hm, bs]
        cases ecm : cm with
        | false =>
          rw [if_pos (show bI false = 0 from rfl)]
          exact e120 σ2 _ false f12 g392 g382 hm1 (ecm ▸ hcm)
        | true =>
          rw [if_neg (show ¬ bI true = 0 by decide), e_o hm, bs, q_isCommon (on := on) (rn := rn) hm (RL_FR hR.2.2 f12 (by decide) (by decide) (by decide)) hWP.2.1 (RO_FR ho f12 (by decide) (by decide)) hx hn (RRn_FR hc f12 (by decide) (by decide)), xb_mk]
          cases cB xs on rn n with
          | false => rw [if_pos (show bI false = 0 from rfl)]; exact e120 σ2 _ true f12 g392 g382 hm1 (ecm ▸ hcm)
          | true => rw [if_neg (show ¬ bI true = 0 by decide)]; exact e120 σ2 _ true f12 g392 g382 ⟨some 2, rfl, fun s hs => by have := Option.some.inj hs; omega⟩ (ecm ▸ hcm)
      rw [Mr41 hm, bs]
      cases ecm : cm with
      | false => rw [ecm] at e97; rw [if_pos (show bI false = 0 from rfl)]; exact e97 _
      | true => rw [ecm] at e97; rw [if_neg (show ¬ bI true = 0 by decide), Mr26 hm, bs, Ma26 hm (by omega), bs]; exact e97 _
    have h4 := (hWP.2.1 n x hxn).1
    unfold f_M_keepLink_38
    rw [Mg48 hm, bs, ho.1, if_neg (nI_ge (by omega) (by omega)), Mr49 hm, bs, Ma49 hm (by omega), bs, ho.2.2 P n hx, Mr23 hm, bs, Ma23 hm (by omega), bs, rr.1]
    by_cases c2 : x.2.1 = 2
    · rw [if_pos (by rw [c2])]
      exact e68 true (by rw [decide_eq_true c2])
    · rw [if_neg (fun q => c2 ((nI_eq (by omega) (by decide)).mp q))]
      exact e68 false (by rw [decide_eq_false c2])
theorem q_keepLinkX {σ : px_S} {fe : Nat} (hm : m ≤ h.length) (hF : 65540 < F) (hWP : WP T tb dr xs) (hod : ∀ d, d ∈ od → d < xs.length) (hoS : ∀ d, d ∈ od → stN xs d = 1 ∨ stN xs d = 2 ∨ stN xs d = 3) (hR : RWd σ T tO tn tb dr xs) (ho : RO σ od) (hc : RRn σ xs on rn) (hs : RSt σ on R) (hfe : fe ≤ 65536) (h4 : gI σ 4 = nI fe) (h42 : ∀ k, isB (gA σ 42 k)) (h3 : ∀ k, isB (gA σ 3 k)) : ∃ σ', f_M_keepLink F m (mh m h σ) = some ((), mh m h σ') ∧ gI σ' 43 = nI fe ∧ (∀ k, isB (gA σ' 42 k)) ∧ (∀ (Q n : Nat), od[Q]? = some n → okS (gA σ' 39 n) ∧ isI (gA σ' 38 n)) ∧ FR [43] [] [38, 39, 42] [41] σ σ' ∧ ∀ i, i < fe → gA σ' 42 i = gA σ 3 i := by
  have hol := ho.2.1
  have f1 := FR_I σ 43 (nI fe)
  have g43 : gI (sI σ 43 (nI fe)) 43 = nI fe := by rw [gI_sI, if_pos rfl]
  have p43 : xpI (mh m h σ) 12 43 m (nI fe) = some (mh m h (sI σ 43 (nI fe))) := Mp43 hm _
  have e3 : gA (sI σ 43 (nI fe)) 3 = gA σ 3 := f1.2.2.1 3 (by decide)
  generalize sI σ 43 (nI fe) = σ1 at *
  obtain ⟨σ2, a1, a2, a3, a4⟩ := q_kL10X (F := F) (h := h) hm hfe fe 0 F σ1 (by omega) (by omega) ((f1.1 4 (by decide)).trans h4) (by rw [f1.2.2.1 42 (by decide)]; exact h42) (by rw [e3]; exact h3) (fun i hi => absurd hi (Nat.not_lt_zero _))
  have f2 : FR [43] [] [38, 39, 42] [41] σ σ2 := FR_trans (FR_mono f1 (by decide) (by decide) (by decide) (by decide)) (FR_mono a3 (by decide) (by decide) (by decide) (by decide))
  obtain ⟨σ3, b1, b2, b3⟩ := q_kL38I (F := F) (h := h) (on := on) (rn := rn) (R := R) hm hF hWP hod hoS od.length 0 F σ2 (by omega) (by omega) (RWd_FR hR f2 (by decide) (by decide) (by decide)) (RO_FR ho f2 (by decide) (by decide)) (RRn_FR hc f2 (by decide) (by decide)) (RSt_FR hs f2 (by decide) (by decide)) (fun Q n hQ => absurd hQ (Nat.not_lt_zero Q))
  refine ⟨σ3, ?_, ?_, ?_, b2, FR_trans f2 (FR_mono b3 (by decide) (by decide) (by decide) (by decide)), fun i hi => by rw [b3.2.2.1 42 (by decide), a4 i hi, e3]⟩
  · unfold f_M_keepLink
    rw [Mg4 hm, bs, h4, p43, bs, a1]
    exact b1
  · rw [b3.1 43 (by decide), a3.1 43 (by decide)]; exact g43
  · rw [b3.2.2.1 42 (by decide)]; exact a2
end MKX
section MLWX
variable {F m T : Nat} {h : px_H} {B : Nat → Nat} {tb : Nat → Nat → Nat} {tO tn tq : Nat → Nat} {dr : Nat → Bool} {xs : px_NL} {ll sl od : List Nat} {on : Bool} {R rn : Nat → Bool} {th : Nat → Bool}
/-- OUT holds the file of a link -/
def ROe (T : Nat) (tO : Nat → Nat) (tb : Nat → Nat → Nat) (dr : Nat → Bool) (xs : px_NL) (od : List Nat) (on : Bool) (rn : Nat → Bool) (B : Nat → Nat) (sy : Nat → Nat → Bool) (ll sl : List Nat) (th : Nat → Bool) (σ : px_S) : Prop := ∃ ad NA V, LKX tO tb dr xs od on rn B sy ll sl th ad NA V ∧ (vFe V ≤ 65536 ∧ gI σ 4 = nI (vFe V)) ∧ EX8 (gA σ 3) (en7 NA xs) (rows7 th V (psz B (pf0 B tO tb ll)) sl.length (ll.any (thr1 tb))).length (rows7 th V (psz B (pf0 B tO tb ll)) sl.length (ll.any (thr1 tb))) ∧ EX8 (gA σ 42) (en7 NA xs) (rows7 th V (psz B (pf0 B tO tb ll)) sl.length (ll.any (thr1 tb))).length (rows7 th V (psz B (pf0 B tO tb ll)) sl.length (ll.any (thr1 tb))) ∧ 64 + 56 * (rows7 th V (psz B (pf0 B tO tb ll)) sl.length (ll.any (thr1 tb))).length ≤ vFe V ∧ (∀ (Q n : Nat), od[Q]? = some n → isI (gA σ 38 n)) ∧ ∀ i, 64 + 56 * (rows7 th V (psz B (pf0 B tO tb ll)) sl.length (ll.any (thr1 tb))).length ≤ i → i < vFe V → gA σ 3 i = wfV T tO tb dr xs sy ll sl NA B ad V i ∧ gA σ 42 i = wfV T tO tb dr xs sy ll sl NA B ad V i
theorem q_lnEX {σ : px_S} (hm : m ≤ h.length) (hF : 65540 < F) (hll : ll = layL T tb (sta tb dr on R)) (hsl : sl = slL T tb dr xs (sta tb dr on R)) (hth : th = thS tb ll xs od on rn sl.length) (hWP : WP T tb dr xs) (hY : LYo T tb ll) (hkp : ∀ x, x ∈ ll → oK (tb (x / 24)) (x % 24) = true) (hN : SLN T tb) (hcm : AL cmP xs) (hod : ∀ d, d ∈ od → d < xs.length) (hoS : ∀ d, d ∈ od → stN xs d = 1 ∨ stN xs d = 2 ∨ stN xs d = 3) (hst : (dfI wST xs).isSome = true) (hol : od.length ≤ 4128) (h13 : gI σ 13 = nI 0) (h14 : gI σ 14 = nI T) (h74 : gI σ 74 = nI 0) (hR : RWd σ T tO tn tb dr xs) (hO : RO σ od) (hs : RSt σ on R) (hn : RRn σ xs on rn) (hLa : RLa σ tq tb ll) (hB : RB σ B) (hC : RC σ) (h3 : ∀ k, isB (gA σ 3 k)) (h4 : ∃ n, n ≤ 65536 ∧ gI σ 4 = nI n) (h42 : ∀ k, isB (gA σ 42 k)) (h91 : ∀ k, isB (gA σ 91 k)) : ∃ (σ' : px_S) (a : Nat), ((xo (mh m h σ) 12 m).bind fun _ => xb (f_M_findPool F m (mh m h σ)) fun _ ph3 => f_M_link_152 F m ph3) = some (nI a, mh m h σ') ∧ lnE T tO tb dr xs od on rn B (sta tb dr on R) ll sl th a ∧ (a = 0 → ROe T tO tb dr xs od on rn B (sta tb dr on R) ll sl th σ') ∧ (a ≠ 0 → gI σ' 4 = gI σ 4 ∧ gA σ' 3 = gA σ 3) := by
  have hS : llS T tb (sta tb dr on R) ll := by rw [hll]; exact llS_lay
  have hl := hY.2.1
  subst hsl
  obtain ⟨σ2, a1, a2, a3, a4, a5⟩ := q_findPool (F := F) (h := h) (σ := σ) hm hF hl ⟨hR.1, hLa, hB⟩ h91
  obtain ⟨σ3, b1, b2, b3, b4⟩ := q_findSlots (F := F) (h := h) (σ := σ2) (xs := xs) (on := on) (R := R) hm (by omega) hN hWP ⟨RWd_FR hR a5 (by decide) (by decide) (by decide), RSt_FR hs a5 (by decide) (by decide), (a5.1 14 (by decide)).trans h14⟩ ((a5.1 74 (by decide)).trans h74)
  have f3 : FR [74, 88, 89] [] [75, 76, 77, 78, 91, 92, 93, 94, 95] [] σ σ3 := FR_trans (FR_mono a5 (by decide) (by decide) (by decide) (by decide)) (FR_mono b4 (by decide) (by decide) (by decide) (by decide))
  have hW3 : RWp σ3 T tO tn tq tb ll B := RWp_FR ⟨hR.1, hLa, hB⟩ f3 (by decide) (by decide)
  have hpo3 : RPo σ3 B (nd0 B tO tb ll) (pf0 B tO tb ll) := RPo_FR a2 b4 (by decide) (by decide)
  have hR3 := RWd_FR hR f3 (by decide) (by decide) (by decide)
  have hs3 := RSt_FR hs f3 (by decide) (by decide)
  have hn3 := RRn_FR hn f3 (by decide) (by decide)
  have hO3 := RO_FR hO f3 (by decide) (by decide)
  have hns := hN _ b3
  have hown : ∀ (i : Nat) (x : List Nat × px_NR), xs[i]? = some x → x.2.2.2.1 < 2 ^ 31 := fun i x hx => by have := (hcm i x hx).2; omega
  obtain ⟨σ4, fe0, bg0, G0, fe1, mem1, bg1, G1, fe2, mem2, bg2, G4, G5, G2, sp, G3, CM, fe3, y1, y2, y3, ⟨y4, y5, y6⟩, ⟨y7, y8, y9⟩, ⟨y10, y11, y12, y13⟩, y14, y15, y16, y17⟩ := q_layout (F := F) (h := h) (σ := σ3) (od := od) (rn := rn) (ns := (slL T tb dr xs (sta tb dr on R)).length) (th := th) hm hF hY hWP hown hW3 a4 a3 hpo3 hR3.2.1 hs3 hS ⟨hW3.2.1, hR3.2.2, hO3, hn3, b2.1⟩ hod (cmOK_of hcm) hns ((f3.1 13 (by decide)).trans h13) hth
  have F4 : FR leI leJ [59, 75, 76, 77, 78, 91, 92, 93, 94, 95] lyB σ σ4 := FR_trans (FR_mono f3 (by decide) (by decide) (by decide) (by decide)) (FR_mono y17 (by decide) (by decide) (by decide) (by decide))
  have F4a : FR [13, 15, 74, 82, 88, 89] lyJ [59, 75, 76, 77, 78, 91, 92, 93, 94, 95] lyB σ σ4 := FR_trans (FR_mono f3 (by decide) (by decide) (by decide) (by decide)) (FR_mono y17 (by decide) (by decide) (by decide) (by decide))
  have g3 : ∀ k, isB (gA σ4 3 k) := fun k => by rw [F4.2.2.1 3 (by decide)]; exact h3 k
  have g42 : ∀ k, isB (gA σ4 42 k) := fun k => by rw [F4.2.2.1 42 (by decide)]; exact h42 k
  have g91 : ∀ k, isB (gA σ4 91 k) := fun k => by rw [y17.2.2.1 91 (by decide)]; exact hpo3.2.2.2.1 k
  have g4 : ∃ n, n ≤ 65536 ∧ gI σ4 4 = nI n := by
    obtain ⟨n, n1, n2⟩ := h4
    exact ⟨n, n1, (F4a.1 4 (by decide)).trans n2⟩
  have e0 : ((xo (mh m h σ) 12 m).bind fun _ => xb (f_M_findPool F m (mh m h σ)) fun _ ph3 => f_M_link_152 F m ph3) = f_M_link_174 F m (mh m h σ4) := by
    rw [e_o hm, bs, a1, xb_mk]
    unfold f_M_link_152
    rw [Mg13 hm, bs, (a5.1 13 (by decide)).trans h13, if_pos (show nI 0 = 0 from rfl), e_o hm, bs, b1, xb_mk]
    unfold f_M_link_163
    rw [Mg13 hm, bs, (f3.1 13 (by decide)).trans h13, if_pos (show nI 0 = 0 from rfl), e_o hm, bs, y2, xb_mk]
  rw [e0]
  clear e0 y2 b1 a1
  cases eA : lyA th (G0.1 - bg0) (G1.1 + psz B (pf0 B tO tb ll) - bg1) (CM.1 - bg2) fe3 with
  | true =>
    rw [eA, if_pos rfl] at y3
    exact ⟨σ4, 3, sk_174 hm y3 (by decide) (by decide), ⟨fe0, bg0, G0, fe1, mem1, bg1, G1, fe2, mem2, bg2, G4, G5, G2, sp, G3, CM, fe3, y1, by rw [eA, if_pos rfl]⟩, fun q => absurd q (by decide), fun _ => ⟨F4a.1 4 (by decide), F4a.2.2.1 3 (by decide)⟩⟩
  | false =>
    rw [eA, if_neg (by decide)] at y3
    have hfe : fe3 ≤ 65536 := by
      unfold lyA at eA
      rw [Bool.or_eq_false_iff, Bool.or_eq_false_iff, Bool.or_eq_false_iff] at eA
      have := of_decide_eq_false eA.2.2
      omega
    have hRo := LY_room hY hth rfl y1 hfe y16
    have had : ∀ x, x ∈ ll → gB σ4 58 x = lN (G3.2.1 x) := fun x hx => by
      obtain ⟨P, hP⟩ := List.mem_iff_getElem?.mp hx
      exact (y14 P x hP trivial).2
    obtain ⟨NA, eNA⟩ : ∃ NA, NA = naF (ownV B (pf0 B tO tb ll) tO tb dr (sta tb dr on R) G1.1 G3.2.1) (ownK G0.1 bg2 (sp + 8 * (slL T tb dr xs (sta tb dr on R)).length - bg2) (CM.2.2.getD CM.1) (CM.1 - bg2)) CM.2.1 xs := ⟨_, rfl⟩
    have hNA : ∀ j, j < xs.length → gB σ4 29 j = NA j := fun j hj => by
      rw [eNA, y15 j _ (List.getElem?_eq_getElem hj)]
      unfold naF
      rw [getD_at (List.getElem?_eq_getElem hj)]
    have hsl4 : RSl tb xs σ4 (slL T tb dr xs (sta tb dr on R)) := ⟨(y17.1 74 (by decide)).trans b2.1, fun p z hz => by
      unfold RSr
      rw [y17.2.2.1 78 (by decide), y17.2.2.1 75 (by decide), y17.2.2.1 76 (by decide), y17.2.2.1 77 (by decide)]
      exact b2.2 p z hz⟩
    have hR4 := RWd_FR hR F4a (by decide) (by decide) (by decide)
    have hs4 := RSt_FR hs F4a (by decide) (by decide)
    have hFn : RFn σ4 T tO tn tq tb dr xs on R ll B (slL T tb dr xs (sta tb dr on R)) NA G3.2.1 sp (tpN bg2 (ll.foldl (ft1 tb G3.2.1) (false, 0, 1, 0))) G1.1 := ⟨⟨RWp_FR hW3 y17 (by decide) (by decide), RPo_FR hpo3 y17 (by decide) (by decide)⟩, ⟨hR4.2.1, hs4, hR4.2.2⟩, hsl4, hNA, had, y11, y13, y12, (F4a.1 14 (by decide)).trans h14⟩
    have hFN : FNo T tO tb dr xs (sta tb dr on R) ll B (slL T tb dr xs (sta tb dr on R)) := ⟨hWP, hl, a4, a3, hS, hN, b3⟩
    obtain ⟨σ5, c1, c2⟩ := q_sites (F := F) (h := h) (SV := svF B tO tb dr xs (sta tb dr on R) ll (slL T tb dr xs (sta tb dr on R)) NA G3.2.1 sp (tpN bg2 (ll.foldl (ft1 tb G3.2.1) (false, 0, 1, 0))) G1.1) hm hF hFn hFN y3 rfl
    have e1 : f_M_link_174 F m (mh m h σ4) = f_M_link_186 F m (mh m h σ5) := by
      unfold f_M_link_174
      rw [Mg13 hm, bs, y3, if_pos (show nI 0 = 0 from rfl), e_o hm, bs, c1, xb_mk]
    rw [e1]
    have hL : ∀ b, ex1 (ovT (svF B tO tb dr xs (sta tb dr on R) ll (slL T tb dr xs (sta tb dr on R)) NA G3.2.1 sp (tpN bg2 (ll.foldl (ft1 tb G3.2.1) (false, 0, 1, 0))) G1.1) tb (sta tb dr on R)) 0 T = b → lnE T tO tb dr xs od on rn B (sta tb dr on R) ll (slL T tb dr xs (sta tb dr on R)) th (if b = true then 4 else 0) := fun b hb => ⟨fe0, bg0, G0, fe1, mem1, bg1, G1, fe2, mem2, bg2, G4, G5, G2, sp, G3, CM, fe3, y1, by rw [eA, if_neg (show ¬ (false = true) by decide), ← eNA, hb]⟩
    cases eO : ex1 (ovT (svF B tO tb dr xs (sta tb dr on R) ll (slL T tb dr xs (sta tb dr on R)) NA G3.2.1 sp (tpN bg2 (ll.foldl (ft1 tb G3.2.1) (false, 0, 1, 0))) G1.1) tb (sta tb dr on R)) 0 T with
    | true =>
      obtain ⟨d1, d2⟩ := c2.2 eO
      have F5 : FR leI leJ [59, 75, 76, 77, 78, 91, 92, 93, 94, 95] lyB σ σ5 := FR_trans F4 (FR_mono d2 (by decide) (by decide) (by decide) (by decide))
      exact ⟨σ5, 4, sk_186 hm d1 (by decide) (by decide), hL true eO, fun q => absurd q (by decide), fun _ => ⟨(d2.1 4 (by decide)).trans (F4a.1 4 (by decide)), (d2.2.2.1 3 (by decide)).trans (F4a.2.2.1 3 (by decide))⟩⟩
    | false =>
      rw [c2.1 eO]
      have hsp : RSp σ4 (seg3 (upN fe0 16) (upN fe1 16) (upN fe2 16)) (seg3 bg0 bg1 bg2) := by
        intro s hs
        have : s = 0 ∨ s = 1 ∨ s = 2 := by omega
        rcases this with e | e | e
        · rw [e]; exact ⟨y7.1, y7.2.1⟩
        · rw [e]; exact ⟨y8.1, y8.2.1⟩
        · rw [e]; exact ⟨y9.1, y9.2.1⟩
      have hs2 : RS2 σ4 (seg3 (G0.1 - bg0) (G1.1 + psz B (pf0 B tO tb ll) - bg1) (sp + 8 * (slL T tb dr xs (sta tb dr on R)).length - bg2)) (seg3 (G0.1 - bg0) (G1.1 + psz B (pf0 B tO tb ll) - bg1) (CM.1 - bg2)) := by
        intro s hs
        have : s = 0 ∨ s = 1 ∨ s = 2 := by omega
        rcases this with e | e | e
        · rw [e]; exact ⟨y7.2.2.1, y7.2.2.2⟩
        · rw [e]; exact ⟨y8.2.2.1, y8.2.2.2⟩
        · rw [e]; exact ⟨y9.2.2.1, y9.2.2.2⟩
      have hsz := PIn_sz a3
      obtain ⟨w5, w6, w7⟩ := LYe_b hY.2.2.2 hl.1 hns (by omega) (cmOK_of hcm) hod hol y1
      have hlo := LYe_lo y1
      obtain ⟨l1, l2, l3, l4, l5, l6, l7, l8, l9, l10, l11, l12, l13, l14, l15, l16, l17⟩ := id y1
      have t0 := upN_le (v := fe0) (a := 16) (by decide)
      have t1 := upN_le (v := fe1) (a := 16) (by decide)
      have t2 := upN_le (v := fe2) (a := 16) (by decide)
      have mo01 : fe0 ≤ fe1 := by rw [l4]; split <;> omega
      have mo12 : fe1 ≤ fe2 := by rw [l8]; split <;> omega
      obtain ⟨l, el⟩ : ∃ l, l = rT7 th (r7s (seg3 (upN fe0 16) (upN fe1 16) (upN fe2 16)) (seg3 bg0 bg1 bg2) (seg3 (G0.1 - bg0) (G1.1 + psz B (pf0 B tO tb ll) - bg1) (sp + 8 * (slL T tb dr xs (sta tb dr on R)).length - bg2)) (seg3 (G0.1 - bg0) (G1.1 + psz B (pf0 B tO tb ll) - bg1) (CM.1 - bg2))) (ll.any (thr1 tb)) := ⟨_, rfl⟩
      have hH : 64 + 56 * l.length = fe0 := by
        rw [el, rT7_len, l1]
        split <;> omega
      obtain ⟨σ6, w1, w2, w3, w4, w8, w9⟩ := q_writeX (F := F) (h := h) (σ := σ4) (fe := fe3) (fz := seg3 (G0.1 - bg0) (G1.1 + psz B (pf0 B tO tb ll) - bg1) (sp + 8 * (slL T tb dr xs (sta tb dr on R)).length - bg2)) (mz := seg3 (G0.1 - bg0) (G1.1 + psz B (pf0 B tO tb ll) - bg1) (CM.1 - bg2)) (thr := ll.any (thr1 tb)) hm hF hFN hRo hkp hst hNA (fun s _ => ⟨seg3_lt (by omega) (by omega) (by omega) s, seg3_lt (by omega) (by omega) (by omega) s, seg3_lt (by omega) (by omega) (by omega) s, seg3_lt (by omega) (by omega) (by omega) s⟩) (fun s _ => by rw [← el, hH]; exact seg3_H (by omega) (by omega) (by omega) s) hs2 y4 y6 ⟨⟨hFn, hsp, y3, g3⟩, y5, ⟨sgN th 3, sgN_le 3, y4⟩, ⟨_, y6⟩, y14, RC_FR hC F4a (by decide) (by decide)⟩ hfe (by rw [← l1] at hlo; omega) y10
      have F6 : FR [4, 13, 15, 74, 82, 88, 89] lyJ [3, 59, 75, 76, 77, 78, 91, 92, 93, 94, 95] lyB σ σ6 := FR_trans (FR_mono F4a (by decide) (by decide) (by decide) (by decide)) (FR_mono w4 (by decide) (by decide) (by decide) (by decide))
      obtain ⟨σ7, k1, k2, k3, k4, k5, k6⟩ := q_keepLinkX (F := F) (h := h) (σ := σ6) (fe := fe3) (rn := rn) hm hF hWP hod hoS (RWd_FR hR F6 (by decide) (by decide) (by decide)) (RO_FR hO F6 (by decide) (by decide)) (RRn_FR hn F6 (by decide) (by decide)) (RSt_FR hs F6 (by decide) (by decide)) hfe w2 (fun k => by rw [w4.2.2.1 42 (by decide)]; exact g42 k) w3
      have z6 : gI σ6 13 = nI 0 := (w4.1 13 (by decide)).trans y3
      have z7 : gI σ7 13 = nI 0 := (k5.1 13 (by decide)).trans z6
      rw [← el] at w8 w9
      refine ⟨σ7, 0, ?_, hL false eO, fun _ => ⟨G3.2.1, NA, (fe0, bg0, G0, fe1, mem1, bg1, G1, fe2, mem2, bg2, G4, G5, G2, sp, G3, CM, fe3), ⟨fe0, bg0, G0, fe1, mem1, bg1, G1, fe2, mem2, bg2, G4, G5, G2, sp, G3, CM, fe3, y1, rfl, eNA, rfl⟩, ⟨hfe, (k5.1 4 (by decide)).trans w2⟩, ?_, ?_, ?_, fun Q n hn => (k4 Q n hn).2, fun i hi hn => ?_⟩, fun q => absurd rfl q⟩
      rotate_left
      · rw [rows7_mk, ← el, k5.2.2.1 3 (by decide)]
        exact w8
      · rw [rows7_mk, ← el]
        rw [← l1] at hlo
        exact EX8_lo w8 (fun i hi => k6 i (by omega))
      · rw [rows7_mk, ← el, hH]
        rw [← l1] at hlo
        exact hlo
      · rw [rows7_mk, ← el] at hi
        have hn : i < fe3 := hn
        have w := w9 i hi hn
        rw [wfV_mk, k5.2.2.1 3 (by decide), k6 i hn]
        exact ⟨w, w⟩
      unfold f_M_link_186
      rw [Mg13 hm, bs, y3, if_pos (show nI 0 = 0 from rfl), e_o hm, bs, w1, xb_mk]
      unfold f_M_link_197
      rw [Mg13 hm, bs, z6, if_pos (show nI 0 = 0 from rfl), e_o hm, bs, k1, xb_mk]
      unfold f_M_link_208
      rw [Mg13 hm, bs, z7]
end MLWX
section MLXX
variable {F m : Nat} {h : px_H} {fs : px_FS} {gs : List (List Nat × Int64)} {ws : List (List Nat)} {B : Nat → Nat} {rc : Bool}
/-- OUT holds the file of a link that was done -/
def ROL (fs : px_FS) (s : px_TK) (rc : Bool) (B : Nat → Nat) (σ : px_S) : Prop := ∃ ll ad NA, lnX fs s rc B ll ad NA ∧ (vFe NA.2.2.2.2 ≤ 65536 ∧ gI σ 4 = nI (vFe NA.2.2.2.2)) ∧ EX8 (gA σ 3) (en7 NA.1 (xsN s)) (l7 fs s B ll NA).length (l7 fs s B ll NA) ∧ EX8 (gA σ 42) (en7 NA.1 (xsN s)) (l7 fs s B ll NA).length (l7 fs s B ll NA) ∧ 64 + 56 * (l7 fs s B ll NA).length ≤ vFe NA.2.2.2.2 ∧ (∀ (Q n : Nat), s.1.2.2.1[Q]? = some n → isI (gA σ 38 n)) ∧ ∀ i, 64 + 56 * (l7 fs s B ll NA).length ≤ i → i < vFe NA.2.2.2.2 → gA σ 3 i = w7 fs s B ll ad NA i ∧ gA σ 42 i = w7 fs s B ll ad NA i
theorem ROL_mk {s : px_TK} {σ : px_S} {ll : List Nat} {ad : Nat → Nat} {NA : Nat → Int64} {th : Nat → Bool} {sl : List Nat} {sy : Nat → Nat → Bool} {V : px_VV} {l : List px_R7} (h : lnX fs s rc B ll ad (NA, th, sl, sy, V)) (hl : l = rows7 th V (psz B (pf0 B (tOf fs s.2.2.1) (tB fs s.2.2.1) ll)) sl.length (ll.any (thr1 (tB fs s.2.2.1)))) (h1 : vFe V ≤ 65536 ∧ gI σ 4 = nI (vFe V)) (h2 : EX8 (gA σ 3) (en7 NA (xsN s)) l.length l) (h2' : EX8 (gA σ 42) (en7 NA (xsN s)) l.length l) (h3 : 64 + 56 * l.length ≤ vFe V) (h4 : ∀ (Q n : Nat), s.1.2.2.1[Q]? = some n → isI (gA σ 38 n)) (h5 : ∀ i, 64 + 56 * l.length ≤ i → i < vFe V → gA σ 3 i = wfV s.2.2.1.length (tOf fs s.2.2.1) (tB fs s.2.2.1) s.2.1.1 (xsN s) sy ll sl NA B ad V i ∧ gA σ 42 i = wfV s.2.2.1.length (tOf fs s.2.2.1) (tB fs s.2.2.1) s.2.1.1 (xsN s) sy ll sl NA B ad V i) : ROL fs s rc B σ := by
  subst hl
  exact ⟨ll, ad, (NA, th, sl, sy, V), h, h1, h2, h2', h3, h4, h5⟩
theorem q_linkX {σ : px_S} (hm : m ≤ h.length) (hF : 65540 < F) (hr : RF σ fs) (hg : RG σ gs) (hw : RW σ ws) (hv : LNV σ) (hB : RB σ B) (hsum : (fs.map Prod.fst).sum ≤ 4096) : ∃ (σ' : px_S) (a : Nat) (s : px_TK), f_M_link F m (bI rc) (mh m h σ) = some (nI a, mh m h σ') ∧ lnR fs gs ws rc B s a ∧ (a = 0 → ROL fs s rc B σ') ∧ (3 ≤ a → gI σ' 4 = gI σ 4 ∧ gA σ' 3 = gA σ 3) ∧ (a = 1 ∨ a = 2 → ∃ n, n ≤ 20 ∧ gI σ' 4 = nI n) := by
  obtain ⟨v3, v4, v42, v91, v98, vC⟩ := hv
  have hfo := RF_FSo hr
  have hgl : gs.length ≤ 16 := by have := hg.2.1.1; rw [List.length_map] at this; exact this
  have hwl : ws.length ≤ 16 := hw.2.1
  obtain ⟨hS, hSw⟩ := ST0_xs hgl hwl
  have hWK := WK_0 hfo hS
  have hcm0 := cmP_0 hfo hS
  have hod0 := odS_0 hfo hS
  have htx : ∀ w, w ∈ ws → w ∈ (taL fs (xs0 gs ws) (od0 gs)).1.2.1.map Prod.fst := fun w hq => txs_0 hfo (hSw w hq)
  obtain ⟨s, es⟩ : ∃ s, s = taL fs (xs0 gs ws) (od0 gs) := ⟨_, rfl⟩
  rw [← es] at hWK hcm0 hod0 htx
  have hWP : WP s.2.2.1.length (tB fs s.2.2.1) s.2.1.1 (xsN s) := by
    unfold xsN
    split
    · exact WP_own (WP_of hWK)
    · exact WP_of hWK
  have hcm : AL cmP (xsN s) := by
    unfold xsN
    split
    · exact AL_own (P := cmP) cmP_own hcm0
    · exact hcm0
  have hlen : (xsN s).length = s.1.2.1.length := by
    have := congrArg List.length (xsN_fst (s := s))
    rw [List.length_map, List.length_map] at this
    exact this
  have hod : ∀ d, d ∈ s.1.2.2.1 → d < (xsN s).length := fun d hd => by rw [hlen]; exact hWK.2.2.2.2 d hd
  have hoS : ∀ d, d ∈ s.1.2.2.1 → stN (xsN s) d = 1 ∨ stN (xsN s) d = 2 ∨ stN (xsN s) d = 3 := fun d hd => by
    have h1 := hod0 d hd
    unfold xsN
    split
    · rw [stN_own (by omega)]; exact h1
    · exact h1
  have hSL := SLN_of hfo hWK.1 hsum
  -- the start
  obtain ⟨σ1, a1, a2, a3, a4⟩ := q_ln_0 (F := F) (h := h) (a := bI rc) (σ := σ) hm (by omega)
  obtain ⟨σ2, b1, b2, b3, b4, b5, b6, b7, b8, b9⟩ := q_ln92X (F := F) (h := h) (a := bI rc) (σ := σ1) (s := s) hm (by omega) a2 a3 (RF_FR hr a4 (by decide) (by decide)) (RG_FR hg a4 (by decide) (by decide) (by decide)) (RW_FR hw a4 (by decide) (by decide)) (RC_FR vC a4 (by decide) (by decide)) (fun k => by rw [a4.2.2.1 3 (by decide)]; exact v3 k) (by
    obtain ⟨n, n1, n2⟩ := v4
    exact ⟨n, n1, (a4.1 4 (by decide)).trans n2⟩) es
  have F2 : FR lnI lnJ lnA lnB σ σ2 := FR_trans (FR_mono a4 (by decide) (by decide) (by decide) (by decide)) (FR_mono b7 (by decide) (by decide) (by decide) (by decide))
  have b3 : LM fs s (xsN s) σ2 := b3
  obtain ⟨σ3, c1, c2, c3, c4, c5, c6, c7, c8, c9⟩ := q_ln111X (F := F) (h := h) (a := bI rc) (σ := σ2) (ws := ws) hm (by omega) b2 b3 hWK (fun e => by unfold xsN; rw [if_pos e]) (RW_FR hw F2 (by decide) (by decide)) htx (RC_FR vC F2 (by decide) (by decide)) b5 b6
  have F3 : FR lnI lnJ lnA lnB σ σ3 := FR_trans F2 (FR_mono c6 (by decide) (by decide) (by decide) (by decide))
  obtain ⟨on, hon⟩ : ∃ on, on = (decide (anN fs ws s (xsN s) = 0) && rc) := ⟨_, rfl⟩
  obtain ⟨σ4, R, rn, d1, d2, d3, d4, d5, d6⟩ := q_ln_122 (F := F) (h := h) (σ := σ3) (ws := ws) (rc := rc) hm (by omega) c2 c3 hWK hWP (RC_FR vC F3 (by decide) (by decide)) (by
    obtain ⟨ch, hc⟩ := v98
    exact ⟨ch, by rw [c6.1 98 (by decide), b7.1 98 (by decide), a4.1 98 (by decide)]; exact hc⟩) (by rw [c6.1 68 (by decide), b7.1 68 (by decide)]; exact a2.2.2.2.2.2.2.2.1) hon
  have F4 : FR lnI lnJ lnA lnB σ σ4 := FR_trans F3 (FR_mono d6 (by decide) (by decide) (by decide) (by decide))
  have hL4 := LM_FR c3 d6 (by decide) (by decide) (by decide)
  have h134 : gI σ4 13 = nI (anN fs ws s (xsN s)) := (d6.1 13 (by decide)).trans c2
  obtain ⟨l1, l2, l3, l4, l5, l6, l7, l8, l9⟩ := hL4
  have hOB := OB_of l2 hWK.1 l7
  obtain ⟨σ5, e1, e2, e3, e4⟩ := q_lay (F := F) (h := h) (σ := σ4) (tq := tQf s.2.2.1) (on := on) (R := R) hm (by omega) hWP.1 ⟨hOB, l5, d2, RQ_of l2 hWK.1 l7, l1⟩
  have F5 : FR lnI lnJ lnA lnB σ σ5 := FR_trans F4 (FR_mono e4 (by decide) (by decide) (by decide) (by decide))
  obtain ⟨hLY, hkp⟩ := LYo_lay (tn := tNf fs s.2.2.1) hWP.1 (fun t ht => (hOB t ht).2.2.2.1) e3
  have hL5 := LM_FR ⟨l1, l2, l3, l4, l5, l6, l7, l8, l9⟩ e4 (by decide) (by decide) (by decide)
  have hs5 := RSt_FR d2 e4 (by decide) (by decide)
  have hn5 := RRn_FR d3 e4 (by decide) (by decide)
  have h135 : gI σ5 13 = nI (anN fs ws s (xsN s)) := (e4.1 13 (by decide)).trans h134
  have hs2 := hWK.1.1
  have hol : s.1.2.2.1.length ≤ 4128 := by
    have h1 := hWK.1.2.2.2.1
    have h2 := BK_T (s := s) hWK.1
    omega
  have o45 : gI σ5 4 = gI σ3 4 ∧ gA σ5 3 = gA σ3 3 := ⟨(e4.1 4 (by decide)).trans (d6.1 4 (by decide)), (e4.2.2.1 3 (by decide)).trans (d6.2.2.1 3 (by decide))⟩
  have ha : anN fs ws s (xsN s) ≤ 2 := by unfold anN; repeat (first | omega | split)
  have eT : f_M_link F m (bI rc) (mh m h σ) = f_M_link_137 F m (mh m h σ4) := by rw [a1, b1, c1, d1]
  rw [eT]
  unfold f_M_link_137
  rw [e_o hm, bs, e1, xb_mk, Mg13 hm, bs, h135]
  by_cases c : anN fs ws s (xsN s) = 0
  · have eon : on = rc := by rw [hon, decide_eq_true c, Bool.true_and]
    subst eon
    rw [if_pos (by rw [c]; rfl)]
    obtain ⟨σ6, a, g1, g3, g4, g5⟩ := q_lnEX (F := F) (h := h) (σ := σ5) (tO := tOf fs s.2.2.1) (tn := tNf fs s.2.2.1) (tq := tQf s.2.2.1) (B := B) (od := s.1.2.2.1) (rn := rn) (R := R) hm hF rfl rfl rfl hWP hLY hkp hSL hcm hod hoS (anN_st c) hol (by rw [h135, c]) hL5.1 (by rw [e4.1 74 (by decide), d6.1 74 (by decide), c6.1 74 (by decide), b7.1 74 (by decide)]; exact a2.2.2.2.2.2.2.1) ⟨OB_of hL5.2.1 hWK.1 hL5.2.2.2.2.2.2.1, hL5.2.2.2.2.1, hL5.2.2.1⟩ hL5.2.2.2.1 hs5 hn5 e2 (RB_FR hB F5 (by decide)) (RC_FR vC F5 (by decide) (by decide)) (fun k => by rw [e4.2.2.1 3 (by decide), d6.2.2.1 3 (by decide)]; exact c4 k) (by
      obtain ⟨n, n1, n2⟩ := c5
      exact ⟨n, n1, by rw [e4.1 4 (by decide), d6.1 4 (by decide)]; exact n2⟩) (fun k => by rw [e4.2.2.1 42 (by decide), d6.2.2.1 42 (by decide), c6.2.2.1 42 (by decide), b7.2.2.1 42 (by decide), a4.2.2.1 42 (by decide)]; exact v42 k) (fun k => by rw [e4.2.2.1 91 (by decide), d6.2.2.1 91 (by decide), c6.2.2.1 91 (by decide), b7.2.2.1 91 (by decide), a4.2.2.1 91 (by decide)]; exact v91 k)
    have ea : a = 0 ∨ a = 3 ∨ a = 4 := by
      obtain ⟨_, _, _, _, _, _, _, _, _, _, _, _, _, _, _, _, _, _, ea⟩ := g3
      rw [ea]
      split
      · exact Or.inr (Or.inl rfl)
      · split
        · exact Or.inr (Or.inr rfl)
        · exact Or.inl rfl
    have h11 : s.1.1 ≠ 1 := fun q => by
      unfold anN at c
      rw [q, if_neg (by decide)] at c
      exact absurd c (by decide)
    refine ⟨σ6, a, s, g1, ⟨es, fun q => absurd c q, fun _ => ⟨R, rn, d4, g3⟩⟩, fun q => ?_, fun q => ?_, fun q => by omega⟩
    · obtain ⟨ad, NA, V, x1, x2, x3, x5, x4, x6, x7⟩ := g4 q
      exact ROL_mk (lnX_mk d4 rfl x1 rfl rfl rfl) rfl x2 x3 x5 x4 x6 x7
    · obtain ⟨u1, u2⟩ := g5 (by omega)
      obtain ⟨v1, v2⟩ := c7 c
      obtain ⟨w1, w2⟩ := b8 h11
      exact ⟨u1.trans (o45.1.trans (v1.trans (w1.trans (a4.1 4 (by decide))))), u2.trans (o45.2.trans (v2.trans (w2.trans (a4.2.2.1 3 (by decide)))))⟩
  · rw [if_neg (show ¬ nI (anN fs ws s (xsN s)) = 0 from fun q => c ((nI_eq (b := 0) (by omega) (by decide)).mp q)), sk_152 hm h135 c (by omega)]
    refine ⟨σ5, anN fs ws s (xsN s), s, rfl, ⟨es, fun _ => rfl, fun q => absurd q c⟩, fun q => absurd q c, fun q => by omega, fun _ => ?_⟩
    rw [o45.1]
    by_cases c1 : s.1.1 = 0
    · exact c8 c1 c
    · rw [c9 c1]
      have hb := bl_ta hfo (xs0 gs ws) (od0 gs)
      rw [← es] at hb
      have := hb.1
      exact b9 (by omega)
end MLXX
end
