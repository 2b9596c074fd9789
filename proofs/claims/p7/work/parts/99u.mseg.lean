/-! placeSegment of the reference -/
theorem pg1_m {tb : Nat → Nat → Nat} {g : Nat} {th : Bool} {s : px_PG} {x : Nat} (hz : zS tb x ≤ 16384 ∧ alS tb x ≤ 4096) : s.1 ≤ (pg1 tb g th s x).1 ∧ (pg1 tb g th s x).1 ≤ s.1 + 20480 := by
  unfold pg1
  split
  · show s.1 ≤ pgA tb th s.1 x + zS tb x ∧ pgA tb th s.1 x + zS tb x ≤ _
    unfold pgA
    split
    · rename_i q
      have := upN_le (v := s.1) (a := alS tb x) (by omega)
      omega
    · omega
  · exact ⟨Nat.le_refl _, by omega⟩
theorem ar_m {a b c q L : Nat} (h1 : a ≤ b ∧ b ≤ a + q) (h2 : b ≤ c ∧ c ≤ b + L * q) : a ≤ c ∧ c ≤ a + (L + 1) * q := by
  rw [Nat.succ_mul]
  omega
theorem pgs_m {tb : Nat → Nat → Nat} {g : Nat} {th : Bool} : ∀ (l : List Nat) (s : px_PG), (∀ x, x ∈ l → zS tb x ≤ 16384 ∧ alS tb x ≤ 4096) → s.1 ≤ (l.foldl (pg1 tb g th) s).1 ∧ (l.foldl (pg1 tb g th) s).1 ≤ s.1 + l.length * 20480 := by
  intro l
  induction l with
  | nil => intro s _; exact ⟨Nat.le_refl _, Nat.le_add_right _ _⟩
  | cons x l ih =>
    intro s hz
    rw [List.foldl_cons, List.length_cons]
    have h1 := pg1_m (g := g) (th := th) (s := s) (hz x List.mem_cons_self)
    have h2 := ih (pg1 tb g th s x) (fun y hy => hz y (List.mem_cons_of_mem _ hy))
    exact ar_m h1 h2
theorem pc1_m {xs : px_NL} {on : Bool} {rn : Nat → Bool} {th : Bool} {s : px_PG} {n : Nat} (hn : n < xs.length) (hcm : cmOK xs) : s.1 ≤ (pc1 xs on rn th s n).1 ∧ (pc1 xs on rn th s n).1 ≤ s.1 + 20480 := by
  unfold pc1
  split
  · rename_i e
    have h2 : stN xs n = 2 := by
      unfold cB at e
      rw [Bool.and_eq_true] at e
      exact of_decide_eq_true e.1
    have h3 := hcm n hn h2
    show s.1 ≤ pcA xs th s.1 n + cmZ xs n ∧ pcA xs th s.1 n + cmZ xs n ≤ _
    unfold pcA
    split
    · have := upN_le (v := s.1) (a := cmV xs n) h3.1.1
      omega
    · omega
  · exact ⟨Nat.le_refl _, by omega⟩
theorem pcs_m {xs : px_NL} {on : Bool} {rn : Nat → Bool} {th : Bool} (hcm : cmOK xs) : ∀ (l : List Nat) (s : px_PG), (∀ x, x ∈ l → x < xs.length) → s.1 ≤ (l.foldl (pc1 xs on rn th) s).1 ∧ (l.foldl (pc1 xs on rn th) s).1 ≤ s.1 + l.length * 20480 := by
  intro l
  induction l with
  | nil => intro s _; exact ⟨Nat.le_refl _, Nat.le_add_right _ _⟩
  | cons x l ih =>
    intro s hz
    rw [List.foldl_cons, List.length_cons]
    have h1 := pc1_m (on := on) (rn := rn) (th := th) (s := s) (hz x List.mem_cons_self) hcm
    have h2 := ih (pc1 xs on rn th s x) (fun y hy => hz y (List.mem_cons_of_mem _ hy))
    exact ar_m h1 h2
def bgN (mem fp : Nat) (th : Bool) : Nat := upN mem 4096 + (if th = true then fp % 4096 else 0)
def RSeg (σ : px_S) (s fp bg fb mb : Nat) : Prop := gB σ 60 s = lN fp ∧ gB σ 61 s = lN bg ∧ gB σ 62 s = lN fb ∧ gB σ 63 s = lN mb
abbrev sgB4 : List Nat := [60, 61, 62, 63]
/-- the rows of the other segments are as they were -/
def oth (s : Nat) (σ σ' : px_S) : Prop := ∀ k j, k ∈ sgB4 → j ≠ s → gB σ' k j = gB σ k j
theorem oth_FR {s : Nat} {σ σ' : px_S} {I J A B : List Nat} (f : FR I J A B σ σ') (h : ∀ k, k ∈ sgB4 → k ∉ B) : oth s σ σ' := fun k j hk _ => by rw [f.2.2.2 k (h k hk)]
theorem oth_tr {s : Nat} {σ σ1 σ2 : px_S} (h : oth s σ σ1) (g : oth s σ1 σ2) : oth s σ σ2 := fun k j hk hj => (g k j hk hj).trans (h k j hk hj)
theorem oth_set {s q : Nat} {σ : px_S} {v : Int64} : oth s σ (sB σ q (vp_updL (gB σ q) s v)) := fun k j _ hj => by
  rw [gB_sB]
  split
  · rename_i e; rw [vp_ne hj, e]
  · rfl
section MSE
variable {F m T s : Nat} {h : px_H} {σ : px_S} {th : Bool}
theorem q_pSeg_pre {fe mem : Nat} (hm : m ≤ h.length) (hs : s < 3) (h59 : gA σ 59 s = bI th) (h64 : gJ σ 64 = lN fe) (hfe : fe < 2 ^ 50) (hmem : mem < 2 ^ 50) : ∃ σ1, f_M_placeSegment F m (nI s) (lN mem) (mh m h σ) = f_M_placeSegment_68 F m (nI s) (lN (bgN mem (upN fe 16) th)) m (nI (if s < 2 then s else 4)) (mh m h σ1) ∧ gB σ1 60 s = lN (upN fe 16) ∧ gB σ1 61 s = lN (bgN mem (upN fe 16) th) ∧ oth s σ σ1 ∧ FR [] [] [] [60, 61] σ σ1 := by
  have u1 := upN_le (v := fe) (a := 16) (by decide)
  have u2 := upN_le (v := mem) (a := 4096) (by decide)
  obtain ⟨σ1, hσ1⟩ : ∃ z, z = sB σ 60 (vp_updL (gB σ 60) s (lN (upN fe 16))) := ⟨_, rfl⟩
  have f1 : FR [] [] [] [60, 61] σ σ1 := by rw [hσ1]; exact FR_mono (FR_B σ 60 _) (by decide) (by decide) (by decide) (by decide)
  have g60 : gB σ1 60 s = lN (upN fe 16) := by rw [hσ1, gB_sB, if_pos rfl, vp_eq]
  have g59 : gA σ1 59 s = bI th := by rw [f1.2.2.1 59 (by decide)]; exact h59
  have o1 : oth s σ σ1 := by rw [hσ1]; exact oth_set
  have fin : ∀ w, w = (if th = true then upN fe 16 % 4096 else 0) → ∃ σ1', f_M_placeSegment_46 F m (nI s) (lN (upN mem 4096)) (lN w) (mh m h σ1) = f_M_placeSegment_68 F m (nI s) (lN (bgN mem (upN fe 16) th)) m (nI (if s < 2 then s else 4)) (mh m h σ1') ∧ gB σ1' 60 s = lN (upN fe 16) ∧ gB σ1' 61 s = lN (bgN mem (upN fe 16) th) ∧ oth s σ σ1' ∧ FR [] [] [] [60, 61] σ σ1' := by
    intro w hw
    have eb : lN (upN mem 4096) + lN w = lN (bgN mem (upN fe 16) th) := by rw [lN_add, hw]; rfl
    unfold f_M_placeSegment_46
    rw [Mr61 hm, bs, eb, Ms61 hm hs, bs]
    have f2 := FR_B σ1 61 (vp_updL (gB σ1 61) s (lN (bgN mem (upN fe 16) th)))
    refine ⟨sB σ1 61 (vp_updL (gB σ1 61) s (lN (bgN mem (upN fe 16) th))), ?_, ?_, ?_, oth_tr o1 oth_set, FR_trans f1 (FR_mono f2 (by decide) (by decide) (by decide) (by decide))⟩
    · by_cases c : s < 2
      · rw [if_neg (nI_ge (by omega) (by omega)), if_pos c]
      · rw [if_pos (nI_le (by omega) (by omega)), if_neg c]
    · rw [f2.2.2.2 60 (by decide)]; exact g60
    · rw [gB_sB, if_pos rfl, vp_eq]
  unfold f_M_placeSegment
  rw [Mr60 hm, bs, Mg64 hm, bs, h64, show (16 : Int64) = lN 16 from rfl, q_up (by decide) (by omega), xb_mk, Ms60 hm hs, bs, ← hσ1, show (4096 : Int64) = lN 4096 from rfl, q_up (by decide) (by omega), xb_mk, Mr59 hm, bs, Ma59 hm hs, bs, g59]
  cases th with
  | false =>
    rw [if_pos (show bI false = 0 from rfl)]
    exact fin 0 (by rw [if_neg (by decide)])
  | true =>
    rw [if_neg (show ¬ bI true = 0 by decide), Mr60 hm, bs, Ma60 hm hs, bs, g60, pk_lRem (by omega) (by decide) (by decide)]
    exact fin (upN fe 16 % 4096) (by rw [if_pos rfl])
theorem q_pSeg_246 {bg at1 top : Nat} (hm : m ≤ h.length) (hs : s < 3) (h1 : bg ≤ top) (h2 : bg ≤ at1) : ∃ σ', f_M_placeSegment_246 F m (nI s) (lN bg) (lN at1) (lN top) (mh m h σ) = some ((), mh m h σ') ∧ gB σ' 62 s = lN (top - bg) ∧ gB σ' 63 s = lN (at1 - bg) ∧ oth s σ σ' ∧ FR [] [] [] [62, 63] σ σ' := by
  unfold f_M_placeSegment_246
  rw [Mr62 hm, bs, lN_sub h1, Ms62 hm hs, bs, Mr63 hm, bs, lN_sub h2, Ms63 hm hs, bs]
  have f1 := FR_B σ 62 (vp_updL (gB σ 62) s (lN (top - bg)))
  refine ⟨_, rfl, ?_, ?_, oth_tr oth_set oth_set, FR_trans (FR_mono f1 (by decide) (by decide) (by decide) (by decide)) (FR_mono (FR_B _ 63 _) (by decide) (by decide) (by decide) (by decide))⟩
  · rw [gB_sB, if_neg (by decide), gB_sB, if_pos rfl, vp_eq]
  · rw [gB_sB, if_pos rfl, vp_eq]
end MSE
section MSF
variable {F m T : Nat} {h : px_H} {tb : Nat → Nat → Nat} {tO tn tq : Nat → Nat} {ll : List Nat} {D : Nat → Prop} {B : Nat → Nat} {ad : Nat → Nat}
theorem RAd_FR {σ σ' : px_S} {I J A Bs : List Nat} (hh : RAd σ ll D ad) (f : FR I J A Bs σ σ') (h1 : 57 ∉ Bs ∧ 58 ∉ Bs) : RAd σ' ll D ad := fun P x hx hd => by rw [f.2.2.2 57 h1.1, f.2.2.2 58 h1.2]; exact hh P x hx hd
/-- what is laid, known -/
def LYo (T : Nat) (tb : Nat → Nat → Nat) (ll : List Nat) : Prop := T ≤ 64 ∧ llP T tb ll ∧ ll.Nodup ∧ ∀ x, x ∈ ll → zS tb x ≤ 16384 ∧ alS tb x ≤ 4096
theorem ar_6 {a K : Nat} (ha : a ≤ 1536) : a * 20480 ≤ 31457280 := by
  have := Nat.mul_le_mul_right 20480 ha
  omega
theorem q_pSeg0 {σ : px_S} {fe mem : Nat} {th : Bool} (hm : m ≤ h.length) (hF : 65536 < F) (hY : LYo T tb ll) (hD : ∀ x, D x → cnd tb 0 x = false) (hB : ∀ t, t < T → OB σ t (tO t) (tn t) (tb t)) (hL : RLa σ tq tb ll) (hA : RAd σ ll D ad) (h59 : gA σ 59 0 = bI th) (h64 : gJ σ 64 = lN fe) (hfe : fe < 2 ^ 38) (hmem : mem < 2 ^ 38) (G : px_PG) (hG : G = ll.foldl (pg1 tb 0 th) (bgN mem (upN fe 16) th, ad, none)) : ∃ σ', f_M_placeSegment F m (nI 0) (lN mem) (mh m h σ) = some ((), mh m h σ') ∧ RSeg σ' 0 (upN fe 16) (bgN mem (upN fe 16) th) (G.1 - bgN mem (upN fe 16) th) (G.1 - bgN mem (upN fe 16) th) ∧ gJ σ' 80 = lN G.1 ∧ RAd σ' ll (fun x => D x ∨ cnd tb 0 x = true) G.2.1 ∧ oth 0 σ σ' ∧ FR [] [80, 81] [] [57, 58, 60, 61, 62, 63] σ σ' := by
  obtain ⟨hT, hl, hnd, hZ⟩ := hY
  have u1 := upN_le (v := fe) (a := 16) (by decide)
  have u2 := upN_le (v := mem) (a := 4096) (by decide)
  have hbg : bgN mem (upN fe 16) th < mem + 8192 := by unfold bgN; have := Nat.mod_lt (upN fe 16) (show 4096 > 0 by decide); split <;> omega
  obtain ⟨σ1, a1, a2, a3, a4, a5⟩ := q_pSeg_pre (F := F) (h := h) (s := 0) hm (by decide) h59 h64 (by omega) (show mem < 2 ^ 50 by omega)
  generalize hbgv : bgN mem (upN fe 16) th = bg at *
  obtain ⟨σ2, b1, b2, b3, b4, b5⟩ := q_placeGroup (F := F) (h := h) (g := 0) (th := th) (D := D) (s := (bg, ad, none)) hm hF hT hl hnd hZ (by decide) hD (fun t ht => OB_FR (hB t ht) a5 (by decide)) (RLa_FR hL a5 (by decide) (by decide)) (show bg < _ by omega) (fun v hv => nomatch hv) (RAd_FR hA a5 (by decide)) (fun q => absurd q (by decide))
  rw [← hG] at b1 b2
  have hmon := pgs_m (g := 0) (th := th) ll (bg, ad, none) hZ
  rw [← hG] at hmon
  have hmon1 : bg ≤ G.1 := hmon.1
  have f80 := FR_J σ2 80 (lN G.1)
  obtain ⟨σ3, d1, d2, d3, d4, d5⟩ := q_pSeg_246 (F := F) (h := h) (σ := sJ σ2 80 (lN G.1)) (s := 0) (bg := bg) (at1 := G.1) (top := G.1) hm (by decide) hmon1 hmon1
  refine ⟨σ3, ?_, ⟨?_, ?_, d2, d3⟩, ?_, ?_, ?_, ?_⟩
  · rw [a1]
    unfold f_M_placeSegment_68 f_M_placeSegment_116 f_M_placeSegment_126 f_M_placeSegment_139
    have g59 : gA σ1 59 0 = bI th := by rw [a5.2.2.1 59 (by decide)]; exact h59
    rw [Mr59 hm, bs, Ma59 hm (by decide), bs, g59, e_o hm, bs, if_pos (show 0 < 2 by decide), b1, xb_mk, if_neg (show ¬ nI 0 = nI 2 by decide), if_pos (show nI 0 = 0 from rfl), Mp80 hm, bs, if_neg (show ¬ nI 0 = nI 1 by decide), if_neg (show ¬ nI 0 = nI 2 by decide)]
    exact d1
  · rw [d5.2.2.2 60 (by decide), f80.2.2.2 60 (by decide), b5.2.2.2 60 (by decide)]; exact a2
  · rw [d5.2.2.2 61 (by decide), f80.2.2.2 61 (by decide), b5.2.2.2 61 (by decide)]; exact a3
  · rw [d5.2.1 80 (by decide), gJ_sJ, if_pos rfl]
  · exact RAd_FR (RAd_FR b2 f80 (by decide)) d5 (by decide)
  · exact oth_tr a4 (oth_tr (oth_FR b5 (by decide)) (oth_tr (oth_FR f80 (by decide)) d4))
  · exact FR_trans (FR_mono a5 (by decide) (by decide) (by decide) (by decide)) (FR_trans (FR_mono b5 (by decide) (by decide) (by decide) (by decide)) (FR_trans (FR_mono f80 (by decide) (by decide) (by decide) (by decide)) (FR_mono d5 (by decide) (by decide) (by decide) (by decide))))
theorem q_pSeg1 {σ : px_S} {fe mem : Nat} {th : Bool} (hm : m ≤ h.length) (hF : 65540 < F) (hY : LYo T tb ll) (hD : ∀ x, D x → cnd tb 1 x = false ∧ sS tb x = false) (hW : RWp σ T tO tn tq tb ll B) (hn : ndB B (nd0 B tO tb ll)) (hI : PIn B (nd0 B tO tb ll) (pf0 B tO tb ll)) (hr : RPo σ B (nd0 B tO tb ll) (pf0 B tO tb ll)) (hA : RAd σ ll D ad) (h59 : gA σ 59 1 = bI th) (h64 : gJ σ 64 = lN fe) (hfe : fe < 2 ^ 38) (hmem : mem < 2 ^ 38) (G : px_PG) (hG : G = ll.foldl (pg1 tb 1 th) (bgN mem (upN fe 16) th, ad, none)) : ∃ σ', f_M_placeSegment F m (nI 1) (lN mem) (mh m h σ) = some ((), mh m h σ') ∧ RSeg σ' 1 (upN fe 16) (bgN mem (upN fe 16) th) (G.1 + psz B (pf0 B tO tb ll) - bgN mem (upN fe 16) th) (G.1 + psz B (pf0 B tO tb ll) - bgN mem (upN fe 16) th) ∧ gJ σ' 90 = lN G.1 ∧ RAd σ' ll (fun x => (D x ∨ cnd tb 1 x = true) ∨ sS tb x = true) (psF B (pf0 B tO tb ll) tO tb G.1 G.2.1) ∧ oth 1 σ σ' ∧ FR [] [81, 90] [] [57, 58, 60, 61, 62, 63] σ σ' := by
  obtain ⟨hT, hl, hnd, hZ⟩ := hY
  have u1 := upN_le (v := fe) (a := 16) (by decide)
  have u2 := upN_le (v := mem) (a := 4096) (by decide)
  have hbg : bgN mem (upN fe 16) th < mem + 8192 := by unfold bgN; have := Nat.mod_lt (upN fe 16) (show 4096 > 0 by decide); split <;> omega
  obtain ⟨σ1, a1, a2, a3, a4, a5⟩ := q_pSeg_pre (F := F) (h := h) (s := 1) hm (by decide) h59 h64 (by omega) (show mem < 2 ^ 50 by omega)
  generalize hbgv : bgN mem (upN fe 16) th = bg at *
  have hW1 := RWp_FR hW a5 (by decide) (by decide)
  obtain ⟨σ2, b1, b2, b3, b4, b5⟩ := q_placeGroup (F := F) (h := h) (g := 1) (th := th) (D := D) (s := (bg, ad, none)) hm (by omega) hT hl hnd hZ (by decide) (fun x hx => (hD x hx).1) hW1.1 hW1.2.1 (show bg < _ by omega) (fun v hv => nomatch hv) (RAd_FR hA a5 (by decide)) (fun q => absurd q (by decide))
  rw [← hG] at b1 b2
  have hmon := pgs_m (g := 1) (th := th) ll (bg, ad, none) hZ
  rw [← hG] at hmon
  have hmon1 : bg ≤ G.1 := hmon.1
  have hmon2 : G.1 ≤ bg + ll.length * 20480 := hmon.2
  have h6 := ar_6 (K := 0) hl.1
  have hsz := PIn_sz hI
  obtain ⟨σ3, c1, c2, c3, c4⟩ := q_placeStrings (F := F) (h := h) (pp := G.1) (D := fun x => D x ∨ cnd tb 1 x = true) (ad := G.2.1) hm hF hl hnd hn hI (fun x hx => hx.elim (fun q => (hD x q).2) (fun q => by
    unfold cnd at q
    rw [Bool.and_eq_true] at q
    have q2 := q.2
    rw [decide_eq_true rfl, Bool.true_and] at q2
    cases es : sS tb x with
    | false => rfl
    | true => rw [es] at q2; cases q2)) (by omega) (RWp_FR hW1 b5 (by decide) (by decide)) (RPo_FR (RPo_FR hr a5 (by decide) (by decide)) b5 (by decide) (by decide)) b2
  generalize hA2 : G.1 + psz B (pf0 B tO tb ll) = at2 at *
  obtain ⟨σ4, d1, d2, d3, d4, d5⟩ := q_pSeg_246 (F := F) (h := h) (σ := σ3) (s := 1) (bg := bg) (at1 := at2) (top := at2) hm (by decide) (by omega) (by omega)
  refine ⟨σ4, ?_, ⟨?_, ?_, d2, d3⟩, ?_, ?_, ?_, ?_⟩
  · rw [a1]
    unfold f_M_placeSegment_68 f_M_placeSegment_116 f_M_placeSegment_126 f_M_placeSegment_139
    have g59 : gA σ1 59 1 = bI th := by rw [a5.2.2.1 59 (by decide)]; exact h59
    rw [Mr59 hm, bs, Ma59 hm (by decide), bs, g59, e_o hm, bs, if_pos (show 1 < 2 by decide), b1, xb_mk, if_neg (show ¬ nI 1 = nI 2 by decide), if_neg (show ¬ nI 1 = 0 by decide), if_pos rfl, e_o hm, bs, c1, xb_mk, if_neg (show ¬ nI 1 = nI 2 by decide)]
    exact d1
  · rw [d5.2.2.2 60 (by decide), c4.2.2.2 60 (by decide), b5.2.2.2 60 (by decide)]; exact a2
  · rw [d5.2.2.2 61 (by decide), c4.2.2.2 61 (by decide), b5.2.2.2 61 (by decide)]; exact a3
  · rw [d5.2.1 90 (by decide)]; exact c3
  · exact RAd_FR c2 d5 (by decide)
  · exact oth_tr a4 (oth_tr (oth_FR b5 (by decide)) (oth_tr (oth_FR c4 (by decide)) d4))
  · exact FR_trans (FR_mono a5 (by decide) (by decide) (by decide) (by decide)) (FR_trans (FR_mono b5 (by decide) (by decide) (by decide) (by decide)) (FR_trans (FR_mono c4 (by decide) (by decide) (by decide) (by decide)) (FR_mono d5 (by decide) (by decide) (by decide) (by decide))))
end MSF
