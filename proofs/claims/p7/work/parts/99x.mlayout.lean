/-! layout of the reference -/
def LYe (B : Nat → Nat) (tO : Nat → Nat) (tb : Nat → Nat → Nat) (ll : List Nat) (xs : px_NL) (od : List Nat) (ns : Nat) (on : Bool) (rn : Nat → Bool) (th : Nat → Bool) (fe0 bg0 : Nat) (G0 : px_PG) (fe1 mem1 bg1 : Nat) (G1 : px_PG) (fe2 mem2 bg2 : Nat) (G4 G5 G2 : px_PG) (sp : Nat) (G3 CM : px_PG) (fe3 : Nat) : Prop :=
  fe0 = 64 + 56 * sgN th 3 + (if ll.any (thr1 tb) = true then 56 else 0) ∧ bg0 = bgN 4194304 (upN fe0 16) (th 0) ∧ G0 = ll.foldl (pg1 tb 0 (th 0)) (bg0, (fun _ => 0), none) ∧ fe1 = (if th 0 = true then upN fe0 16 + (G0.1 - bg0) else fe0) ∧ mem1 = (if th 0 = true then bg0 + (G0.1 - bg0) else 4194304) ∧ bg1 = bgN mem1 (upN fe1 16) (th 1) ∧ G1 = ll.foldl (pg1 tb 1 (th 1)) (bg1, G0.2.1, none) ∧ fe2 = (if th 1 = true then upN fe1 16 + (G1.1 + psz B (pf0 B tO tb ll) - bg1) else fe1) ∧ mem2 = (if th 1 = true then bg1 + (G1.1 + psz B (pf0 B tO tb ll) - bg1) else mem1) ∧ bg2 = bgN mem2 (upN fe2 16) (th 2) ∧ G4 = ll.foldl (pg1 tb 4 (th 2)) (bg2, psF B (pf0 B tO tb ll) tO tb G1.1 G1.2.1, none) ∧ G5 = ll.foldl (pg1 tb 5 (th 2)) (G4.1, G4.2.1, none) ∧ G2 = ll.foldl (pg1 tb 2 (th 2)) (G4.1, G5.2.1, none) ∧ sp = (if 0 < ns then upN G2.1 8 else G2.1) ∧ G3 = ll.foldl (pg1 tb 3 (th 2)) (sp + 8 * ns, G2.2.1, none) ∧ CM = od.foldl (pc1 xs on rn (th 2)) (G3.1, (fun _ => 0), G3.2.2) ∧ fe3 = (if th 2 = true then upN fe2 16 + (sp + 8 * ns - bg2) else fe2)
/-- a segment, or the file, is too large -/
def lyA (th : Nat → Bool) (mb0 mb1 mb2 fe3 : Nat) : Bool := ((th 0 && decide (65536 < mb0)) || (th 1 && decide (65536 < mb1))) || ((th 2 && decide (65536 < mb2)) || decide (65536 < fe3))
section MLA
variable {F m : Nat} {h : px_H}
theorem q_ly_2 {N : Nat} (hm : m ≤ h.length) (hN : N ≤ 4096) : ∀ (c k g : Nat) (σ : px_S), k + c = N → c < g → gI σ 20 = nI N → (∀ q, q < k → gB σ 29 q = lN 0) → ∃ σ', f_M_layout_2 F g m (nI k) (mh m h σ) = f_M_layout_23 F m (mh m h σ') ∧ (∀ q, q < N → gB σ' 29 q = lN 0) ∧ FR [] [] [] [29] σ σ' := by
  intro c
  induction c with
  | zero =>
    intro k g σ hk hg h20 hq
    obtain ⟨g, rfl⟩ : ∃ x, g = x + 1 := ⟨g - 1, by omega⟩
    unfold f_M_layout_2
    rw [Mg20 hm, bs, h20, if_pos (nI_le (by omega) (by omega))]
    exact ⟨σ, rfl, fun q h1 => hq q (by omega), FR_refl σ⟩
  | succ c ih =>
    intro k g σ hk hg h20 hq
    obtain ⟨g, rfl⟩ : ∃ x, g = x + 1 := ⟨g - 1, by omega⟩
    unfold f_M_layout_2
    rw [Mg20 hm, bs, h20, if_neg (nI_ge (by omega) (by omega)), Mr29 hm, bs, Ms29 hm (by omega), bs, nI_add]
    obtain ⟨σ2, j1, j2, j3⟩ := ih (k + 1) g (sB σ 29 (vp_updL (gB σ 29) k (lN 0))) (by omega) (by omega) h20 (fun q hq2 => by
      show vp_updL (gB σ 29) k (lN 0) q = _
      by_cases c1 : q = k
      · rw [c1, vp_eq]
      · rw [vp_ne c1]; exact hq q (by omega))
    exact ⟨σ2, j1, j2, FR_trans (FR_B σ 29 _) j3⟩
theorem q_ly_step {K : Nat → Int64 → Int32 → px_H → Option (Unit × px_H)} {σ σ1 : px_S} {s g mem fp bg fb mb fe : Nat} {th : Bool} (hm : m ≤ h.length) (hs : s < 3) (h1 : f_M_placeSegment F m (nI s) (lN mem) (mh m h σ) = some ((), mh m h σ1)) (hR : RSeg σ1 s fp bg fb mb) (h59 : gA σ1 59 s = bI th) (h64 : gJ σ1 64 = lN fe) (hmb : mb < 2 ^ 62) (hK : f_M_layout_73 F g = K) : ∃ σ2, f_M_layout_73 F (g + 1) m (lN mem) (nI s) (mh m h σ) = K m (lN (if th = true then bg + mb else mem)) (nI (s + 1)) (mh m h σ2) ∧ gJ σ2 64 = lN (if th = true then fp + fb else fe) ∧ gI σ2 13 = (if (th && decide (65536 < mb)) = true then nI 3 else gI σ1 13) ∧ FR [13] [64] [] [] σ1 σ2 := by
  obtain ⟨r1, r2, r3, r4⟩ := hR
  unfold f_M_layout_73 f_M_layout_145
  rw [hK]
  rw [if_neg (nI_ge (by omega) (by omega)), e_o hm, bs, h1, xb_mk, Mr59 hm, bs, Ma59 hm hs, bs, h59, nI_add]
  cases th with
  | false =>
    rw [if_pos (show bI false = 0 from rfl), if_neg (by decide), if_neg (by decide), Bool.false_and, if_neg (by decide)]
    exact ⟨σ1, rfl, h64, rfl, FR_refl σ1⟩
  | true =>
    have f1 := FR_J σ1 64 (lN (fp + fb))
    have g63 : gB (sJ σ1 64 (lN (fp + fb))) 63 s = lN mb := r4
    have g13 : gI (sJ σ1 64 (lN (fp + fb))) 13 = gI σ1 13 := rfl
    have g64 : gJ (sJ σ1 64 (lN (fp + fb))) 64 = lN (fp + fb) := by rw [gJ_sJ, if_pos rfl]
    rw [if_neg (show ¬ bI true = 0 by decide), if_pos rfl, if_pos rfl, Bool.true_and, Mr61 hm, bs, Ma61 hm hs, bs, r2, Mr63 hm, bs, Ma63 hm hs, bs, r4, Mr60 hm, bs, Ma60 hm hs, bs, r1, Mr62 hm, bs, Ma62 hm hs, bs, r3, lN_add, lN_add, Mp64 hm, bs, Mr63 hm, bs, Ma63 hm hs, bs, g63, show (65536 : Int64) = lN 65536 from rfl]
    generalize sJ σ1 64 (lN (fp + fb)) = σ2 at *
    by_cases c : 65536 < mb
    · rw [if_neg (fun q => by have := (pk_lLE (by omega) (by decide)).mp q; omega), Mp13 hm, bs, decide_eq_true c, if_pos rfl]
      exact ⟨sI σ2 13 (nI 3), rfl, g64, by rw [gI_sI, if_pos rfl], FR_trans (FR_mono f1 (by decide) (by decide) (by decide) (by decide)) (FR_mono (FR_I σ2 13 _) (by decide) (by decide) (by decide) (by decide))⟩
    · rw [if_pos ((pk_lLE (by omega) (by decide)).mpr (by omega)), decide_eq_false c, if_neg (by decide)]
      exact ⟨σ2, rfl, g64, g13, FR_mono f1 (by decide) (by decide) (by decide) (by decide)⟩
end MLA
theorem cnd_all {tb : Nat → Nat → Nat} {x : Nat} : (((False ∨ cnd tb 0 x = true) ∨ cnd tb 1 x = true) ∨ sS tb x = true) ∨ cnd tb 4 x = true ∨ cnd tb 5 x = true ∨ cnd tb 2 x = true ∨ cnd tb 3 x = true := by
  have hG : oG (tb (x / 24)) (x % 24) ≤ 5 := by unfold oG; repeat (first | omega | split)
  have key : ∀ g, g ≠ 1 → oG (tb (x / 24)) (x % 24) = g → cnd tb g x = true := fun g h1 h2 => by unfold cnd; rw [decide_eq_true h2, decide_eq_false h1]; rfl
  by_cases c0 : oG (tb (x / 24)) (x % 24) = 0
  · exact Or.inl (Or.inl (Or.inl (Or.inr (key 0 (by decide) c0))))
  by_cases c1 : oG (tb (x / 24)) (x % 24) = 1
  · cases es : sS tb x with
    | true => exact Or.inl (Or.inr rfl)
    | false => exact Or.inl (Or.inl (Or.inr (by unfold cnd; rw [decide_eq_true c1, es, Bool.and_false]; rfl)))
  by_cases c2 : oG (tb (x / 24)) (x % 24) = 2
  · exact Or.inr (Or.inr (Or.inr (Or.inl (key 2 (by decide) c2))))
  by_cases c3 : oG (tb (x / 24)) (x % 24) = 3
  · exact Or.inr (Or.inr (Or.inr (Or.inr (key 3 (by decide) c3))))
  by_cases c4 : oG (tb (x / 24)) (x % 24) = 4
  · exact Or.inr (Or.inl (key 4 (by decide) c4))
  · exact Or.inr (Or.inr (Or.inl (key 5 (by decide) (by omega))))
theorem sS_g {tb : Nat → Nat → Nat} {x : Nat} (h : sS tb x = true) : oG (tb (x / 24)) (x % 24) = 1 := by
  unfold sS oStr at h
  rw [Bool.and_eq_true] at h
  have := h.1
  unfold oStr0 at this
  exact (of_decide_eq_true this).2.1
theorem cnd_s {tb : Nat → Nat → Nat} {g x : Nat} (h : sS tb x = true) (hg : g ≠ 1) : cnd tb g x = false := by
  unfold cnd
  rw [sS_g h, decide_eq_false (fun q => hg q.symm), Bool.false_and]
theorem cnd_0s {tb : Nat → Nat → Nat} {g x : Nat} (h : cnd tb g x = true) (hg : g ≠ 1) : sS tb x = false := by
  cases e : sS tb x with
  | false => rfl
  | true => rw [cnd_s e hg] at h; cases h
theorem ft_le {tb : Nat → Nat → Nat} {ad : Nat → Nat} {K : Nat} : ∀ (l : List Nat) (s : px_FT), (∀ x, x ∈ l → ad x + zS tb x ≤ K) → s.2.1 ≤ K → (l.foldl (ft1 tb ad) s).2.1 ≤ K := by
  intro l
  induction l with
  | nil => intro s _ h; exact h
  | cons x l ih =>
    intro s h hs
    rw [List.foldl_cons]
    refine ih _ (fun y hy => h y (List.mem_cons_of_mem _ hy)) ?_
    unfold ft1
    split
    · exact h x List.mem_cons_self
    · exact hs
theorem ar_k {a b K L q : Nat} (h : a + (L * q + q) ≤ K) (hb : b ≤ a + q) : b + L * q ≤ K := by omega
theorem ar_k2 {a b K Q : Nat} (h : a + (Q + 20480) ≤ K) (hb : b ≤ a + 4096) : b ≤ K := by omega
theorem pgA_le {tb : Nat → Nat → Nat} {th : Bool} {a x : Nat} (h : alS tb x ≤ 4096) : pgA tb th a x ≤ a + 4096 := by
  unfold pgA
  split
  · rename_i q
    have := upN_le (v := a) (a := alS tb x) (by omega)
    omega
  · omega
theorem tup_ad {A Z K x y : Nat} {f : Nat → Nat} {o : Option Nat} {P : px_PG} (hP : P = (A + Z, fun z => if z = y then A else f z, o)) (h : f x ≤ K) (ha : A ≤ K) : P.2.1 x ≤ K := by
  rw [hP]
  show (if x = y then A else f x) ≤ K
  split
  · exact ha
  · exact h
theorem pg1_ad {tb : Nat → Nat → Nat} {g : Nat} {th : Bool} {K : Nat} {s : px_PG} {y x : Nat} (h : s.2.1 x ≤ K) (ha : pgA tb th s.1 y ≤ K) : (pg1 tb g th s y).2.1 x ≤ K := by
  by_cases c : cnd tb g y = true
  · have e1 : pg1 tb g th s y = (pgA tb th s.1 y + zS tb y, fun z => if z = y then pgA tb th s.1 y else s.2.1 z, if g = 3 then some (s.2.2.getD (pgA tb th s.1 y)) else s.2.2) := by unfold pg1; rw [if_pos c]
    exact tup_ad e1 h ha
  · have e1 : pg1 tb g th s y = s := by unfold pg1; rw [if_neg c]
    rw [e1]; exact h
theorem pg_ad {tb : Nat → Nat → Nat} {g : Nat} {th : Bool} {K : Nat} : ∀ (l : List Nat) (s : px_PG), (∀ x, x ∈ l → zS tb x ≤ 16384 ∧ alS tb x ≤ 4096) → (∀ x, s.2.1 x ≤ K) → s.1 + l.length * 20480 ≤ K → ∀ x, (l.foldl (pg1 tb g th) s).2.1 x ≤ K := by
  intro l
  induction l with
  | nil => intro s _ h _ x; exact h x
  | cons y l ih =>
    intro s hz h hK
    rw [List.foldl_cons]
    rw [List.length_cons, Nat.succ_mul] at hK
    have hm := pg1_m (g := g) (th := th) (s := s) (hz y List.mem_cons_self)
    exact ih _ (fun z hz2 => hz z (List.mem_cons_of_mem _ hz2)) (fun x => pg1_ad (h x) (ar_k2 hK (pgA_le (hz y List.mem_cons_self).2))) (ar_k hK hm.2)
