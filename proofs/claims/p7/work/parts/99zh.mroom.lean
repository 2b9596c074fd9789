/-! where the sections lie: within the file -/
theorem pg1_at {tb : Nat → Nat → Nat} {g : Nat} {th : Bool} {s : px_PG} {y : Nat} (c : cnd tb g y = true) : pg1 tb g th s y = (pgA tb th s.1 y + zS tb y, fun z => if z = y then pgA tb th s.1 y else s.2.1 z, if g = 3 then some (s.2.2.getD (pgA tb th s.1 y)) else s.2.2) := by unfold pg1; rw [if_pos c]
theorem pg1_no {tb : Nat → Nat → Nat} {g : Nat} {th : Bool} {s : px_PG} {y : Nat} (c : ¬ cnd tb g y = true) : pg1 tb g th s y = s := by unfold pg1; rw [if_neg c]
theorem tup_ne {A Z x y : Nat} {f : Nat → Nat} {o : Option Nat} {P : px_PG} (hP : P = (A + Z, fun z => if z = y then A else f z, o)) (h : x ≠ y) : P.2.1 x = f x := by
  rw [hP]
  show (if x = y then A else f x) = _
  rw [if_neg h]
theorem tup_eq {A Z y : Nat} {f : Nat → Nat} {o : Option Nat} {P : px_PG} (hP : P = (A + Z, fun z => if z = y then A else f z, o)) : P.2.1 y = A ∧ P.1 = A + Z := by
  rw [hP]
  exact ⟨if_pos rfl, rfl⟩
theorem pgs_out {tb : Nat → Nat → Nat} {g : Nat} {th : Bool} {x : Nat} (hx : cnd tb g x = false) : ∀ (l : List Nat) (s : px_PG), (l.foldl (pg1 tb g th) s).2.1 x = s.2.1 x := by
  intro l
  induction l with
  | nil => intro s; rfl
  | cons y l ih =>
    intro s
    rw [List.foldl_cons, ih]
    by_cases c : cnd tb g y = true
    · exact tup_ne (pg1_at c) (fun e => by rw [e, c] at hx; cases hx)
    · rw [pg1_no c]
theorem pgs_ni {tb : Nat → Nat → Nat} {g : Nat} {th : Bool} {x : Nat} : ∀ (l : List Nat) (s : px_PG), x ∉ l → (l.foldl (pg1 tb g th) s).2.1 x = s.2.1 x := by
  intro l
  induction l with
  | nil => intro s _; rfl
  | cons y l ih =>
    intro s hx
    rw [List.foldl_cons, ih _ (fun q => hx (List.mem_cons_of_mem _ q))]
    by_cases c : cnd tb g y = true
    · exact tup_ne (pg1_at c) (fun e => hx (by rw [e]; exact List.mem_cons_self))
    · rw [pg1_no c]
theorem pgA_ge {tb : Nat → Nat → Nat} {th : Bool} {a x : Nat} : a ≤ pgA tb th a x := by
  unfold pgA
  split
  · rename_i q
    exact (upN_le (v := a) (a := alS tb x) (by omega)).1
  · exact Nat.le_refl _
theorem pgs_in {tb : Nat → Nat → Nat} {g : Nat} {th : Bool} {x : Nat} (hc : cnd tb g x = true) : ∀ (l : List Nat) (s : px_PG), l.Nodup → (∀ x, x ∈ l → zS tb x ≤ 16384 ∧ alS tb x ≤ 4096) → x ∈ l → s.1 ≤ (l.foldl (pg1 tb g th) s).2.1 x ∧ (l.foldl (pg1 tb g th) s).2.1 x + zS tb x ≤ (l.foldl (pg1 tb g th) s).1 := by
  intro l
  induction l with
  | nil => intro s _ _ h; exact absurd h List.not_mem_nil
  | cons y l ih =>
    intro s hd hz hx
    rw [List.foldl_cons]
    have hd2 := List.nodup_cons.mp hd
    have hz2 : ∀ x, x ∈ l → zS tb x ≤ 16384 ∧ alS tb x ≤ 4096 := fun x hx => hz x (List.mem_cons_of_mem _ hx)
    by_cases e : x = y
    · rw [pgs_ni l _ (by rw [e]; exact hd2.1)]
      have hm := (pgs_m (g := g) (th := th) l (pg1 tb g th s y) hz2).1
      rw [e] at hc ⊢
      obtain ⟨t1, t2⟩ := tup_eq (pg1_at (th := th) (s := s) hc)
      have hge := pgA_ge (tb := tb) (th := th) (a := s.1) (x := y)
      rw [t1]
      rw [t2] at hm
      exact ⟨hge, hm⟩
    · have hx2 : x ∈ l := (List.mem_cons.mp hx).elim (fun q => absurd q e) id
      have h1 := ih (pg1 tb g th s y) hd2.2 hz2 hx2
      have hm := (pg1_m (g := g) (th := th) (s := s) (hz y List.mem_cons_self)).1
      exact ⟨Nat.le_trans hm h1.1, h1.2⟩
theorem pf0_nil {B : Nat → Nat} {tO : Nat → Nat} {tb : Nat → Nat → Nat} {nd : List (List Nat)} : ∀ (l : List Nat) (pf : List Nat), (∀ x, x ∈ l → sS tb x = false) → l.foldl (s1F B nd tO tb) pf = pf := by
  intro l
  induction l with
  | nil => intro pf _; rfl
  | cons x l ih =>
    intro pf h
    rw [List.foldl_cons]
    have e : s1F B nd tO tb pf x = pf := by unfold s1F; rw [h x List.mem_cons_self, if_neg (by decide)]
    rw [e]
    exact ih pf (fun y hy => h y (List.mem_cons_of_mem _ hy))
def seg3 (a b c s : Nat) : Nat := if s = 0 then a else if s = 1 then b else c
theorem sS_z {tb : Nat → Nat → Nat} {x : Nat} (h : sS tb x = true) : 0 < zS tb x := by
  unfold sS oStr at h
  rw [Bool.and_eq_true] at h
  have := h.1
  unfold oStr0 at this
  exact (of_decide_eq_true this).2.2.2.2.1
section MRM
variable {T : Nat} {B : Nat → Nat} {tb : Nat → Nat → Nat} {tO : Nat → Nat} {dr : Nat → Bool} {xs : px_NL} {ll od : List Nat} {on : Bool} {R rn : Nat → Bool} {ns : Nat} {th : Nat → Bool} {fe0 bg0 fe1 mem1 bg1 fe2 mem2 bg2 sp fe3 : Nat} {G0 G1 G4 G5 G2 G3 CM : px_PG}
theorem cnd_g {g x : Nat} (h : oG (tb (x / 24)) (x % 24) = g) (hs : sS tb x = false) : cnd tb g x = true := by
  unfold cnd
  rw [decide_eq_true h, hs, Bool.and_false]; rfl
theorem cnd_ng {g x : Nat} (h : oG (tb (x / 24)) (x % 24) ≠ g) : cnd tb g x = false := by
  unfold cnd
  rw [decide_eq_false h, Bool.false_and]
theorem LY_room (hY : LYo T tb ll) (hth : th = thS tb ll xs od on rn ns) (hns : ns = (slL T tb dr xs (sta tb dr on R)).length) (hL : LYe B tO tb ll xs od ns on rn th fe0 bg0 G0 fe1 mem1 bg1 G1 fe2 mem2 bg2 G4 G5 G2 sp G3 CM fe3) (h3 : fe3 ≤ 65536) (had : ∀ x, G3.2.1 x ≤ 2 ^ 39) : hRm T tO tb dr xs (sta tb dr on R) ll B G3.2.1 (seg3 (upN fe0 16) (upN fe1 16) (upN fe2 16)) (seg3 bg0 bg1 bg2) sp G1.1 := by
  obtain ⟨hT, hl, hnd, hZ⟩ := hY
  obtain ⟨l1, l2, l3, l4, l5, l6, l7, l8, l9, l10, l11, l12, l13, l14, l15, l16, l17⟩ := hL
  have u0 := upN_le (v := fe0) (a := 16) (by decide)
  have u1 := upN_le (v := fe1) (a := 16) (by decide)
  have u2 := upN_le (v := fe2) (a := 16) (by decide)
  have mo01 : fe0 ≤ fe1 := by rw [l4]; split <;> omega
  have mo12 : fe1 ≤ fe2 := by rw [l8]; split <;> omega
  have mo23 : fe2 ≤ fe3 := by rw [l17]; split <;> omega
  have thx_t : ∀ x, x ∈ ll → 0 < zS tb x → th (sgO (oG (tb (x / 24)) (x % 24))) = true := fun x hx hz => by
    rw [hth]
    unfold thS
    rw [show ll.any (thx tb (sgO (oG (tb (x / 24)) (x % 24)))) = true from List.any_eq_true.mpr ⟨x, hx, by unfold thx; rw [decide_eq_true rfl, decide_eq_true hz]; rfl⟩, Bool.true_or]
  have m4 := pgs_m (g := 4) (th := th 2) ll (bg2, psF B (pf0 B tO tb ll) tO tb G1.1 G1.2.1, none) hZ
  rw [← l11] at m4
  have m41 : bg2 ≤ G4.1 := m4.1
  have m2 := pgs_m (g := 2) (th := th 2) ll (G4.1, G5.2.1, none) hZ
  rw [← l13] at m2
  have m21 : G4.1 ≤ G2.1 := m2.1
  have hsp : G2.1 ≤ sp := by
    rw [l14]
    split
    · exact (upN_le (v := G2.1) (a := 8) (by decide)).1
    · exact Nat.le_refl _
  have m1 := pgs_m (g := 1) (th := th 1) ll (bg1, G0.2.1, none) hZ
  rw [← l7] at m1
  have m11 : bg1 ≤ G1.1 := m1.1
  refine ⟨fun x hx hs c3 c5 hz => ?_, had, fun s => ?_, fun hp => ?_, fun hp => ?_, fun x hx => (hZ x hx).1⟩
  · have hG : oG (tb (x / 24)) (x % 24) ≤ 5 := by unfold oG; repeat (first | omega | split)
    have ht := thx_t x hx hz
    -- the last groups leave the others alone
    have e3 : G3.2.1 x = G2.2.1 x := by rw [l15]; exact pgs_out (cnd_ng c3) ll _
    have e25 : oG (tb (x / 24)) (x % 24) ≠ 2 → G3.2.1 x = G5.2.1 x := fun q => by rw [e3, l13]; exact pgs_out (cnd_ng q) ll _
    have e5 : G5.2.1 x = G4.2.1 x := by rw [l12]; exact pgs_out (cnd_ng c5) ll _
    have e4 : oG (tb (x / 24)) (x % 24) ≠ 4 → G4.2.1 x = G1.2.1 x := fun q => by
      rw [l11, pgs_out (cnd_ng q) ll _]
      show psF B (pf0 B tO tb ll) tO tb G1.1 G1.2.1 x = _
      unfold psF
      rw [hs, if_neg (by decide)]
    by_cases g0 : oG (tb (x / 24)) (x % 24) = 0
    · have e1 : G1.2.1 x = G0.2.1 x := by rw [l7]; exact pgs_out (cnd_ng (by omega)) ll _
      have hin := pgs_in (th := th 0) (cnd_g g0 hs) ll (bg0, (fun _ => 0), none) hnd hZ hx
      rw [← l3] at hin
      have hin1 : bg0 ≤ G0.2.1 x := hin.1
      have es : sgO (oG (tb (x / 24)) (x % 24)) = 0 := by rw [g0]; rfl
      rw [es] at ht ⊢
      rw [if_pos ht] at l4
      show bg0 ≤ G3.2.1 x ∧ upN fe0 16 + (G3.2.1 x + zS tb x - bg0) ≤ 65536
      rw [e25 (by omega), e5, e4 (by omega), e1]
      omega
    by_cases g1 : oG (tb (x / 24)) (x % 24) = 1
    · have hin := pgs_in (th := th 1) (cnd_g g1 hs) ll (bg1, G0.2.1, none) hnd hZ hx
      rw [← l7] at hin
      have hin1 : bg1 ≤ G1.2.1 x := hin.1
      have es : sgO (oG (tb (x / 24)) (x % 24)) = 1 := by rw [g1]; rfl
      rw [es] at ht ⊢
      rw [if_pos ht] at l8
      show bg1 ≤ G3.2.1 x ∧ upN fe1 16 + (G3.2.1 x + zS tb x - bg1) ≤ 65536
      rw [e25 (by omega), e5, e4 (by omega)]
      omega
    have es : sgO (oG (tb (x / 24)) (x % 24)) = 2 := by unfold sgO; rw [if_neg (by omega)]
    rw [es] at ht ⊢
    rw [if_pos ht] at l17
    show bg2 ≤ G3.2.1 x ∧ upN fe2 16 + (G3.2.1 x + zS tb x - bg2) ≤ 65536
    by_cases g2 : oG (tb (x / 24)) (x % 24) = 2
    · have hin := pgs_in (th := th 2) (cnd_g g2 hs) ll (G4.1, G5.2.1, none) hnd hZ hx
      rw [← l13] at hin
      have hin1 : G4.1 ≤ G2.2.1 x := hin.1
      rw [e3]
      omega
    · have g4 : oG (tb (x / 24)) (x % 24) = 4 := by omega
      have hin := pgs_in (th := th 2) (cnd_g g4 hs) ll (bg2, psF B (pf0 B tO tb ll) tO tb G1.1 G1.2.1, none) hnd hZ hx
      rw [← l11] at hin
      have hin1 : bg2 ≤ G4.2.1 x := hin.1
      rw [e25 g2, e5]
      omega
  · have hf0 : upN fe0 16 ≤ 2 ^ 39 ∧ upN fe1 16 ≤ 2 ^ 39 ∧ upN fe2 16 ≤ 2 ^ 39 := by omega
    unfold seg3
    split
    · exact hf0.1
    · split
      · exact hf0.2.1
      · exact hf0.2.2
  · have hex : ∃ x, x ∈ ll ∧ sS tb x = true := Classical.byContradiction (fun q => by
      have e : pf0 B tO tb ll = [] := pf0_nil ll [] (fun x hx => by
        cases es : sS tb x with
        | false => rfl
        | true => exact absurd ⟨x, hx, es⟩ q)
      rw [e] at hp
      exact absurd hp (by show ¬ 0 < 0; omega))
    obtain ⟨x, hx, es⟩ := hex
    have ht := thx_t x hx (sS_z es)
    rw [sS_g es] at ht
    have ht : th 1 = true := ht
    rw [if_pos ht] at l8
    show bg1 ≤ G1.1 ∧ upN fe1 16 + (G1.1 - bg1) + psz B (pf0 B tO tb ll) ≤ 65536
    omega
  · rw [← hns] at hp ⊢
    have ht : th 2 = true := by
      rw [hth]
      unfold thS
      rw [decide_eq_true rfl, decide_eq_true hp, Bool.or_true, Bool.true_and, Bool.or_true]
    rw [if_pos ht] at l17
    show bg2 ≤ sp ∧ upN fe2 16 + (sp - bg2) + 8 * ns ≤ 65536
    omega
end MRM
