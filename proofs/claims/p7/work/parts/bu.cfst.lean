/-! firstOf of the class; the commons' alignments -/
section CFO
variable {F : Nat} {c : px_CT} {sk : Nat → Nat × Nat × Nat} {L : Nat} {τ : px_TT} {own : Nat → Nat × Nat} {fs : px_FS} {s : px_TK} {xs : px_NL} {ST rn : Nat → Bool} {ll : List Nat} {g : Nat}
theorem k_fo_2 {p : Nat → Bool} (hp : ∀ x, x ∈ ll → (p x = true ↔ oG (tB fs s.2.2.1 (x / 24)) (x % 24) = g)) (hk : STk fs s ST) (hl : llS2 s ST ll) (hg : g < 6) (h : TKe sk L own τ fs s xs ST rn) (ho : COr τ ll) : ∀ (d P f : Nat), P + d = ll.length → d < f → f_Layout_firstOf_2 F c f 1700 (nI g) (nI P) (cH sk L τ) = some (((ll.drop P).find? p).map (fun x => 152 + x), cH sk L τ) := by
  have hl1 := hl.1
  have hS := h.1
  have hR := h.2.1
  have o := G1700 hS
  intro d
  induction d with
  | zero =>
    intro P f hP hf
    obtain ⟨f, rfl⟩ : ∃ x, f = x + 1 := ⟨f - 1, by omega⟩
    unfold f_Layout_firstOf_2 f_Layout_firstOf_34
    rw [C2g11 o, bs, ho.1, if_pos (nI_le (by omega) (by omega)), List.drop_of_length_le (by omega)]
    rfl
  | succ d ih =>
    intro P f hP hf
    obtain ⟨f, rfl⟩ : ∃ x, f = x + 1 := ⟨f - 1, by omega⟩
    have hPl : P < ll.length := by omega
    have hx := List.getElem?_eq_getElem hPl
    have hdr : ll.drop P = ll[P] :: ll.drop (P + 1) := List.drop_eq_getElem_cons hPl
    generalize ll[P] = x at hx hdr
    have hpx := hp x (List.mem_of_getElem? hx)
    obtain ⟨hxT, hxS⟩ := hl.2 x (List.mem_of_getElem? hx)
    obtain ⟨p1, p2, p3, p4⟩ := TKe_part h hxT
    obtain ⟨t4, t5, t6, t7, t10, tS⟩ := TKe_pt h hk hxT hxS
    have hg16 : oG (tB fs s.2.2.1 (x / 24)) (x % 24) < 6 := by unfold oG; repeat (first | omega | split)
    generalize oG (tB fs s.2.2.1 (x / 24)) (x % 24) = g1 at t4 hg16 hpx
    have kpa := k_partAt (F := F) (c := c) hS hR ho hl1 hx
    unfold f_Layout_firstOf_2 f_Layout_firstOf_22
    rw [C2g11 o, bs, ho.1, if_neg (nI_ge hPl (by omega)), c_o o, bs, kpa, xb_mk, bs, C8g4 p1, bs, t4, hdr, List.find?_cons]
    by_cases cg : g1 = g
    · rw [if_pos (by rw [cg]), hpx.mpr cg, c_o o, bs, kpa, xb_mk]
      rfl
    · have hf : p x = false := Bool.eq_false_iff.mpr (fun w => cg (hpx.mp w))
      rw [if_neg (show ¬ nI g1 = nI g from fun w => cg ((nI_eq (by omega) (by omega)).mp w)), hf, nI_add]
      exact ih (P + 1) f (by omega) (by omega)
theorem k_firstOf {p : Nat → Bool} (hp : ∀ x, x ∈ ll → (p x = true ↔ oG (tB fs s.2.2.1 (x / 24)) (x % 24) = g)) (hF : 65536 < F) (hk : STk fs s ST) (hl : llS2 s ST ll) (hg : g < 6) (h : TKe sk L own τ fs s xs ST rn) (ho : COr τ ll) : f_Layout_firstOf F c 1700 (nI g) (cH sk L τ) = some ((ll.find? p).map (fun x => 152 + x), cH sk L τ) := by
  have hl1 := hl.1
  exact k_fo_2 hp hk hl hg h ho ll.length 0 F (Nat.zero_add _) (by omega)
/-- a common's alignment is a power of two -/
def cmQ (x : List Nat × px_NR) : Prop := x.2.1 = 2 → isP x.2.2.2.2.2.2.2 = true
theorem cmQ_tk (dr : Nat → Bool) (t : Nat) (b : Nat → Nat) (k : Nat) (s : px_TS) (hy : yOK b k = true) (h : AL cmQ s.2.1) : AL cmQ (tk1 dr t b k s).2.1 := by
  by_cases cB : yB b k = 0
  · have e : tk1 dr t b k s = s := by unfold tk1; rw [if_pos cB]
    rw [e]; exact h
  have hE : AL cmQ (entL (yT b k) s.2.1) := AL_ent h (fun q => nomatch q)
  have hv : sOf dr t b k = 2 → isP (yV b k) = true := fun e => (((of_decide_eq_true hy).2.2.2 cB).2.2 (sOf_2 e)).1
  have h1 : ∀ i, AL cmQ (setR (entL (yT b k) s.2.1) i (fun r => (r.1, (r.2.1 || decide (yB b k = 1)), r.2.2))) := fun i => AL_setR hE (fun x hx q => hE i x hx q)
  have h2 : ∀ i, AL cmQ (setR (entL (yT b k) s.2.1) i (cmS (sOf dr t b k) t k (yZ b k) (yV b k))) := fun i => AL_setR hE (fun x hx q => by
    have q : (cmS (sOf dr t b k) t k (yZ b k) (yV b k) x.2).1 = 2 := q
    show isP (cmS (sOf dr t b k) t k (yZ b k) (yV b k) x.2).2.2.2.2.2.2 = true
    have hx1 := hE i x hx
    generalize sOf dr t b k = S at *
    generalize yZ b k = z at *
    generalize yV b k = v at *
    unfold cmS at q ⊢
    by_cases c1 : x.2.1 < S
    · rw [if_pos c1] at q ⊢
      have q : S = 2 := q
      show isP (if S = 2 then v else 0) = true
      rw [if_pos q]; exact hv q
    · rw [if_neg c1] at q ⊢
      by_cases c2 : S = 2 ∧ x.2.1 = 2
      · rw [if_pos c2] at q ⊢
        show isP (if v ≤ x.2.2.2.2.2.2.2 then x.2.2.2.2.2.2.2 else v) = true
        by_cases c3 : v ≤ x.2.2.2.2.2.2.2
        · rw [if_pos c3]; exact hx1 c2.2
        · rw [if_neg c3]; exact hv c2.1
      · rw [if_neg c2] at q ⊢
        exact hx1 q)
  rw [tk1_G]
  generalize sOf dr t b k = S at *
  generalize yT b k = Y at *
  generalize cmS S t k (yZ b k) (yV b k) = g at *
  generalize hf : (fun r : px_NR => (r.1, (r.2.1 || decide (yB b k = 1)), r.2.2)) = f0 at *
  generalize yB b k = B at *
  unfold tkG
  by_cases c0 : B = 0
  · rw [if_pos c0]; exact h
  · rw [if_neg c0]
    by_cases c1 : s.1 = 1
    · rw [if_pos c1]; exact hE
    · rw [if_neg c1]
      have hc : AL cmQ (comG S Y f0 g (s.2.1, s.2.2.1)).2.1 := by
        unfold comG
        by_cases d1 : S = 0
        · rw [if_pos d1]; exact h1 _
        · rw [if_neg d1]
          split
          · exact hE
          · exact h2 _
      split
      · exact hc
      · exact hc
theorem cmQ_0 {od : List Nat} (hf : FSo fs) (h : ST0 xs od) : AL cmQ (ownL (taL fs xs od).1.2.1) := by
  have h1 : AL cmQ (taL fs xs od).1.2.1 := TK_inv (P := fun s => AL cmQ s.2.1) cmQ_tk hf (fun i x hx q => by
    have := (h.1 i x hx).2.1.2
    have q : x.2.1 = 2 := q
    omega)
  exact AL_own (fun k _ x _ _ q => nomatch q) h1
end CFO
