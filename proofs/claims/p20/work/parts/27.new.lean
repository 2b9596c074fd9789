/-! the two objects are made, by the function -/
noncomputable section
def fz_M (z : px_Sz) : px_Sz := (px_ts z.1 z.2.1 (.inr (12, px_nf 12 (pg_nf 12))), z.2.1 + 1, z.2.2.1 - 1, z.2.2.2 - pg_in 12)
def fz_A (z : px_Sz) : px_Sz := (px_ts z.1 z.2.1 (.inl (2, 1, .inr (.inl (fun _ => 0)))), z.2.1 + 1, z.2.2.1 - 1, z.2.2.2 - 1)
def fz_ok (z : px_Sz) (n : Nat) : Bool := px_tin z.1 z.2.1 && (Nat.blt 0 z.2.2.1 && Nat.ble n z.2.2.2)
/-- the heap behind the two constructors and the row of one long; the places of the reference and of the row -/
def fz_O (n1 n3 : Nat) : Option (px_Sz × Nat × Nat) := match px_ex n1 40 m_H_init (pg_ml m_H_init) (pg_L m_H_init) (px_en [.ref 0] (pg_ml m_H_init)) [] px_z0 with
  | some (.inl none, z1) => if fz_ok z1 (pg_in 12) then (match px_ex n3 40 m_M_init (pg_ml m_M_init) (pg_L m_M_init) (px_en [.ref z1.2.1] (pg_ml m_M_init)) [] (fz_M z1) with
    | some (.inl none, z3) => if fz_ok z3 1 then some (fz_A z3, z1.2.1, z3.2.1) else none
    | _ => none) else none
  | _ => none
def fz (n1 n3 : Nat) (f : px_Sz → Nat → Nat → Bool) : Bool := match fz_O n1 n3 with
  | some (z, m, o) => f z m o
  | none => false
end
theorem px_rep {α : Type} (n : Nat) (x d : α) (i : Nat) : (List.replicate n x).getD i d = x ∨ (List.replicate n x).getD i d = d := by
  rw [List.getD_eq_getElem?_getD, List.getElem?_replicate]
  split
  · exact Or.inl rfl
  · exact Or.inr rfl
theorem px_t0_none (k : Nat) : px_tg px_t0 k = none := by
  rw [px_tg_eq]
  unfold px_t0
  rcases px_rep 16 (List.replicate 16 (List.replicate 16 (none : Option px_PE))) [] (k / 256) with e | e
  · rw [e]
    rcases px_rep 16 (List.replicate 16 (none : Option px_PE)) [] (k / 16 % 16) with e | e
    · rw [e]
      rcases px_rep 16 (none : Option px_PE) none (k % 16) with e | e <;> exact e
    · rw [e]; rfl
  · rw [e]; rfl
theorem px_Rz0 : px_Rz px_z0 [.inr (0, px_nf 0 (pg_nf 0))] := by
  have h : px_Rz (px_t0, 0, 600001, 7200000 + pg_in 0) [] := ⟨fun k => by rw [px_t0_none]; rfl, rfl, by decide, by decide⟩
  exact h.push (e := .inr (0, px_nf 0 (pg_nf 0))) (n := pg_in 0) (by decide +kernel) (by decide) (by decide) rfl
theorem fz_ok_of {z : px_Sz} {n : Nat} (h : fz_ok z n = true) : px_tin z.1 z.2.1 = true ∧ 0 < z.2.2.1 ∧ n ≤ z.2.2.2 := by
  simp only [fz_ok, Bool.and_eq_true] at h
  exact ⟨h.1, Nat.le_of_ble_eq_true h.2.1, Nat.le_of_ble_eq_true h.2.2⟩
theorem fz_of {n1 n3 : Nat} {f : px_Sz → Nat → Nat → Bool} (h : fz n1 n3 f = true) : ∃ z m o, fz_O n1 n3 = some (z, m, o) ∧ f z m o = true := by
  unfold fz at h
  split at h
  · rename_i z m o hz
    exact ⟨z, m, o, hz, h⟩
  · cases h
theorem fz_at {n1 n3 : Nat} {f : px_Sz → Nat → Nat → Bool} {z : px_Sz} {m o : Nat} (h : fz n1 n3 f = true) (hz : fz_O n1 n3 = some (z, m, o)) : f z m o = true := by
  unfold fz at h
  rw [hz] at h
  exact h
theorem fz_spec {n1 n3 : Nat} {z : px_Sz} {m o : Nat} (hz : fz_O n1 n3 = some (z, m, o)) : ∃ z1 z3, px_ex n1 40 m_H_init (pg_ml m_H_init) (pg_L m_H_init) (px_en [.ref 0] (pg_ml m_H_init)) [] px_z0 = some (.inl none, z1) ∧ fz_ok z1 (pg_in 12) = true ∧ px_ex n3 40 m_M_init (pg_ml m_M_init) (pg_L m_M_init) (px_en [.ref z1.2.1] (pg_ml m_M_init)) [] (fz_M z1) = some (.inl none, z3) ∧ fz_ok z3 1 = true ∧ z = fz_A z3 ∧ m = z1.2.1 ∧ o = z3.2.1 := by
  unfold fz_O at hz
  split at hz
  · rename_i z1 h1
    split at hz
    · rename_i ok1
      split at hz
      · rename_i z3 h3
        split at hz
        · rename_i ok3
          simp only [Option.some.injEq, Prod.mk.injEq] at hz
          exact ⟨z1, z3, h1, ok1, h3, ok3, hz.1.symm, hz.2.1.symm, hz.2.2.symm⟩
        · cases hz
      · cases hz
    · cases hz
  · cases hz
section NEW
variable {l : Launch} {g : px_G} {d m o : Nat} {Q : px_Q} {z z1 z3 : px_Sz}
set_option maxRecDepth 20000 in
set_option maxHeartbeats 2000000 in
theorem law_new1 {n1 n3 : Nat} (hfl : l.flags = flags0) (hgk : px_gk g) (h1 : px_ex n1 40 m_H_init (pg_ml m_H_init) (pg_L m_H_init) (px_en [.ref 0] (pg_ml m_H_init)) [] px_z0 = some (.inl none, z1)) (ok1 : fz_ok z1 (pg_in 12) = true)
    (h3 : px_ex n3 40 m_M_init (pg_ml m_M_init) (pg_L m_M_init) (px_en [.ref z1.2.1] (pg_ml m_M_init)) [] (fz_M z1) = some (.inl none, z3)) (ok3 : fz_ok z3 1 = true)
    (kk : ∀ ph, px_Rz (fz_A z3) ph → PW l g (d + 41) m_L_law 23 [.retAddr 0, .ref 0, .ref z1.2.1, .ref z3.2.1, .int (nI 0), px_u, px_u, px_u] [] ph Q) :
    PW l g (d + 41) m_L_law 0 [.retAddr 0, px_u, px_u, px_u, px_u, px_u, px_u, px_u] [] [] Q := by
  obtain ⟨a1, a2, a3⟩ := fz_ok_of ok1
  obtain ⟨b1, b2, b3⟩ := fz_ok_of ok3
  refine px_new rfl (pg_clb (show 0 < 16 by decide)) (by decide) (by decide) rfl ?_
  refine px_alu rfl rfl rfl ?_
  refine px_callI (As := []) (st := [.ref 0]) (a := 0) (d := d + 40) rfl rfl rfl rfl rfl rfl (px_ev hfl hgk h1 px_Rz0 (by omega) rfl) (fun _ _ q => nomatch q.1) rfl (fun r ph q => ?_)
  obtain ⟨q1, hR⟩ := q
  cases q1
  have hr := hR
  obtain ⟨r1, r2, r3, r4⟩ := hr
  refine px_st (lv' := [_, _, _, _, _, _, _, _]) rfl rfl rfl rfl rfl rfl rfl ?_
  refine px_new rfl (pg_clb (show 12 < 16 by decide)) (by omega) (by omega) rfl ?_
  rw [r2]
  refine px_alu rfl rfl rfl ?_
  refine px_callI (As := []) (st := [.ref z1.2.1]) (a := z1.2.1) (d := d + 40) rfl rfl rfl rfl rfl rfl (px_ev hfl hgk h3 (hR.push a1 a2 a3 rfl) (by omega) rfl) (fun _ _ q => nomatch q.1) rfl (fun r ph q => ?_)
  obtain ⟨q1, hR3⟩ := q
  cases q1
  have hr3 := hR3
  obtain ⟨s1, s2, s3, s4⟩ := hr3
  refine px_st (lv' := [_, _, _, _, _, _, _, _]) rfl rfl rfl rfl rfl rfl rfl ?_
  refine px_alu rfl rfl rfl ?_
  refine px_newL (N := 1) rfl rfl (by decide) (by decide) (by decide) (by omega) (by omega) rfl ?_
  rw [s2]
  refine px_st (lv' := [_, _, _, _, _, _, _, _]) rfl rfl rfl rfl rfl rfl rfl ?_
  refine px_alu rfl rfl rfl ?_
  refine px_st (lv' := [_, _, _, _, _, _, _, _]) rfl rfl rfl rfl rfl rfl rfl ?_
  exact kk _ (hR3.push b1 b2 b3 rfl)
theorem law_new {n1 n3 : Nat} (hfl : l.flags = flags0) (hgk : px_gk g) (hz : fz_O n1 n3 = some (z, m, o)) (kk : ∀ ph, px_Rz z ph → PW l g (d + 41) m_L_law 23 [.retAddr 0, .ref 0, .ref m, .ref o, .int (nI 0), px_u, px_u, px_u] [] ph Q) :
    PW l g (d + 41) m_L_law 0 [.retAddr 0, px_u, px_u, px_u, px_u, px_u, px_u, px_u] [] [] Q := by
  obtain ⟨z1, z3, h1, h2, h3, h4, rfl, rfl, rfl⟩ := fz_spec hz
  exact law_new1 hfl hgk h1 h2 h3 h4 kk
end NEW
