/-! how many bytes the link's file has -/
section CSZ
theorem wP1_z {n : Nat} {b : Int32} {w : px_FW} (h : w.1 < n) : (wP1 n b w).1 = w.1 + 1 := by
  unfold wP1
  rw [if_neg (by omega)]
theorem wPi_z {n : Nat} {v : Int64} : ∀ (k j : Nat) (w : px_FW), w.1 + k ≤ n → (itr (fun j => wP1 n (bV v j)) j k w).1 = w.1 + k := by
  intro k
  induction k with
  | zero => intro j w _; rw [itr_0]; rfl
  | succ k ih =>
    intro j w h
    have h1 := wP1_z (n := n) (b := bV v j) (w := w) (by omega)
    rw [itr_s, ih (j + 1) _ (by rw [h1]; omega), h1]
    omega
theorem wPut_z {n k : Nat} {v : Int64} {w : px_FW} (h : w.1 + k ≤ n) : (wPut n k v w).1 = w.1 + k := wPi_z k 0 w h
theorem itr_z {g : Nat → px_FW → px_FW} (hg : ∀ i w, (g i w).1 = w.1) : ∀ (d i : Nat) (w : px_FW), (itr g i d w).1 = w.1 := by
  intro d
  induction d with
  | zero => intro i w; rw [itr_0]
  | succ d ih => intro i w; rw [itr_s, ih, hg]
theorem wS1_z {p b : Int32} {w : px_FW} : (wS1 p b w).1 = w.1 := by
  unfold wS1
  split
  · rfl
  · split <;> rfl
theorem wSet_z {p : Int32} {k : Nat} {v : Int64} {w : px_FW} : (wSet p k v w).1 = w.1 := itr_z (fun _ _ => wS1_z) k 0 w
theorem wCov_z {S : Nat → Int32} {N : Nat} {p q m : Int32} {w : px_FW} : (wCov S N p q m w).1 = w.1 := by
  unfold wCov
  split
  · rfl
  · split
    · rfl
    · split
      · rfl
      · split <;> rfl
theorem wFil_z {e : Nat} {b : Int32} {w : px_FW} (h : w.1 ≤ e) : (wFil e b w).1 = e := by
  unfold wFil
  split
  · omega
  · rfl
theorem pT_z : ∀ (l : List (Nat × Int64)) (w : px_FW), w.1 + (l.map Prod.fst).sum ≤ 65536 → (pT l w).1 = w.1 + (l.map Prod.fst).sum
  | [], w, _ => by rw [pT_n]; rfl
  | (k, v) :: l, w, h => by
    rw [List.map_cons, List.sum_cons] at h ⊢
    have h1 := wPut_z (n := 65536) (k := k) (v := v) (w := w) (by omega)
    rw [pT_c, pT_z l _ (by rw [h1]; omega), h1]
    omega
theorem pu_z {f : Nat → Int64} : ∀ (d i : Nat) (w : px_FW), w.1 + d ≤ 65536 → (itr (fun i => wPut 65536 1 (f i)) i d w).1 = w.1 + d := by
  intro d
  induction d with
  | zero => intro i w _; rw [itr_0]; rfl
  | succ d ih =>
    intro i w h
    have h1 := wPut_z (n := 65536) (k := 1) (v := f i) (w := w) (by omega)
    rw [itr_s, ih (i + 1) _ (by rw [h1]; omega), h1]
    omega
theorem hdW_z {v : Int64} {sg b : Int32} {g : Nat → Int32} : (hdW v sg b (0, g)).1 = 64 := by
  unfold hdW
  have e1 := pu_z (f := fun i => (nI ([127, 69, 76, 70, 2, 1, 1].getD i 0)).toInt64) 7 0 (0, g) (by show 0 + 7 ≤ 65536; decide)
  have e1 : (itr (fun i => wPut 65536 1 ((nI ([127, 69, 76, 70, 2, 1, 1].getD i 0)).toInt64)) 0 7 (0, g)).1 = 7 := e1
  generalize itr (fun i => wPut 65536 1 ((nI ([127, 69, 76, 70, 2, 1, 1].getD i 0)).toInt64)) 0 7 (0, g) = w1 at *
  have e2 := wFil_z (e := 16) (b := (nI 0).toInt8.toInt32.toInt8.toInt32) (w := w1) (by omega)
  generalize wFil 16 (nI 0).toInt8.toInt32.toInt8.toInt32 w1 = w2 at *
  have s3 : (([(2, (2 : Int64)), (2, (62 : Int64)), (4, lN 1)] : List (Nat × Int64)).map Prod.fst).sum = 8 := rfl
  have e3 := pT_z [(2, (2 : Int64)), (2, (62 : Int64)), (4, lN 1)] w2 (by rw [s3]; omega)
  rw [s3] at e3
  generalize pT [(2, (2 : Int64)), (2, (62 : Int64)), (4, lN 1)] w2 = w3 at *
  have s4 : ((hdL v sg b).map Prod.fst).sum = 40 := rfl
  have e4 := pT_z (hdL v sg b) w3 (by rw [s4]; omega)
  rw [s4] at e4
  omega
theorem rwL_z {τ : px_TT} {a b : Int32} {j : Nat} {v : Int64} {w : px_FW} (h : w.1 + 56 ≤ 65536) : (pT (rwL τ a b j v) w).1 = w.1 + 56 := by
  have s4 : ((rwL τ a b j v).map Prod.fst).sum = 56 := rfl
  have e4 := pT_z (rwL τ a b j v) w (by rw [s4]; exact h)
  rw [s4] at e4
  exact e4
theorem rsW_z {τ : px_TT} {j : Nat} {t : Bool} {w : px_FW} (e : eI τ 1703 j = bI t) (h : w.1 + 56 ≤ 65536) : (rsW τ j w).1 = w.1 + (if t = true then 56 else 0) := by
  unfold rsW
  rw [e]
  cases t with
  | false => rw [if_pos (show bI false = 0 from rfl), if_neg (by decide)]; rfl
  | true => rw [if_neg (show ¬ bI true = 0 by decide), if_pos rfl, rwL_z h]
theorem tmW_z {τ : px_TT} {t : Bool} {w : px_FW} (e : eI τ 1703 3 = bI t) (h : w.1 + 56 ≤ 65536) : (tmW τ w).1 = w.1 + (if t = true then 56 else 0) := by
  unfold tmW
  rw [e]
  cases t with
  | false => rw [if_pos (show bI false = 0 from rfl), if_neg (by decide)]; rfl
  | true => rw [if_neg (show ¬ bI true = 0 by decide), if_pos rfl, rwL_z h]
theorem if56 (t : Bool) : ∃ n : Nat, n ≤ 1 ∧ (if t = true then (1 : Nat) else 0) = n ∧ (if t = true then (56 : Nat) else 0) = 56 * n := by
  cases t with
  | false => exact ⟨0, by decide, rfl, rfl⟩
  | true => exact ⟨1, by decide, rfl, rfl⟩
theorem rs3_z {τ : px_TT} {th : Nat → Bool} {w : px_FW} (e : ∀ j, j < 3 → eI τ 1703 j = bI (th j)) (h : w.1 = 64) : (itr (rsW τ) 0 3 w).1 = 64 + 56 * sgN th 3 := by
  obtain ⟨n0, l0, a0, c0⟩ := if56 (th 0)
  obtain ⟨n1, l1, a1, c1⟩ := if56 (th 1)
  obtain ⟨n2, l2, a2, c2⟩ := if56 (th 2)
  have hs : sgN th 3 = 0 + (if th 0 = true then 1 else 0) + (if th 1 = true then 1 else 0) + (if th 2 = true then 1 else 0) := rfl
  rw [a0, a1, a2] at hs
  rw [itr_s, itr_s, itr_s, itr_0]
  have e0 := rsW_z (w := w) (e 0 (by decide)) (by omega)
  rw [c0] at e0
  generalize rsW τ 0 w = w0 at *
  have e1 := rsW_z (w := w0) (e 1 (by decide)) (by omega)
  rw [c1] at e1
  have e1 : (rsW τ (0 + 1) w0).1 = w0.1 + 56 * n1 := e1
  generalize rsW τ (0 + 1) w0 = w1 at *
  have e2 := rsW_z (w := w1) (e 2 (by decide)) (by omega)
  rw [c2] at e2
  have e2 : (rsW τ (0 + 1 + 1) w1).1 = w1.1 + 56 * n2 := e2
  rw [e2, hs]
  omega
theorem foldl_z {f : px_FW → Nat → px_FW} (hf : ∀ w x, (f w x).1 = w.1) : ∀ (l : List Nat) (w : px_FW), (l.foldl f w).1 = w.1
  | [], _ => rfl
  | x :: l, w => by rw [List.foldl_cons, foldl_z hf l, hf]
theorem seW_z {τ : px_TT} {fs : px_FS} {s : px_TK} {w : px_FW} {x : Nat} : (seW τ fs s w x).1 = w.1 := by
  unfold seW
  split
  · rfl
  · split
    · rfl
    · split
      · exact wCov_z
      · rfl
theorem plW_z {S P Lg : Nat → Int32} : ∀ (d k : Nat) (p : Int32) (w : px_FW), (plW S P Lg d k p w).1 = w.1 := by
  intro d
  induction d with
  | zero => intro k p w; rw [plW_0]
  | succ d ih => intro k p w; rw [plW_s, ih, wCov_z]
theorem psW_z {τ : px_TT} {SY : Nat → Nat → Int64} {tp : Nat} {sl : List Nat} {np : Nat} {w : px_FW} : (psW τ SY tp sl np w).1 = w.1 := by
  unfold psW slW
  rw [itr_z (fun _ _ => wSet_z), plW_z]
/-- the file before its sites are filled -/
theorem wrW_z {τ : px_TT} {fs : px_FS} {s : px_TK} {v : Int64} {SY : Nat → Nat → Int64} {tp fe3 : Nat} {ll sl : List Nat} {np : Nat} {g : Nat → Int32} {sg : Nat} {th : Nat → Bool} {t : Bool} (e : ∀ j, j < 3 → eI τ 1703 j = bI (th j)) (e3 : eI τ 1703 3 = bI t) (h : 64 + 56 * sgN th 3 + (if t = true then 56 else 0) ≤ fe3) : (wrW τ fs s v sg SY tp fe3 ll sl np g).1 = fe3 := by
  unfold wrW
  rw [psW_z, foldl_z (fun _ _ => seW_z)]
  have h1 := hdW_z (v := v) (sg := nI sg) (b := if eI τ 1703 3 = 0 then nI 0 else nI 1) (g := g)
  generalize hdW v (nI sg) (if eI τ 1703 3 = 0 then nI 0 else nI 1) (0, g) = w1 at *
  have h2 := rs3_z e h1
  generalize itr (rsW τ) 0 3 w1 = w2 at *
  have hs := sgN_le (th := th) 3
  have h3 := tmW_z (w := w2) e3 (by omega)
  rw [h2] at h3
  generalize tmW τ w2 = w3 at *
  exact wFil_z (by rw [h3]; exact h)
theorem siW_z {p : Int32} {H Lv K : Nat} {v : Int64} {y : px_FW} : (siW p H Lv K v y).1 = y.1 := by
  unfold siW
  split
  · rfl
  · split
    · exact wSet_z
    · unfold shW
      split
      · rw [wSet_z, wSet_z, wSet_z]
      · split
        · rw [wSet_z, wSet_z]
        · rw [wSet_z, wSet_z]
theorem siJ_z {τ : px_TT} {fs : px_FS} {s : px_TK} {xs : px_NL} {SV : Nat → Nat → Nat → Int64} {t i j : Nat} {y : px_FW} : (siJ τ fs s xs SV t i j y).1 = y.1 := by
  unfold siJ
  rw [siW_z]
theorem siI_z {τ : px_TT} {fs : px_FS} {s : px_TK} {xs : px_NL} {ST : Nat → Bool} {SV : Nat → Nat → Nat → Int64} {t i : Nat} {y : px_FW} : (siI τ fs s xs ST SV t i y).1 = y.1 := by
  unfold siI
  split
  · exact itr_z (g := siJ τ fs s xs SV t i) (fun j w => siJ_z) (sN (tB fs s.2.2.1 t) i) 0 y
  · rfl
theorem siT1_z {τ : px_TT} {fs : px_FS} {s : px_TK} {xs : px_NL} {ST : Nat → Bool} {SV : Nat → Nat → Nat → Int64} {t : Nat} {y : px_FW} : (siT τ fs s xs ST SV t y).1 = y.1 := by
  unfold siT
  exact itr_z (g := siI τ fs s xs ST SV t) (fun j w => siI_z) (oS (tB fs s.2.2.1 t)) 0 y
theorem siT_z {τ : px_TT} {fs : px_FS} {s : px_TK} {xs : px_NL} {ST : Nat → Bool} {SV : Nat → Nat → Nat → Int64} {d i : Nat} {y : px_FW} : (itr (siT τ fs s xs ST SV) i d y).1 = y.1 := itr_z (g := siT τ fs s xs ST SV) (fun j w => siT1_z) d i y
theorem if4 {b : Bool} {a : Nat} (e : a = if b = true then 4 else 0) (h : a = 0) : b = false := by
  cases b with
  | false => rfl
  | true => rw [if_pos rfl] at e; omega
end CSZ
