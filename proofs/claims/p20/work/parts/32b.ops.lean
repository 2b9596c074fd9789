/-! what may be null, constant tables, new objects, copies, Strings, switches -/
abbrev px_qN (r : Option Nat) (p : px_H) : px_Q := fun o ph' => ph' = p ∧ o = .inl (some (va_rf r))
abbrev px_CT : Type := Nat → FieldType × Nat × (Nat → Int32)
def xn : Option Value → Option (Option Nat)
  | some (.ref x) => some (some x)
  | some .null => some none
  | _ => none
theorem xn_some {v : Option Value} {x : Option Nat} (h : xn v = some x) : v = some (va_rf x) := by
  unfold xn at h
  split at h
  next => cases h; rfl
  next => cases h; rfl
  next => cases h
def xgN (ph : px_H) (ci k a : Nat) : Option (Option Nat) := (xo ph ci a).bind fun fs => xn fs[k]?
theorem xgN_some {ph : px_H} {ci k a : Nat} {x : Option Nat} (h : xgN ph ci k a = some x) : ∃ fs, ph[a]? = some (.inr (ci, fs)) ∧ fs[k]? = some (va_rf x) := by
  obtain ⟨fs, h1, h2⟩ := xs_some h
  exact ⟨fs, xo_some h1, xn_some h2⟩
def xpR (ph : px_H) (ci k a : Nat) (x : Nat) : Option px_H := xp ph ci k a (.ref x)
def xpN (ph : px_H) (ci k a : Nat) (x : Option Nat) : Option px_H := xp ph ci k a (va_rf x)
theorem xpR_some {ph p : px_H} {ci k a : Nat} {x : Nat} (h : xpR ph ci k a x = some p) : ∃ fs, ph[a]? = some (.inr (ci, fs)) ∧ Nat.blt k fs.length = true ∧ p = ph.set a (.inr (ci, fs.set k (.ref x))) := xp_some h
theorem xpN_some {ph p : px_H} {ci k a : Nat} {x : Option Nat} (h : xpN ph ci k a x = some p) : ∃ fs, ph[a]? = some (.inr (ci, fs)) ∧ Nat.blt k fs.length = true ∧ p = ph.set a (.inr (ci, fs.set k (va_rf x))) := xp_some h
/-- an array of references -/
def xN (ph : px_H) (t a : Nat) : Option (Nat × (Nat → Option Nat)) := match ph[a]? with
  | some (.inl (u, n, .inr (.inr (.inr (.inr f))))) => if u = t then some (n, f) else none
  | _ => none
theorem xN_some {ph : px_H} {t a : Nat} {q : Nat × (Nat → Option Nat)} (h : xN ph t a = some q) : ph[a]? = some (.inl (t, q.1, .inr (.inr (.inr (.inr q.2))))) := by
  unfold xN at h
  split at h
  next u n f hq =>
    by_cases hc : u = t
    · rw [if_pos hc] at h
      cases h
      rw [hq, hc]
    · rw [if_neg hc] at h
      cases h
  next => cases h
def xaN (ph : px_H) (t a : Nat) (i : Int32) : Option (Option Nat) := (xN ph t a).bind fun q => if i < 0 ∨ q.1 ≤ i.toNatClampNeg then none else some (q.2 i.toNatClampNeg)
theorem xaN_some {ph : px_H} {t a : Nat} {i : Int32} {x : Option Nat} (h : xaN ph t a i = some x) : ∃ N f, ph[a]? = some (.inl (t, N, .inr (.inr (.inr (.inr f))))) ∧ vp_in i N ∧ f i.toNatClampNeg = x := by
  obtain ⟨q, h1, h2⟩ := xs_some h
  by_cases hc : i < 0 ∨ q.1 ≤ i.toNatClampNeg
  · rw [if_pos hc] at h2
    cases h2
  · rw [if_neg hc] at h2
    cases h2
    exact ⟨q.1, q.2, xN_some h1, hc, rfl⟩
/-- what is stored is null, or an object of class ci -/
def xco (ph : px_H) (ci : Nat) : Option Nat → Bool
  | none => true
  | some w => (xo ph ci w).isSome
theorem xco_some {ph : px_H} {ci w : Nat} (h : xco ph ci (some w) = true) : ∃ fs, ph[w]? = some (.inr (ci, fs)) := by
  have h1 : (xo ph ci w).isSome = true := h
  obtain ⟨fs, h2⟩ := Option.isSome_iff_exists.mp h1
  exact ⟨fs, xo_some h2⟩
def xsO (ph : px_H) (t ci a : Nat) (i : Int32) (o : Option Nat) : Option px_H := (xN ph t a).bind fun q => if (i < 0 ∨ q.1 ≤ i.toNatClampNeg) ∨ xco ph ci o = false then none else some (ph.set a (.inl (t, q.1, .inr (.inr (.inr (.inr (va_up q.2 i.toNatClampNeg o)))))))
theorem xsO_some {ph p : px_H} {t ci a : Nat} {i : Int32} {o : Option Nat} (h : xsO ph t ci a i o = some p) : ∃ N f, ph[a]? = some (.inl (t, N, .inr (.inr (.inr (.inr f))))) ∧ vp_in i N ∧ p = ph.set a (.inl (t, N, .inr (.inr (.inr (.inr (va_up f i.toNatClampNeg o)))))) ∧ xco ph ci o = true := by
  obtain ⟨q, h1, h2⟩ := xs_some h
  by_cases hc : (i < 0 ∨ q.1 ≤ i.toNatClampNeg) ∨ xco ph ci o = false
  · rw [if_pos hc] at h2
    cases h2
  · rw [if_neg hc] at h2
    cases h2
    refine ⟨q.1, q.2, xN_some h1, fun h3 => hc (Or.inl h3), rfl, ?_⟩
    cases h4 : xco ph ci o with
    | true => rfl
    | false => exact absurd (Or.inr h4) hc
/-- constant tables -/
def ki_I : FieldType → Bool
  | .int => true
  | _ => false
def ki_B : FieldType → Bool
  | .byte => true
  | _ => false
theorem ki_I_eq {t : FieldType} (h : ki_I t = true) : t = .int := by
  cases t <;> first | rfl | cases h
theorem ki_B_eq {t : FieldType} (h : ki_B t = true) : t = .byte := by
  cases t <;> first | rfl | cases h
def xkI (c : px_CT) (j : Nat) (i : Int32) : Option Int32 := if (j < pg_nc ∧ ki_I (c j).1 = true) ∧ ¬ (i < 0 ∨ (c j).2.1 ≤ i.toNatClampNeg) then some ((c j).2.2 i.toNatClampNeg) else none
def xkB (c : px_CT) (j : Nat) (i : Int32) : Option Int32 := if (j < pg_nc ∧ ki_B (c j).1 = true) ∧ ¬ (i < 0 ∨ (c j).2.1 ≤ i.toNatClampNeg) then some ((c j).2.2 i.toNatClampNeg) else none
def xkl (c : px_CT) (j : Nat) : Option Int32 := if j < pg_nc then some (nI (c j).2.1) else none
theorem xkI_some {c : px_CT} {j : Nat} {i x : Int32} (h : xkI c j i = some x) : j < pg_nc ∧ (c j).1 = .int ∧ vp_in i (c j).2.1 ∧ x = (c j).2.2 i.toNatClampNeg := by
  unfold xkI at h
  by_cases hc : (j < pg_nc ∧ ki_I (c j).1 = true) ∧ ¬ (i < 0 ∨ (c j).2.1 ≤ i.toNatClampNeg)
  · rw [if_pos hc] at h
    cases h
    exact ⟨hc.1.1, ki_I_eq hc.1.2, hc.2, rfl⟩
  · rw [if_neg hc] at h
    cases h
theorem xkB_some {c : px_CT} {j : Nat} {i x : Int32} (h : xkB c j i = some x) : j < pg_nc ∧ (c j).1 = .byte ∧ vp_in i (c j).2.1 ∧ x = (c j).2.2 i.toNatClampNeg := by
  unfold xkB at h
  by_cases hc : (j < pg_nc ∧ ki_B (c j).1 = true) ∧ ¬ (i < 0 ∨ (c j).2.1 ≤ i.toNatClampNeg)
  · rw [if_pos hc] at h
    cases h
    exact ⟨hc.1.1, ki_B_eq hc.1.2, hc.2, rfl⟩
  · rw [if_neg hc] at h
    cases h
theorem xkl_some {c : px_CT} {j : Nat} {x : Int32} (h : xkl c j = some x) : j < pg_nc ∧ x = nI (c j).2.1 := by
  unfold xkl at h
  by_cases hc : j < pg_nc
  · rw [if_pos hc] at h
    cases h
    exact ⟨hc, rfl⟩
  · rw [if_neg hc] at h
    cases h
/-- a new object -/
def xnew (ph : px_H) (ci : Nat) : Option (Nat × px_H) := match pg_cl[ci]? with
  | some q => if ph.length < pg_MC ∧ px_sum ph + pg_in ci ≤ pg_MS then some (ph.length, ph ++ [.inr (ci, px_nf ci q.2.2)]) else none
  | none => none
theorem xnew_some {ph p : px_H} {ci a : Nat} (h : xnew ph ci = some (a, p)) : ∃ (C : String) (T : u_T) (N : Nat), pg_cl[ci]? = some (C, T, N) ∧ ph.length < pg_MC ∧ px_sum ph + pg_in ci ≤ pg_MS ∧ a = ph.length ∧ p = ph ++ [.inr (ci, px_nf ci N)] := by
  unfold xnew at h
  split at h
  next q hq =>
    by_cases hc : ph.length < pg_MC ∧ px_sum ph + pg_in ci ≤ pg_MS
    · rw [if_pos hc] at h
      cases h
      exact ⟨q.1, q.2.1, q.2.2, hq, hc.1, hc.2, rfl, rfl⟩
    · rw [if_neg hc] at h
      cases h
  next => cases h
/-- bytes copied -/
def xfit (f : Nat → Int32) (sp : Nat) : Nat → Bool
  | 0 => true
  | k + 1 => xfit f sp k && fits .byte (.int (f (sp + k)))
theorem xfit_at {f : Nat → Int32} {sp : Nat} : ∀ {k : Nat}, xfit f sp k = true → ∀ i, i < k → fits .byte (.int (f (sp + i))) = true
  | 0, _, i, hi => absurd hi (Nat.not_lt_zero i)
  | k + 1, h, i, hi => by
    have h2 := (Bool.and_eq_true _ _).mp h
    by_cases hik : i = k
    · rw [hik]; exact h2.2
    · exact xfit_at h2.1 i (by omega)
def xcpy (ph : px_H) (a0 : Nat) (sp : Int32) (a1 : Nat) (dp n : Int32) : Option px_H := (xA ph 0 a0).bind fun q => (xA ph 0 a1).bind fun r => if (¬ sp < 0 ∧ ¬ dp < 0 ∧ ¬ n < 0) ∧ sp.toNatClampNeg + n.toNatClampNeg ≤ q.1 ∧ dp.toNatClampNeg + n.toNatClampNeg ≤ r.1 ∧ xfit q.2 sp.toNatClampNeg n.toNatClampNeg = true then some (ph.set a1 (.inl (0, r.1, .inl (va_cpy q.2 r.2 sp.toNatClampNeg dp.toNatClampNeg n.toNatClampNeg)))) else none
theorem xcpy_some {ph p : px_H} {a0 a1 : Nat} {sp dp n : Int32} (h : xcpy ph a0 sp a1 dp n = some p) : ∃ n0 f0 n1 f1, ph[a0]? = some (.inl (0, n0, .inl f0)) ∧ ph[a1]? = some (.inl (0, n1, .inl f1)) ∧ ¬ sp < 0 ∧ ¬ dp < 0 ∧ ¬ n < 0 ∧ sp.toNatClampNeg + n.toNatClampNeg ≤ n0 ∧ dp.toNatClampNeg + n.toNatClampNeg ≤ n1 ∧ (∀ i, i < n.toNatClampNeg → fits .byte (.int (f0 (sp.toNatClampNeg + i))) = true) ∧ p = ph.set a1 (.inl (0, n1, .inl (va_cpy f0 f1 sp.toNatClampNeg dp.toNatClampNeg n.toNatClampNeg))) := by
  obtain ⟨q, h1, h2⟩ := xs_some h
  obtain ⟨r, h3, h4⟩ := xs_some h2
  by_cases hc : (¬ sp < 0 ∧ ¬ dp < 0 ∧ ¬ n < 0) ∧ sp.toNatClampNeg + n.toNatClampNeg ≤ q.1 ∧ dp.toNatClampNeg + n.toNatClampNeg ≤ r.1 ∧ xfit q.2 sp.toNatClampNeg n.toNatClampNeg = true
  · rw [if_pos hc] at h4
    cases h4
    exact ⟨q.1, q.2, r.1, r.2, xA_some h1, xA_some h3, hc.1.1, hc.1.2.1, hc.1.2.2, hc.2.1, hc.2.2.1, xfit_at hc.2.2.2, rfl⟩
  · rw [if_neg hc] at h4
    cases h4
/-- Strings -/
def xsl (i : Nat) : Option Int32 := if 0 < (pg_kbl i).length then some (nI (pg_kbl i).length) else none
theorem xsl_some {i : Nat} {x : Int32} (h : xsl i = some x) : 0 < (pg_kbl i).length ∧ x = nI (pg_kbl i).length := by
  unfold xsl at h
  by_cases hc : 0 < (pg_kbl i).length
  · rw [if_pos hc] at h
    cases h
    exact ⟨hc, rfl⟩
  · rw [if_neg hc] at h
    cases h
def xsc (i : Nat) (x : Int32) : Option Int32 := if ¬ (x < 0 ∨ (pg_kbl i).length ≤ x.toNatClampNeg) ∧ (pg_kbl i).length < 2 ^ 31 then some (pg_kch i x.toNatClampNeg) else none
theorem xsc_some {i : Nat} {x y : Int32} (h : xsc i x = some y) : ∃ k, x = nI k ∧ k < (pg_kbl i).length ∧ (pg_kbl i).length < 2 ^ 31 ∧ y = pg_kch i k := by
  unfold xsc at h
  by_cases hc : ¬ (x < 0 ∨ (pg_kbl i).length ≤ x.toNatClampNeg) ∧ (pg_kbl i).length < 2 ^ 31
  · rw [if_pos hc] at h
    cases h
    obtain ⟨k, h1, h2⟩ := vp_in_of (show vp_in x (pg_kbl i).length from hc.1) hc.2
    refine ⟨k, h2, h1, hc.2, ?_⟩
    rw [h2, nI_clamp (by omega)]
  · rw [if_neg hc] at h
    cases h
section OPS
variable {l : Launch} {g : px_G} {d mi pc nx r1 r2 : Nat} {lv : px_L} {st : List Value} {ph : px_H} {Q : px_Q}
theorem px_aaldO {a t n : Nat} {f : Nat → Option Nat} {i : Int32} {C : String} {o : Option Nat} (hcd : pg_cd mi pc = some (.aaload, nx, r1, r2)) (he : ph[a]? = some (.inl (t, n, .inr (.inr (.inr (.inr f)))))) (ht : pg_ty[t]? = some (.object C)) (hin : vp_in i n) (ho : f i.toNatClampNeg = o) (hp : pc + 1 = nx) (kk : PW l g d mi nx lv (va_rf o :: st) ph Q) : PW l g d mi pc lv (.int i :: .ref a :: st) ph Q := by
  subst ho
  exact px_aald hcd he ht hin hp kk
theorem px_aastO {a t n ci : Nat} {f : Nat → Option Nat} {i : Int32} {C : String} {T : u_T} {N : Nat} {o : Option Nat} (hcd : pg_cd mi pc = some (.aastore, nx, r1, r2)) (he : ph[a]? = some (.inl (t, n, .inr (.inr (.inr (.inr f)))))) (ht : pg_ty[t]? = some (.object C)) (hw : xco ph ci o = true) (hc : pg_cl[ci]? = some (C, T, N)) (hin : vp_in i n) (hp : pc + 1 = nx) (kk : PW l g d mi nx lv st (ph.set a (.inl (t, n, .inr (.inr (.inr (.inr (va_up f i.toNatClampNeg o))))))) Q) : PW l g d mi pc lv (va_rf o :: .int i :: .ref a :: st) ph Q := by
  cases o with
  | none => exact px_aastN hcd he ht hin hp kk
  | some w =>
    obtain ⟨fs, h1⟩ := xco_some hw
    exact px_aast hcd he ht h1 hc hin hp kk
theorem px_tsK {dflt lo hi : Int} {offs : Array Int} {x : Int32} {off : Int} {tgt len : Nat} (k : Nat) (hcd : pg_cd mi pc = some (.tableswitch dflt lo hi offs, pc + len, r1, r2)) (hx : x = nI k) (hk : k < 2 ^ 31) (h7 : ¬ (k : Int) < lo) (h8 : ¬ hi < (k : Int)) (ho : offs[((k : Int) - lo).toNat]? = some off) (ht : (pc : Int) + off = (tgt : Int)) (kk : PW l g d mi tgt lv st ph Q) : PW l g d mi pc lv (.int x :: st) ph Q := by
  subst hx
  exact px_tsIn hcd (by rw [nI_toInt hk]; exact h7) (by rw [nI_toInt hk]; exact h8) (by rw [nI_toInt hk]; exact ho) ht kk
theorem px_tsD {dflt hi : Int} {lo n : Nat} {offs : Array Int} {x : Int32} {tgt len : Nat} (hcd : pg_cd mi pc = some (.tableswitch dflt (lo : Int) hi offs, pc + len, r1, r2)) (hx : ∀ k, k < n → ¬ x = nI (lo + k)) (hn : hi + 1 = (lo : Int) + n) (ht : (pc : Int) + dflt = (tgt : Int)) (kk : PW l g d mi tgt lv st ph Q) : PW l g d mi pc lv (.int x :: st) ph Q := by
  refine px_tsOut hcd ?_ ht kk
  by_cases h1 : x.toInt < (lo : Int)
  · exact Or.inl h1
  · right
    have h0 : ¬ x < 0 := by
      rw [Int32.lt_iff_toInt_lt]
      show ¬ x.toInt < 0
      omega
    obtain ⟨j, hj, rfl⟩ := nI_of h0
    rw [nI_toInt hj] at h1 ⊢
    by_cases h2 : j < lo + n
    · exact absurd (by rw [show lo + (j - lo) = j by omega]) (hx (j - lo) (by omega))
    · omega
end OPS
