/-! the class's pool is the document's -/
section CPT4
variable {C B : Nat → Nat} {tO : Nat → Nat} {tb : Nat → Nat → Nat} {cA : Nat → Nat}
def flG (g : Nat → List (List Nat)) : List Nat → List (List Nat)
  | [] => []
  | x :: l => g x ++ flG g l
theorem flG_s {g : Nat → List (List Nat)} {x : Nat} {l : List Nat} : flG g (x :: l) = g x ++ flG g l := rfl
theorem flG_mem {g : Nat → List (List Nat)} {w : List Nat} : ∀ {l : List Nat}, w ∈ flG g l ↔ ∃ x, x ∈ l ∧ w ∈ g x
  | [] => ⟨fun q => (nomatch q), fun ⟨x, q, _⟩ => nomatch q⟩
  | y :: l => by
    rw [flG_s, List.mem_append, flG_mem]
    constructor
    · rintro (q | ⟨x, h1, h2⟩)
      · exact ⟨y, List.mem_cons_self .., q⟩
      · exact ⟨x, List.mem_cons_of_mem _ h1, h2⟩
    · rintro ⟨x, h1, h2⟩
      rcases List.mem_cons.mp h1 with e | e
      · left; rw [← e]; exact h2
      · exact Or.inr ⟨x, e, h2⟩
theorem flG_fold {g : Nat → List (List Nat)} {k : List Nat → Nat → List Nat} {m : List Nat → List (List Nat)} {f : List (List Nat) → List Nat → List (List Nat)} (h : ∀ x l, m (k l x) = (g x).foldl f (m l)) : ∀ (ll l : List Nat), m (ll.foldl k l) = (flG g ll).foldl f (m l)
  | [], l => rfl
  | x :: ll, l => by
    rw [List.foldl_cons, flG_fold h ll, flG_s, List.foldl_append, h]
theorem flG_congr {g g' : Nat → List (List Nat)} : ∀ {l : List Nat}, (∀ x, x ∈ l → g x = g' x) → flG g l = flG g' l
  | [], _ => rfl
  | x :: l, h => by rw [flG_s, flG_s, h x (List.mem_cons_self ..), flG_congr (fun y hy => h y (List.mem_cons_of_mem _ hy))]
def ssB (B : Nat → Nat) (P : Nat → Nat) (tb : Nat → Nat → Nat) (x : Nat) : List (List Nat) := if sS tb x = true then stG B (P x) 0 (zS tb x) else []
theorem ssB_y {P : Nat → Nat} {x : Nat} (h : sS tb x = true) : ssB B P tb x = stG B (P x) 0 (zS tb x) := by unfold ssB; rw [if_pos h]
theorem ssB_n {P : Nat → Nat} {x : Nat} (h : ¬ sS tb x = true) : ssB B P tb x = [] := by unfold ssB; rw [if_neg h]
abbrev SSl (B : Nat → Nat) (P : Nat → Nat) (tb : Nat → Nat → Nat) (ll : List Nat) : List (List Nat) := flG (ssB B P tb) ll
theorem SSl_mem {P : Nat → Nat} {w : List Nat} {ll : List Nat} : w ∈ SSl B P tb ll ↔ ∃ x, x ∈ ll ∧ sS tb x = true ∧ w ∈ stG B (P x) 0 (zS tb x) := by
  rw [flG_mem]
  constructor
  · rintro ⟨x, h1, h2⟩
    by_cases c : sS tb x = true
    · rw [ssB_y c] at h2; exact ⟨x, h1, c, h2⟩
    · rw [ssB_n c] at h2; exact nomatch h2
  · rintro ⟨x, h1, h2, h3⟩
    exact ⟨x, h1, by rw [ssB_y h2]; exact h3⟩
theorem sC_T (ll l : List Nat) : (ll.foldl (sC C tb cA) l).map (st C) = (SSl C cA tb ll).foldl admT (l.map (st C)) := by
  refine flG_fold (g := ssB C cA tb) (k := sC C tb cA) (m := List.map (st C)) (f := admT) (fun x l => ?_) ll l
  by_cases c : sS tb x = true
  · have e : sC C tb cA l x = itr (cl1 C (cA x)) 0 (zS tb x) l := by unfold sC; rw [if_pos c]
    rw [e, ssB_y c]
    exact cl_T _ _ _
  · have e : sC C tb cA l x = l := by unfold sC; rw [if_neg c]
    rw [e, ssB_n c]
    rfl
theorem s1F_T {nd : List (List Nat)} (ll pf : List Nat) : (ll.foldl (s1F B nd tO tb) pf).map (st B) = (SSl B (pS tO tb) tb ll).foldl (rfT nd) (pf.map (st B)) := by
  refine flG_fold (g := ssB B (pS tO tb) tb) (k := s1F B nd tO tb) (m := List.map (st B)) (f := rfT nd) (fun x l => ?_) ll pf
  by_cases c : sS tb x = true
  · have e : s1F B nd tO tb l x = itr (fp1 B nd (pS tO tb x)) 0 (zS tb x) l := by unfold s1F; rw [if_pos c]
    rw [e, ssB_y c]
    exact fp_T _ _ _
  · have e : s1F B nd tO tb l x = l := by unfold s1F; rw [if_neg c]
    rw [e, ssB_n c]
    rfl
theorem SSl_rel {ll : List Nat} (h : ∀ x, x ∈ ll → sS tb x = true → cA x + zS tb x ≤ 65536 ∧ pS tO tb x + zS tb x ≤ 65536 ∧ ∀ i, i < zS tb x → C (cA x + i) = B (pS tO tb x + i)) : SSl C cA tb ll = SSl B (pS tO tb) tb ll := by
  refine flG_congr (fun x hx => ?_)
  by_cases c : sS tb x = true
  · rw [ssB_y c, ssB_y c]
    obtain ⟨h1, h2, h3⟩ := h x hx c
    exact stG_rel h1 h2 h3 _ 0 (Nat.zero_add _)
  · rw [ssB_n c, ssB_n c]
theorem mxl_nd {ll : List Nat} (hin : ∀ x, x ∈ ll → sS tb x = true → pS tO tb x + zS tb x ≤ 65536) (s : List Nat) (hs : s ∈ SSl B (pS tO tb) tb ll) : lst (nd0 B tO tb ll) s ((nd0 B tO tb ll).length + 1) = 0 ↔ mxl (SSl B (pS tO tb) tb ll) s := by
  rw [lst_0]
  constructor
  · intro hno w hw hsw
    obtain ⟨x, x1, x2, x3⟩ := SSl_mem.mp hw
    obtain ⟨j, _, j2, j3, j4⟩ := stG_mem.mp x3
    have hx := hin x x1 x2
    have hst := frm_st (C := B) (A := pS tO tb x) (j := j) (by omega) j3
    have hlen := isSt_len hst
    obtain ⟨l1, l2⟩ := sufB_iff.mp hsw
    by_cases el : s.length = w.length
    · rw [el, Nat.sub_self, List.drop_zero] at l2
      exact l2.symm
    · exfalso
      rw [j4] at l1 l2 el
      have hfl := hst.2.1
      obtain ⟨k, hk⟩ : ∃ k, k = (st B (frm B (pS tO tb x) j)).length - s.length - 1 := ⟨_, rfl⟩
      have hkl : frm B (pS tO tb x) j + k < pS tO tb x + j := by omega
      have hup := isSt_up (d := k) hst (by omega)
      have hn : B (frm B (pS tO tb x) j + k) ≠ 0 := hst.2.2.2 _ (by omega) hkl
      have e1 : st B (frm B (pS tO tb x) j + k) = B (frm B (pS tO tb x) j + k) :: s := by
        rw [st_n (by omega) hn, l2, isSt_drop hst (by omega), show frm B (pS tO tb x) j + ((st B (frm B (pS tO tb x) j)).length - s.length) = frm B (pS tO tb x) j + k + 1 by omega]
      have hmem := nd0_all (B := B) (tO := tO) (tb := tb) x2 ll [[]] x1 j (by omega) j3 (frm B (pS tO tb x) j + k) (by omega) hkl
      rw [e1] at hmem
      exact hno _ hmem
  · intro hmx c hc
    rcases nd0_char (B := B) (tO := tO) (tb := tb) (ll := ll) ll [[]] (fun x h => h) (fun w hw => Or.inl (List.mem_singleton.mp hw)) (c :: s) hc with e | ⟨x, j, y, x1, x2, x3, x4, x5, x6, x7⟩
    · cases e
    · have hx := hin x x1 x2
      have hst := frm_st (C := B) (A := pS tO tb x) (j := j) (by omega) x4
      have hsf := st_suf hst.1 (y - frm B (pS tO tb x) j) (frm B (pS tO tb x) j) (by omega) hst.2.2.2
      rw [show frm B (pS tO tb x) j + (y - frm B (pS tO tb x) j) = y by omega, ← x7] at hsf
      have hw : st B (frm B (pS tO tb x) j) ∈ SSl B (pS tO tb) tb ll := SSl_mem.mpr ⟨x, x1, x2, stG_mem.mpr ⟨j, Nat.zero_le _, by omega, x4, rfl⟩⟩
      have e := hmx _ hw (sufB_tr sufB_c hsf)
      rw [e] at hsf
      have := (sufB_iff.mp hsf).1
      rw [List.length_cons] at this
      omega
theorem pool_T {ll : List Nat} (h : ∀ x, x ∈ ll → sS tb x = true → cA x + zS tb x ≤ 65536 ∧ pS tO tb x + zS tb x ≤ 65536 ∧ ∀ i, i < zS tb x → C (cA x + i) = B (pS tO tb x + i)) : (ll.foldl (sC C tb cA) []).map (st C) = (pf0 B tO tb ll).map (st B) := by
  unfold pf0
  rw [sC_T, s1F_T, SSl_rel h]
  exact pool_eq (fun s hs => mxl_nd (fun x h1 h2 => (h x h1 h2).2.1) s hs)
/-- lengths, and the places of ends, by texts -/
theorem psz_T : ∀ {a b : List Nat}, a.map (st C) = b.map (st B) → psz C a = psz B b
  | [], [], _ => rfl
  | [], _ :: _, h => by cases h
  | _ :: _, [], h => by cases h
  | f :: a, g :: b, h => by
    rw [List.map_cons, List.map_cons] at h
    have h1 := (List.cons.inj h).1
    have h2 := psz_T (List.cons.inj h).2
    show (st C f).length + 1 + psz C a = (st B g).length + 1 + psz B b
    rw [h1, h2]
theorem peO_T {u : List Nat} : ∀ {a b : List Nat} {off : Nat}, a.map (st C) = b.map (st B) → peO C off a u = peO B off b u
  | [], [], _, _ => rfl
  | [], _ :: _, _, h => by cases h
  | _ :: _, [], _, h => by cases h
  | f :: a, g :: b, off, h => by
    rw [List.map_cons, List.map_cons] at h
    have h1 := (List.cons.inj h).1
    show (if sufB u (st C f) = true then some (off + ((st C f).length + 1)) else peO C (off + ((st C f).length + 1)) a u) = (if sufB u (st B g) = true then some (off + ((st B g).length + 1)) else peO B (off + ((st B g).length + 1)) b u)
    rw [h1, peO_T (List.cons.inj h).2]
end CPT4
