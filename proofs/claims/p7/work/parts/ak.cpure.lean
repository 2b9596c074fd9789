/-! names first, definitions then: the same -/
theorem eObj_g {b : Nat → Nat} {n : Nat} (h : eObj b n = 0) : oT b 0 = 0 ∧ ∀ i, 1 ≤ i → i < oS b → oT b i = 17 → gH b i = true := by
  unfold eObj at h
  by_cases c1 : n < 64 ∨ oH b = false
  · rw [if_pos c1] at h; cases h
  · rw [if_neg c1] at h
    by_cases c2 : 1 ≤ oS b ∧ oS b ≤ 24 ∧ oR b + 64 * oS b ≤ n ∧ oT b 0 = 0
    · rw [if_neg (fun q => q c2)] at h
      by_cases c3 : fst0 (eSec b n) 0 (oS b) = 0
      · rw [if_neg (fun q => q c3)] at h
        by_cases c4 : eSym b = 0
        · rw [if_neg (fun q => q c4)] at h
          by_cases c5 : eSit b = 0
          · rw [if_neg (fun q => q c5)] at h
            refine ⟨c2.2.2.2, fun i h1 hi ht => ?_⟩
            have hgs : gs b 1 (oS b - 1) (fun _ => false) = true := by
              unfold eGrp at h
              by_cases c6 : gs b 1 (oS b - 1) (fun _ => false) = true
              · exact c6
              · rw [if_neg c6] at h; cases h
            exact (gs_1 (oS b - 1) 1 _ hgs i h1 (by omega) ht).1
          · rw [if_pos c5] at h; exact absurd h c5
        · rw [if_pos c4] at h; exact absurd h c4
      · rw [if_pos c3] at h; exact absurd h c3
    · rw [if_pos c2] at h; cases h
theorem entL_in {w : List Nat} {xs : px_NL} (h : w ∈ xs.map Prod.fst) : entL w xs = xs := by
  unfold entL
  rw [if_pos (idx_iff.mpr h)]
theorem setR_entL {w : List Nat} {xs : px_NL} {i : Nat} {f : px_NR → px_NR} (hi : i < xs.length) : setR (entL w xs) i f = entL w (setR xs i f) := by
  unfold entL
  rw [setR_fst]
  split
  · rfl
  · unfold setR
    rw [List.getElem?_append_left hi, List.getElem?_eq_getElem hi]
    show (xs ++ [(w, nr0)]).set i _ = xs.set i _ ++ _
    rw [List.set_append_left _ _ hi]
theorem getD_entL {w : List Nat} {xs : px_NL} {i : Nat} {d : List Nat × px_NR} (hi : i < xs.length) : (entL w xs).getD i d = xs.getD i d := by
  unfold entL
  split
  · rfl
  · rw [List.getD_eq_getElem?_getD, List.getD_eq_getElem?_getD, List.getElem?_append_left hi]
/-- comS over variables -/
def comG (S : Nat) (Y : List Nat) (f g : px_NR → px_NR) (st : px_NL × List Nat) : Bool × px_NL × List Nat :=
  if S = 0 then (true, setR (entL Y st.1) (plc Y (st.1.map Prod.fst)) f, st.2)
  else if S = 3 ∧ ((entL Y st.1).getD (plc Y (st.1.map Prod.fst)) ([], nr0)).2.1 = 3 then (false, entL Y st.1, st.2)
  else (true, setR (entL Y st.1) (plc Y (st.1.map Prod.fst)) g, if ((entL Y st.1).getD (plc Y (st.1.map Prod.fst)) ([], nr0)).2.1 = 0 then st.2 ++ [plc Y (st.1.map Prod.fst)] else st.2)
theorem comS_G {dr : Nat → Bool} {t : Nat} {b : Nat → Nat} {k : Nat} {st : px_NL × List Nat} : comS dr t b k st = comG (sOf dr t b k) (yT b k) (fun r => (r.1, (r.2.1 || decide (yB b k = 1)), r.2.2)) (cmS (sOf dr t b k) t k (yZ b k) (yV b k)) st := by
  unfold comS comG
  rfl
def tkG (B S : Nat) (Y : List Nat) (f g : px_NR → px_NR) (s : px_TS) : px_TS :=
  if B = 0 then s
  else if s.1 = 1 then (1, entL Y s.2.1, s.2.2.1, s.2.2.2)
  else if (comG S Y f g (s.2.1, s.2.2.1)).1 = true then (s.1, (comG S Y f g (s.2.1, s.2.2.1)).2.1, (comG S Y f g (s.2.1, s.2.2.1)).2.2, s.2.2.2)
  else (1, (comG S Y f g (s.2.1, s.2.2.1)).2.1, (comG S Y f g (s.2.1, s.2.2.1)).2.2, some Y)
theorem tk1_G {dr : Nat → Bool} {t : Nat} {b : Nat → Nat} {k : Nat} {s : px_TS} : tk1 dr t b k s = tkG (yB b k) (sOf dr t b k) (yT b k) (fun r => (r.1, (r.2.1 || decide (yB b k = 1)), r.2.2)) (cmS (sOf dr t b k) t k (yZ b k) (yV b k)) s := by
  unfold tk1 tkG
  rw [comS_G]
/-- a name entered -/
def tEn (w : List Nat) (s : px_TS) : px_TS := (s.1, entL w s.2.1, s.2.2.1, s.2.2.2)
section PTK
variable {B S : Nat} {Y w : List Nat} {f g : px_NR → px_NR}
theorem comG_in {xs : px_NL} {od : List Nat} (h : Y ∈ xs.map Prod.fst) : comG S Y f g (entL w xs, od) = ((comG S Y f g (xs, od)).1, entL w (comG S Y f g (xs, od)).2.1, (comG S Y f g (xs, od)).2.2) := by
  have h2 : Y ∈ (entL w xs).map Prod.fst := by rw [entL_fst]; exact ent_mem.mpr (Or.inr h)
  have hp : plc Y ((entL w xs).map Prod.fst) = plc Y (xs.map Prod.fst) := by rw [entL_fst]; exact plc_ent h
  have hl : plc Y (xs.map Prod.fst) < xs.length := by have := plc_lt h; rw [List.length_map] at this; exact this
  unfold comG
  show (if S = 0 then (true, setR (entL Y (entL w xs)) (plc Y ((entL w xs).map Prod.fst)) f, od) else if S = 3 ∧ ((entL Y (entL w xs)).getD (plc Y ((entL w xs).map Prod.fst)) ([], nr0)).2.1 = 3 then (false, entL Y (entL w xs), od) else (true, setR (entL Y (entL w xs)) (plc Y ((entL w xs).map Prod.fst)) g, if ((entL Y (entL w xs)).getD (plc Y ((entL w xs).map Prod.fst)) ([], nr0)).2.1 = 0 then od ++ [plc Y ((entL w xs).map Prod.fst)] else od)) = _
  show _ = ((if S = 0 then (true, setR (entL Y xs) (plc Y (xs.map Prod.fst)) f, od) else if S = 3 ∧ ((entL Y xs).getD (plc Y (xs.map Prod.fst)) ([], nr0)).2.1 = 3 then (false, entL Y xs, od) else (true, setR (entL Y xs) (plc Y (xs.map Prod.fst)) g, if ((entL Y xs).getD (plc Y (xs.map Prod.fst)) ([], nr0)).2.1 = 0 then od ++ [plc Y (xs.map Prod.fst)] else od) : Bool × px_NL × List Nat).1, entL w (if S = 0 then (true, setR (entL Y xs) (plc Y (xs.map Prod.fst)) f, od) else if S = 3 ∧ ((entL Y xs).getD (plc Y (xs.map Prod.fst)) ([], nr0)).2.1 = 3 then (false, entL Y xs, od) else (true, setR (entL Y xs) (plc Y (xs.map Prod.fst)) g, if ((entL Y xs).getD (plc Y (xs.map Prod.fst)) ([], nr0)).2.1 = 0 then od ++ [plc Y (xs.map Prod.fst)] else od) : Bool × px_NL × List Nat).2.1, (if S = 0 then (true, setR (entL Y xs) (plc Y (xs.map Prod.fst)) f, od) else if S = 3 ∧ ((entL Y xs).getD (plc Y (xs.map Prod.fst)) ([], nr0)).2.1 = 3 then (false, entL Y xs, od) else (true, setR (entL Y xs) (plc Y (xs.map Prod.fst)) g, if ((entL Y xs).getD (plc Y (xs.map Prod.fst)) ([], nr0)).2.1 = 0 then od ++ [plc Y (xs.map Prod.fst)] else od) : Bool × px_NL × List Nat).2.2)
  rw [entL_in h2, hp, entL_in h, getD_entL hl, setR_entL hl, setR_entL hl]
  by_cases c1 : S = 0
  · rw [if_pos c1, if_pos c1]
  · rw [if_neg c1, if_neg c1]
    by_cases c2 : S = 3 ∧ (xs.getD (plc Y (xs.map Prod.fst)) ([], nr0)).2.1 = 3
    · rw [if_pos c2, if_pos c2]
    · rw [if_neg c2, if_neg c2]
theorem tkG_in {s : px_TS} (h : B ≠ 0 → Y ∈ txs s) : tkG B S Y f g (tEn w s) = tEn w (tkG B S Y f g s) := by
  obtain ⟨a, xs, od, bl⟩ := s
  by_cases c0 : B = 0
  · unfold tkG; rw [if_pos c0, if_pos c0]
  · have h : Y ∈ xs.map Prod.fst := h c0
    have h2 : Y ∈ (entL w xs).map Prod.fst := by rw [entL_fst]; exact ent_mem.mpr (Or.inr h)
    unfold tkG
    rw [if_neg c0, if_neg c0]
    show (if a = 1 then (1, entL Y (entL w xs), od, bl) else if (comG S Y f g (entL w xs, od)).1 = true then (a, (comG S Y f g (entL w xs, od)).2.1, (comG S Y f g (entL w xs, od)).2.2, bl) else (1, (comG S Y f g (entL w xs, od)).2.1, (comG S Y f g (entL w xs, od)).2.2, some Y)) = tEn w (if a = 1 then (1, entL Y xs, od, bl) else if (comG S Y f g (xs, od)).1 = true then (a, (comG S Y f g (xs, od)).2.1, (comG S Y f g (xs, od)).2.2, bl) else (1, (comG S Y f g (xs, od)).2.1, (comG S Y f g (xs, od)).2.2, some Y))
    by_cases c1 : a = 1
    · rw [if_pos c1, if_pos c1, entL_in h2, entL_in h]; rfl
    · rw [if_neg c1, if_neg c1, comG_in h]
      generalize comG S Y f g (xs, od) = R
      show (if R.1 = true then (a, entL w R.2.1, R.2.2, bl) else (1, entL w R.2.1, R.2.2, some Y)) = _
      by_cases c2 : R.1 = true
      · rw [if_pos c2, if_pos c2]; rfl
      · rw [if_neg c2, if_neg c2]; rfl
theorem plc_self {xs : px_NL} : plc Y ((entL Y xs).map Prod.fst) = plc Y (xs.map Prod.fst) := by
  rw [entL_fst]
  unfold ent plc
  split
  · rfl
  · rename_i h
    have e : idx Y 0 (xs.map Prod.fst) = none := by
      cases e : idx Y 0 (xs.map Prod.fst) with
      | none => rfl
      | some i => rw [e] at h; exact absurd rfl h
    rw [idx_last e, e, Nat.zero_add]
    rfl
theorem tkG_self {s : px_TS} : tkG B S Y f g (tEn Y s) = if B = 0 then tEn Y s else tkG B S Y f g s := by
  obtain ⟨a, xs, od, bl⟩ := s
  by_cases c0 : B = 0
  · rw [if_pos c0]; unfold tkG; rw [if_pos c0]
  · rw [if_neg c0]
    have h2 : Y ∈ (entL Y xs).map Prod.fst := by rw [entL_fst]; exact ent_mem.mpr (Or.inl rfl)
    have e : comG S Y f g (entL Y xs, od) = comG S Y f g (xs, od) := by
      unfold comG
      show (if S = 0 then (true, setR (entL Y (entL Y xs)) (plc Y ((entL Y xs).map Prod.fst)) f, od) else if S = 3 ∧ ((entL Y (entL Y xs)).getD (plc Y ((entL Y xs).map Prod.fst)) ([], nr0)).2.1 = 3 then (false, entL Y (entL Y xs), od) else (true, setR (entL Y (entL Y xs)) (plc Y ((entL Y xs).map Prod.fst)) g, if ((entL Y (entL Y xs)).getD (plc Y ((entL Y xs).map Prod.fst)) ([], nr0)).2.1 = 0 then od ++ [plc Y ((entL Y xs).map Prod.fst)] else od)) = _
      rw [entL_in h2, plc_self]
    unfold tkG
    rw [if_neg c0, if_neg c0]
    show (if a = 1 then (1, entL Y (entL Y xs), od, bl) else if (comG S Y f g (entL Y xs, od)).1 = true then (a, (comG S Y f g (entL Y xs, od)).2.1, (comG S Y f g (entL Y xs, od)).2.2, bl) else (1, (comG S Y f g (entL Y xs, od)).2.1, (comG S Y f g (entL Y xs, od)).2.2, some Y)) = _
    rw [e, entL_in h2]
end PTK
