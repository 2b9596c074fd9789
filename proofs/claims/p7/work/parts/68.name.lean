/-! names, as the class has them: three words and a length -/
def ez : List Nat → Nat
  | [] => 0
  | x :: l => x + 256 * ez l
theorem ez_lt : ∀ (l : List Nat), (∀ x, x ∈ l → x < 256) → ez l < 256 ^ l.length
  | [], _ => by decide
  | x :: l, h => by
    have h1 := ez_lt l (fun y hy => h y (List.mem_cons_of_mem _ hy))
    have h2 := h x (List.mem_cons_self ..)
    rw [List.length_cons, Nat.pow_succ]
    show x + 256 * ez l < _
    generalize 256 ^ l.length = P at *
    omega
theorem ez_app : ∀ (l : List Nat) (x : Nat), ez (l ++ [x]) = ez l + x * 256 ^ l.length
  | [], x => by show x + 256 * 0 = 0 + x * 1; omega
  | y :: l, x => by
    show y + 256 * ez (l ++ [x]) = (y + 256 * ez l) + x * 256 ^ (l.length + 1)
    rw [ez_app l x, Nat.pow_succ, Nat.mul_add, Nat.mul_comm (256 ^ l.length) 256, ← Nat.mul_assoc x 256, Nat.mul_comm x 256, Nat.mul_assoc 256 x]
    omega
theorem ez_inj : ∀ (l l' : List Nat), (∀ x, x ∈ l → x < 256) → (∀ x, x ∈ l' → x < 256) → l.length = l'.length → ez l = ez l' → l = l'
  | [], [], _, _, _, _ => rfl
  | [], _ :: _, _, _, h, _ => by cases h
  | _ :: _, [], _, _, h, _ => by cases h
  | x :: l, y :: l', h1, h2, hl, he => by
    have a1 := h1 x (List.mem_cons_self ..)
    have a2 := h2 y (List.mem_cons_self ..)
    have he' : x + 256 * ez l = y + 256 * ez l' := he
    have e1 : x = y := by omega
    have e2 : ez l = ez l' := by omega
    rw [e1, ez_inj l l' (fun z hz => h1 z (List.mem_cons_of_mem _ hz)) (fun z hz => h2 z (List.mem_cons_of_mem _ hz)) (by simpa using hl) e2]
def nmL (w : List Nat) : Nat := ez (w.take 8)
def nmM (w : List Nat) : Nat := ez ((w.drop 8).take 8)
def nmH (w : List Nat) : Nat := ez (w.drop 16)
/-- the Name at a is w -/
def isNm (τ : px_TT) (a : Nat) (w : List Nat) : Prop := fJ τ a 0 = lN (nmL w) ∧ fJ τ a 1 = lN (nmM w) ∧ fJ τ a 2 = lN (nmH w) ∧ fI τ a 3 = nI w.length
/-- a name's bytes -/
def okN (w : List Nat) : Prop := w.length ≤ 20 ∧ ∀ x, x ∈ w → x < 256
theorem okN_b {w : List Nat} (h : okN w) : nmL w < 2 ^ 64 ∧ nmM w < 2 ^ 64 ∧ nmH w < 2 ^ 64 := by
  have h1 := ez_lt (w.take 8) (fun x hx => h.2 x (List.mem_of_mem_take hx))
  have h2 := ez_lt ((w.drop 8).take 8) (fun x hx => h.2 x (List.mem_of_mem_drop (List.mem_of_mem_take hx)))
  have h3 := ez_lt (w.drop 16) (fun x hx => h.2 x (List.mem_of_mem_drop hx))
  have l1 : (w.take 8).length ≤ 8 := by rw [List.length_take]; omega
  have l2 : ((w.drop 8).take 8).length ≤ 8 := by rw [List.length_take]; omega
  have l3 : (w.drop 16).length ≤ 8 := by rw [List.length_drop]; have := h.1; omega
  have p : ∀ k, k ≤ 8 → 256 ^ k ≤ 2 ^ 64 := fun k hk => Nat.le_trans (Nat.pow_le_pow_right (by decide) hk) (by decide)
  exact ⟨Nat.lt_of_lt_of_le h1 (p _ l1), Nat.lt_of_lt_of_le h2 (p _ l2), Nat.lt_of_lt_of_le h3 (p _ l3)⟩
theorem nm_inj {w w' : List Nat} (h : okN w) (h' : okN w') (e1 : nmL w = nmL w') (e2 : nmM w = nmM w') (e3 : nmH w = nmH w') (e4 : w.length = w'.length) : w = w' := by
  have a1 : w.take 8 = w'.take 8 := ez_inj _ _ (fun x hx => h.2 x (List.mem_of_mem_take hx)) (fun x hx => h'.2 x (List.mem_of_mem_take hx)) (by rw [List.length_take, List.length_take, e4]) e1
  have a2 : (w.drop 8).take 8 = (w'.drop 8).take 8 := ez_inj _ _ (fun x hx => h.2 x (List.mem_of_mem_drop (List.mem_of_mem_take hx))) (fun x hx => h'.2 x (List.mem_of_mem_drop (List.mem_of_mem_take hx))) (by rw [List.length_take, List.length_take, List.length_drop, List.length_drop, e4]) e2
  have a3 : w.drop 16 = w'.drop 16 := ez_inj _ _ (fun x hx => h.2 x (List.mem_of_mem_drop hx)) (fun x hx => h'.2 x (List.mem_of_mem_drop hx)) (by rw [List.length_drop, List.length_drop, e4]) e3
  have s : ∀ v : List Nat, v = v.take 8 ++ ((v.drop 8).take 8 ++ v.drop 16) := by
    intro v
    have e : v.drop 16 = (v.drop 8).drop 8 := by rw [List.drop_drop]
    rw [e, List.take_append_drop, List.take_append_drop]
  rw [s w, s w', a1, a2, a3]
theorem or_app {v x k : Nat} (hk : k < 8) (hv : v < 256 ^ k) (hx : x < 256) : lN v ||| ((nI x).toInt64 <<< ((nI (8 * k)).toInt64 &&& 63)) = lN (v + x * 256 ^ k) := by
  have e : 2 ^ (8 * k) = 256 ^ k := by rw [Nat.pow_mul]
  have h8 : v + x * 256 ^ k < 256 ^ (k + 1) := by
    rw [Nat.pow_succ]
    have : x * 256 ^ k ≤ 255 * 256 ^ k := Nat.mul_le_mul_right _ (by omega)
    generalize 256 ^ k = P at *
    omega
  have h64 : 256 ^ (k + 1) ≤ 2 ^ 64 := Nat.le_trans (Nat.pow_le_pow_right (by decide) (show k + 1 ≤ 8 by omega)) (by decide)
  rw [nI_l (by omega), wb_shl x (by omega), e]
  exact g_or' e hv (by omega)
section CNM
variable {F : Nat} {c : px_CT} {sk : Nat → Nat × Nat × Nat} {L a : Nat} {τ : px_TT} {w : List Nat}
/-- what is written of a Name when a text is written -/
def frN (a : Nat) (τ τ' : px_TT) : Prop := (∀ x k, (x ≠ a ∨ k ≠ 3) → fI τ' x k = fI τ x k) ∧ (∀ x k, (x ≠ a ∨ 2 < k) → fJ τ' x k = fJ τ x k) ∧ (∀ x k, fN τ' x k = fN τ x k) ∧ (∀ x, eI τ' x = eI τ x) ∧ (∀ x, eJ τ' x = eJ τ x) ∧ (∀ x, eN τ' x = eN τ x)
theorem frN_refl (a : Nat) (τ : px_TT) : frN a τ τ := ⟨fun _ _ _ => rfl, fun _ _ _ => rfl, fun _ _ => rfl, fun _ => rfl, fun _ => rfl, fun _ => rfl⟩
theorem frN_trans {τ' τ'' : px_TT} (h1 : frN a τ τ') (h2 : frN a τ' τ'') : frN a τ τ'' := ⟨fun x k h => (h2.1 x k h).trans (h1.1 x k h), fun x k h => (h2.2.1 x k h).trans (h1.2.1 x k h), fun x k => (h2.2.2.1 x k).trans (h1.2.2.1 x k), fun x => (h2.2.2.2.1 x).trans (h1.2.2.2.1 x), fun x => (h2.2.2.2.2.1 x).trans (h1.2.2.2.2.1 x), fun x => (h2.2.2.2.2.2 x).trans (h1.2.2.2.2.2 x)⟩
theorem tJ_ne {τ : px_TT} {a k x y : Nat} {v : Int64} (h : x ≠ a ∨ y ≠ k) : fJ (tJ τ a k v) x y = fJ τ x y := u2_ne h
theorem tJ_at {τ : px_TT} {a k : Nat} {v : Int64} : fJ (tJ τ a k v) a k = v := (u2_eq : u2 τ.2.1 a k v a k = v)
theorem k_wipe (ha : ob sk L 5 a) : ∃ τ', f_Name_wipe F c a (cH sk L τ) = some ((), cH sk L τ') ∧ frN a τ τ' ∧ isNm τ' a [] := by
  unfold f_Name_wipe
  rw [C5p0 ha, bs, C5p1 ha, bs, C5p2 ha, bs, C5p3 ha, bs]
  refine ⟨_, rfl, ⟨fun x k h => tI_ne h, fun x k h => ?_, fun _ _ => rfl, fun _ => rfl, fun _ => rfl, fun _ => rfl⟩, ?_, ?_, ?_, tI_at⟩
  · show fJ (tJ (tJ (tJ τ a 0 (lN 0)) a 1 (lN 0)) a 2 (lN 0)) x k = _
    rw [tJ_ne (by omega), tJ_ne (by omega), tJ_ne (by omega)]
  · show fJ (tJ (tJ (tJ τ a 0 (lN 0)) a 1 (lN 0)) a 2 (lN 0)) a 0 = _
    rw [tJ_ne (Or.inr (by decide)), tJ_ne (Or.inr (by decide)), tJ_at]; rfl
  · show fJ (tJ (tJ (tJ τ a 0 (lN 0)) a 1 (lN 0)) a 2 (lN 0)) a 1 = _
    rw [tJ_ne (Or.inr (by decide)), tJ_at]; rfl
  · show fJ (tJ (tJ (tJ τ a 0 (lN 0)) a 1 (lN 0)) a 2 (lN 0)) a 2 = _
    rw [tJ_at]; rfl
theorem k_append {x : Nat} (ha : ob sk L 5 a) (hw : isNm τ a w) (hl : w.length < 20) (hb : ∀ y, y ∈ w → y < 256) (hx : x < 256) : ∃ τ', f_Name_append F c a (nI x) (cH sk L τ) = some ((), cH sk L τ') ∧ frN a τ τ' ∧ isNm τ' a (w ++ [x]) := by
  obtain ⟨n0, n1, n2, n3⟩ := hw
  have hlen : (w ++ [x]).length = w.length + 1 := by rw [List.length_append]; rfl
  have e255 : nI x &&& nI 255 = nI x := by
    rw [show nI x &&& nI 255 = nI (x % 2 ^ 8) from pk_andN (by omega) 8 (by decide), Nat.mod_eq_of_lt (by omega)]
  have e7 : nI w.length &&& nI 7 = nI (w.length % 8) := pk_andN (by omega) 3 (by decide)
  unfold f_Name_append f_Name_append_72
  rw [C5g3 ha, bs, bs, n3, e255, e7, pk_mul]
  by_cases c1 : 8 ≤ w.length
  · rw [if_pos (nI_le c1 (by omega)), bs]
    by_cases c2 : 16 ≤ w.length
    · have em : w.length % 8 = w.length - 16 := by omega
      have e16 : (w ++ [x]).drop 16 = w.drop 16 ++ [x] := List.drop_append_of_le_length c2
      have ez16 := ez_lt (w.drop 16) (fun y hy => hb y (List.mem_of_mem_drop hy))
      rw [List.length_drop] at ez16
      have ev : nmH (w ++ [x]) = nmH w + x * 256 ^ (w.length - 16) := by
        unfold nmH
        rw [e16, ez_app, List.length_drop]
      rw [if_pos (nI_le c2 (by omega)), C5g2 ha, bs, n2, em, or_app (v := nmH w) (by omega) ez16 hx, C5p2 ha, bs, C5g3 ha, bs]
      refine ⟨tI (tJ τ a 2 (lN (nmH w + x * 256 ^ (w.length - 16)))) a 3 (nI (w.length + 1)), ?_, ?_, ?_, ?_, ?_, ?_⟩
      · rw [show fI (tJ τ a 2 (lN (nmH w + x * 256 ^ (w.length - 16)))) a 3 = nI w.length from n3, nI_add, C5p3 ha, bs]
      · exact ⟨fun y k h => tI_ne h, fun y k h => tJ_ne (by omega), fun _ _ => rfl, fun _ => rfl, fun _ => rfl, fun _ => rfl⟩
      · show fJ (tJ τ a 2 _) a 0 = _
        rw [tJ_ne (Or.inr (by decide)), n0]
        unfold nmL
        rw [List.take_append_of_le_length (by omega)]
      · show fJ (tJ τ a 2 _) a 1 = _
        rw [tJ_ne (Or.inr (by decide)), n1]
        unfold nmM
        rw [List.drop_append_of_le_length (by omega), List.take_append_of_le_length (by rw [List.length_drop]; omega)]
      · show fJ (tJ τ a 2 _) a 2 = _
        rw [tJ_at, ev]
      · rw [hlen]; exact tI_at
    · have em : w.length % 8 = w.length - 8 := by omega
      have ez8 := ez_lt ((w.drop 8).take 8) (fun y hy => hb y (List.mem_of_mem_drop (List.mem_of_mem_take hy)))
      have el : ((w.drop 8).take 8) = w.drop 8 := List.take_of_length_le (by rw [List.length_drop]; omega)
      rw [el, List.length_drop] at ez8
      have en : nmM w = ez (w.drop 8) := by unfold nmM; rw [el]
      have ev : nmM (w ++ [x]) = nmM w + x * 256 ^ (w.length - 8) := by
        rw [en]
        unfold nmM
        rw [List.drop_append_of_le_length c1, List.take_of_length_le (by rw [List.length_append, List.length_drop]; show w.length - 8 + 1 ≤ 8; omega), ez_app, List.length_drop]
      rw [if_neg (nI_ge (by omega) (by omega)), C5g1 ha, bs, n1, em, or_app (by omega) (by rw [en]; exact ez8) hx, C5p1 ha, bs, C5g3 ha, bs]
      refine ⟨tI (tJ τ a 1 (lN (nmM w + x * 256 ^ (w.length - 8)))) a 3 (nI (w.length + 1)), ?_, ?_, ?_, ?_, ?_, ?_⟩
      · rw [show fI (tJ τ a 1 (lN (nmM w + x * 256 ^ (w.length - 8)))) a 3 = nI w.length from n3, nI_add, C5p3 ha, bs]
      · exact ⟨fun y k h => tI_ne h, fun y k h => tJ_ne (by omega), fun _ _ => rfl, fun _ => rfl, fun _ => rfl, fun _ => rfl⟩
      · show fJ (tJ τ a 1 _) a 0 = _
        rw [tJ_ne (Or.inr (by decide)), n0]
        unfold nmL
        rw [List.take_append_of_le_length (by omega)]
      · show fJ (tJ τ a 1 _) a 1 = _
        rw [tJ_at, ev]
      · show fJ (tJ τ a 1 _) a 2 = _
        rw [tJ_ne (Or.inr (by decide)), n2]
        unfold nmH
        rw [List.drop_eq_nil_of_le (by omega), List.drop_eq_nil_of_le (by rw [hlen]; omega)]
      · rw [hlen]; exact tI_at
  · have em : w.length % 8 = w.length := by omega
    have el : w.take 8 = w := List.take_of_length_le (by omega)
    have ez0 := ez_lt w hb
    have en : nmL w = ez w := by unfold nmL; rw [el]
    have ev : nmL (w ++ [x]) = nmL w + x * 256 ^ w.length := by
      rw [en]
      unfold nmL
      rw [List.take_of_length_le (by rw [hlen]; omega), ez_app]
    rw [if_neg (nI_ge (by omega) (by omega)), C5g0 ha, bs, n0, em, or_app (by omega) (by rw [en]; exact ez0) hx, C5p0 ha, bs, C5g3 ha, bs]
    refine ⟨tI (tJ τ a 0 (lN (nmL w + x * 256 ^ w.length))) a 3 (nI (w.length + 1)), ?_, ?_, ?_, ?_, ?_, ?_⟩
    · rw [show fI (tJ τ a 0 (lN (nmL w + x * 256 ^ w.length))) a 3 = nI w.length from n3, nI_add, C5p3 ha, bs]
    · exact ⟨fun y k h => tI_ne h, fun y k h => tJ_ne (by omega), fun _ _ => rfl, fun _ => rfl, fun _ => rfl, fun _ => rfl⟩
    · show fJ (tJ τ a 0 _) a 0 = _
      rw [tJ_at, ev]
    · show fJ (tJ τ a 0 _) a 1 = _
      rw [tJ_ne (Or.inr (by decide)), n1]
      unfold nmM
      rw [List.drop_eq_nil_of_le (by omega), List.drop_eq_nil_of_le (by rw [hlen]; omega)]
    · show fJ (tJ τ a 0 _) a 2 = _
      rw [tJ_ne (Or.inr (by decide)), n2]
      unfold nmH
      rw [List.drop_eq_nil_of_le (by omega), List.drop_eq_nil_of_le (by rw [hlen]; omega)]
    · rw [hlen]; exact tI_at
/-- the bytes from p on, k of them -/
def tk (b : Nat → Nat) (p : Nat) : Nat → List Nat
  | 0 => []
  | k + 1 => tk b p k ++ [b (p + k)]
theorem tk_len (b : Nat → Nat) (p : Nat) : ∀ k, (tk b p k).length = k
  | 0 => rfl
  | k + 1 => by
    show (tk b p k ++ [b (p + k)]).length = _
    rw [List.length_append, tk_len b p k]
    rfl
theorem tk_lt {b : Nat → Nat} (hb : ∀ k, b k < 256) (p : Nat) : ∀ k x, x ∈ tk b p k → x < 256
  | 0, x, h => nomatch h
  | k + 1, x, h => by
    rcases List.mem_append.mp h with e | e
    · exact tk_lt hb p k x e
    · rw [List.mem_singleton.mp e]; exact hb _
theorem okN_tk {b : Nat → Nat} (hb : ∀ k, b k < 256) (p : Nat) {k : Nat} (hk : k ≤ 20) : okN (tk b p k) := ⟨by rw [tk_len]; exact hk, tk_lt hb p k⟩
/-- a name out of a row -/
theorem k_read_6 {r e ss N p : Nat} {S : Nat → Int32} (ha : ob sk L 5 a) (h1 : ob sk L 10 r) (h3 : ar sk L 0 N e) (hss : ss ≤ N) (hN : N < 2 ^ 30) (hp : p < 2 ^ 29) (har : a ≠ r) : ∀ (d k f : Nat) (τ : px_TT), fN τ r 0 = some e → eI τ e = S → fI τ r 1 = nI ss → k + d = 20 → d < f → isNm τ a (tk (fun i => if i < ss then b8 (S i) else 0) p k) → ∃ τ', f_Name_read_6 F c f a r (nI p) (nI k) (cH sk L τ) = some ((), cH sk L τ') ∧ frN a τ τ' ∧ isNm τ' a (tk (fun i => if i < ss then b8 (S i) else 0) p (k + run (fun i => if i < ss then b8 (S i) else 0) (p + k) d)) := by
  have hlt : ∀ i, (fun i => if i < ss then b8 (S i) else 0) i < 256 := by
    intro i
    show (if i < ss then b8 (S i) else 0) < 256
    split
    · exact b8_lt _
    · decide
  intro d
  induction d with
  | zero =>
    intro k f τ h2 h4 h5 hk hf hw
    obtain ⟨f, rfl⟩ : ∃ g, f = g + 1 := ⟨f - 1, by omega⟩
    refine ⟨τ, ?_, frN_refl _ _, hw⟩
    unfold f_Name_read_6
    rw [if_pos (nI_le (by omega) (by omega))]
    rfl
  | succ d ih =>
    intro k f τ h2 h4 h5 hk hf hw
    obtain ⟨f, rfl⟩ : ∃ g, f = g + 1 := ⟨f - 1, by omega⟩
    have hx := hlt (p + k)
    unfold f_Name_read_6
    rw [if_neg (nI_ge (by omega) (by omega)), c_o h1, bs, nI_add, k_rowAt h1 h2 h3 h4 h5 hss (by omega) (by omega), xb_mk, show (0 : Int32) = nI 0 from rfl]
    simp only [nI_eq (show (if p + k < ss then b8 (S (p + k)) else 0) < 2 ^ 31 from Nat.lt_trans hx (by decide)) (show 0 < 2 ^ 31 by decide)]
    rw [show run (fun i => if i < ss then b8 (S i) else 0) (p + k) (d + 1) = if (if p + k < ss then b8 (S (p + k)) else 0) = 0 then 0 else run (fun i => if i < ss then b8 (S i) else 0) (p + k + 1) d + 1 from rfl]
    by_cases c1 : (if p + k < ss then b8 (S (p + k)) else 0) = 0
    · rw [if_pos c1, if_pos c1, Nat.add_zero]
      exact ⟨τ, rfl, frN_refl _ _, hw⟩
    · rw [if_neg c1, if_neg c1, c_o h1, bs, k_rowAt h1 h2 h3 h4 h5 hss (by omega) (by omega), xb_mk, c_o ha, bs]
      obtain ⟨τ1, g1, g2, g3⟩ := k_append (F := F) (c := c) (x := if p + k < ss then b8 (S (p + k)) else 0) ha hw (by rw [tk_len]; omega) (tk_lt hlt p k) hx
      rw [g1, xb_mk, nI_add]
      obtain ⟨τ', i1, i2, i3⟩ := ih (k + 1) f τ1 ((g2.2.2.1 r 0).trans h2) ((g2.2.2.2.1 e).trans h4) ((g2.1 r 1 (Or.inr (by decide))).trans h5) (by omega) (by omega) g3
      refine ⟨τ', i1, frN_trans g2 i2, ?_⟩
      rw [show k + (run (fun i => if i < ss then b8 (S i) else 0) (p + k + 1) d + 1) = k + 1 + run (fun i => if i < ss then b8 (S i) else 0) (p + (k + 1)) d by rw [show p + (k + 1) = p + k + 1 by omega]; omega]
      exact i3
theorem k_nread {r e ss N p : Nat} {S : Nat → Int32} (ha : ob sk L 5 a) (h1 : ob sk L 10 r) (h3 : ar sk L 0 N e) (hss : ss ≤ N) (hN : N < 2 ^ 30) (hp : p < 2 ^ 29) (har : a ≠ r) (hF : 20 < F) (h2 : fN τ r 0 = some e) (h4 : eI τ e = S) (h5 : fI τ r 1 = nI ss) : ∃ τ', f_Name_read F c a r (nI p) (cH sk L τ) = some ((), cH sk L τ') ∧ frN a τ τ' ∧ isNm τ' a (tk (fun i => if i < ss then b8 (S i) else 0) p (run (fun i => if i < ss then b8 (S i) else 0) p 20)) := by
  obtain ⟨τ1, g1, g2, g3⟩ := k_wipe (F := F) (c := c) (τ := τ) ha
  obtain ⟨τ', i1, i2, i3⟩ := k_read_6 (F := F) (c := c) ha h1 h3 hss hN hp har 20 0 F τ1 ((g2.2.2.1 r 0).trans h2) ((g2.2.2.2.1 e).trans h4) ((g2.1 r 1 (Or.inr (by decide))).trans h5) rfl hF g3
  refine ⟨τ', ?_, frN_trans g2 i2, ?_⟩
  · unfold f_Name_read
    rw [c_o ha, bs, g1, xb_mk, i1]
  · rw [Nat.zero_add, Nat.add_zero] at i3
    exact i3
/-- a row of names (at N, its array A of length m) holds the list ws; where each stands: ps -/
def isNs (sk : Nat → Nat × Nat × Nat) (L : Nat) (τ : px_TT) (N A m : Nat) (ws : List (List Nat)) (ps : Nat → Nat) : Prop := ob sk L 6 N ∧ fN τ N 0 = some A ∧ ar sk L 5 m A ∧ ws.length ≤ m ∧ m < 2 ^ 30 ∧ fI τ N 2 = nI ws.length ∧ ∀ i w, ws[i]? = some w → okN w ∧ eN τ A i = some (ps i) ∧ ob sk L 5 (ps i) ∧ isNm τ (ps i) w
/-- the first place of w in ws, from i on -/
def idx (w : List Nat) : Nat → List (List Nat) → Option Nat
  | _, [] => none
  | i, v :: l => if v = w then some i else idx w (i + 1) l
theorem k_find_2 {N A m t : Nat} {ws : List (List Nat)} {ps : Nat → Nat} (hns : isNs sk L τ N A m ws ps) (ht : ob sk L 5 t) (hw : isNm τ t w) (hok : okN w) : ∀ (d i f : Nat), i + d = ws.length → d < f → f_Names_find_2 F c f N (some t) (nI i) (cH sk L τ) = some ((idx w i (ws.drop i)).map ps, cH sk L τ) := by
  obtain ⟨s1, s2, s3, s4, s5, s6, s7⟩ := hns
  have hwb := okN_b hok
  intro d
  induction d with
  | zero =>
    intro i f hi hf
    obtain ⟨f, rfl⟩ : ∃ g, f = g + 1 := ⟨f - 1, by omega⟩
    unfold f_Names_find_2
    rw [C6g2 s1, bs, s6, if_pos (nI_le (by omega) (by omega)), List.drop_eq_nil_of_le (by omega)]
    rfl
  | succ d ih =>
    intro i f hi hf
    obtain ⟨f, rfl⟩ : ∃ g, f = g + 1 := ⟨f - 1, by omega⟩
    have hil : i < ws.length := by omega
    obtain ⟨v1, v2, v3, v4⟩ := s7 i ws[i] (List.getElem?_eq_getElem hil)
    have hvb := okN_b v1
    have e1 : ws.drop i = ws[i] :: ws.drop (i + 1) := List.drop_eq_getElem_cons hil
    unfold f_Names_find_2
    rw [C6g2 s1, bs, s6, if_neg (nI_ge hil (by omega)), C6r0 s1 s2, bs, c_l s3 (by decide), bs, if_neg (nI_ge (by omega) (by omega)), bs, c_aN s3 (Or.inr (Or.inl rfl)) (by omega) (by omega), bs, v2, e1]
    show (xgJ (cH sk L τ) 5 0 (ps i)).bind _ = some ((if ws[i] = w then some i else idx w (i + 1) (ws.drop (i + 1))).map ps, cH sk L τ)
    rw [C5g0 v3, bs, v4.1]
    show (xgJ (cH sk L τ) 5 0 t).bind _ = _
    rw [C5g0 ht, bs, hw.1]
    simp only [f_Names_find_79, f_Names_find_77, nI_add, ih (i + 1) f (by omega) (by omega), C5g1 v3, C5g1 ht, C5g2 v3, C5g2 ht, C5g3 v3, C5g3 ht, bs, v4.2.1, hw.2.1, v4.2.2.1, hw.2.2.1, v4.2.2.2, hw.2.2.2, lEQ hvb.1 hwb.1, lEQ hvb.2.1 hwb.2.1, lEQ hvb.2.2 hwb.2.2, nI_eq (show ws[i].length < 2 ^ 31 from Nat.lt_of_le_of_lt v1.1 (by decide)) (show w.length < 2 ^ 31 from Nat.lt_of_le_of_lt hok.1 (by decide))]
    by_cases c1 : ws[i] = w
    · rw [if_pos c1]
      rw [c1, if_pos rfl, if_pos rfl, if_pos rfl, if_pos rfl]
      rfl
    · rw [if_neg c1]
      by_cases d1 : nmL ws[i] = nmL w
      · rw [if_pos d1]
        by_cases d2 : nmM ws[i] = nmM w
        · rw [if_pos d2]
          by_cases d3 : nmH ws[i] = nmH w
          · rw [if_pos d3]
            by_cases d4 : ws[i].length = w.length
            · exact absurd (nm_inj v1 hok d1 d2 d3 d4) c1
            · rw [if_neg d4]
          · rw [if_neg d3]
        · rw [if_neg d2]
      · rw [if_neg d1]
theorem k_find {N A m t : Nat} {ws : List (List Nat)} {ps : Nat → Nat} (hns : isNs sk L τ N A m ws ps) (ht : ob sk L 5 t) (hw : isNm τ t w) (hok : okN w) (hF : ws.length < F) : f_Names_find F c N (some t) (cH sk L τ) = some ((idx w 0 ws).map ps, cH sk L τ) := by
  unfold f_Names_find
  rw [k_find_2 hns ht hw hok ws.length 0 F (by omega) hF, List.drop_zero]
end CNM
