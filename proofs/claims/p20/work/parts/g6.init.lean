/-! the heap behind the constructors, as class and reference see it -/
def zall (n : Nat) (p : Nat → Bool) : Bool := Nat.rec (motive := fun _ => Bool) true (fun k ih => p k && ih) n
theorem zall_of {p : Nat → Bool} : ∀ {n : Nat}, zall n p = true → ∀ k, k < n → p k = true
  | 0, _, k, hk => absurd hk (Nat.not_lt_zero k)
  | n + 1, h, k, hk => by
    have h : (p n && zall n p) = true := h
    rw [Bool.and_eq_true] at h
    by_cases e : k = n
    · rw [e]; exact h.1
    · exact zall_of h.2 k (by omega)
/-! a row's contents beyond its length say nothing -/
def mskE : px_PE → px_PE
  | .inl (t, n, .inl f) => .inl (t, n, .inl (fun i => if i < n then f i else 0))
  | .inl (t, n, .inr (.inl f)) => .inl (t, n, .inr (.inl (fun i => if i < n then f i else 0)))
  | .inl (t, n, .inr (.inr (.inr (.inr f)))) => .inl (t, n, .inr (.inr (.inr (.inr (fun i => if i < n then f i else none)))))
  | e => e
theorem arrV_cg {cA : ClassId} {n : Nat} {f f' : Nat → Value} (h : ∀ j, j < n → f j = f' j) : arrV cA n f = arrV cA n f' := by
  unfold arrV
  congr 2
  funext j
  exact h j.val j.isLt
theorem msk_at {g : px_G} {k : Nat} {e : px_PE} {H : Heap} (h : va_at (px_D g) pg_cl (k, px_e g e) H) : va_at (px_D g) pg_cl (k, px_e g (mskE e)) H := by
  match e, h with
  | .inr q, h => exact h
  | .inl (t, n, .inl f), h =>
    have h : H[k]? = some (vp_cell (px_ca g t) (n, .inl f)) := h
    show H[k]? = some (vp_cell (px_ca g t) (n, .inl (fun i => if i < n then f i else 0)))
    rw [h, vp_cell_i, vp_cell_i]
    congr 1
    exact arrV_cg (fun j hj => by rw [if_pos hj])
  | .inl (t, n, .inr (.inl f)), h =>
    have h : H[k]? = some (vp_cell (px_ca g t) (n, .inr (.inl f))) := h
    show H[k]? = some (vp_cell (px_ca g t) (n, .inr (.inl (fun i => if i < n then f i else 0))))
    rw [h, vp_cell_l, vp_cell_l]
    congr 1
    exact arrV_cg (fun j hj => by rw [if_pos hj])
  | .inl (t, n, .inr (.inr (.inl f))), h => exact h
  | .inl (t, n, .inr (.inr (.inr (.inl f)))), h => exact h
  | .inl (t, n, .inr (.inr (.inr (.inr f)))), h =>
    have h : H[k]? = some (vp_cell (px_ca g t) (n, .inr (.inr (.inr (.inr (px_f g f)))))) := h
    show H[k]? = some (vp_cell (px_ca g t) (n, .inr (.inr (.inr (.inr (px_f g (fun i => if i < n then f i else none)))))))
    rw [h, vp_cell_q, vp_cell_q]
    congr 1
    refine arrV_cg (fun j hj => ?_)
    unfold px_f
    dsimp only
    rw [if_pos hj]
theorem msk_sz (e : px_PE) : px_sz (mskE e) = px_sz e := by
  match e with
  | .inr q => rfl
  | .inl (t, n, .inl f) => rfl
  | .inl (t, n, .inr (.inl f)) => rfl
  | .inl (t, n, .inr (.inr (.inl f))) => rfl
  | .inl (t, n, .inr (.inr (.inr (.inl f)))) => rfl
  | .inl (t, n, .inr (.inr (.inr (.inr f)))) => rfl
theorem msk_sum (ph : px_H) : px_sum (ph.map mskE) = px_sum ph := by
  unfold px_sum
  rw [List.map_map]
  congr 1
  apply List.map_congr_left
  intro e _
  exact msk_sz e
theorem PW_msk {l : Launch} {g : px_G} {d mi pc : Nat} {lv : px_L} {st : List Value} {ph : px_H} {Q : px_Q} (h : PW l g d mi pc lv st (ph.map mskE) Q) : PW l g d mi pc lv st ph Q := by
  intro p e R s m args below meth c H locs cells slots ls B1 B2 hC hR hS hl h1 h2 h3 h4 h5 h6
  have hlen : (ph.map mskE).length = ph.length := List.length_map _
  refine h p e R s m args below meth c H locs cells slots ls B1 B2 hC ⟨by rw [hlen]; exact hR.1, fun k e' he => ?_⟩ hS hl (by rw [hlen]; exact h1) (by rw [msk_sum]; exact h2) (by rw [hlen]; exact h3) (by rw [msk_sum]; exact h4) h5 h6
  rw [List.getElem?_map] at he
  cases e0 : ph[k]? with
  | none => rw [e0] at he; cases he
  | some e1 =>
    rw [e0] at he
    cases he
    exact msk_at (hR.2 k e1 e0)
/-! what a cell holds -/
noncomputable def zI (e : Option px_PE) (k : Nat) : Int32 := match e with
  | some (.inr q) => (match px_ix q.2 k with
    | some (.int v) => v
    | _ => 0)
  | _ => 0
noncomputable def zJ (e : Option px_PE) (k : Nat) : Int64 := match e with
  | some (.inr q) => (match px_ix q.2 k with
    | some (.long v) => v
    | _ => 0)
  | _ => 0
noncomputable def zN (e : Option px_PE) (k : Nat) : Option Nat := match e with
  | some (.inr q) => (match px_ix q.2 k with
    | some (.ref v) => some v
    | _ => none)
  | _ => none
def zaI (e : Option px_PE) : Nat → Int32 := match e with
  | some (.inl (_, n, .inl f)) => fun i => if i < n then f i else 0
  | _ => fun _ => 0
def zaJ (e : Option px_PE) : Nat → Int64 := match e with
  | some (.inl (_, n, .inr (.inl f))) => fun i => if i < n then f i else 0
  | _ => fun _ => 0
def zaN (e : Option px_PE) : Nat → Option Nat := match e with
  | some (.inl (_, n, .inr (.inr (.inr (.inr f))))) => fun i => if i < n then f i else none
  | _ => fun _ => none
def zk (e : Option px_PE) : Nat × Nat × Nat := match e with
  | some (.inr q) => (0, q.1, 0)
  | some (.inl q) => (1, q.1, q.2.1)
  | none => (9, 0, 0)
noncomputable def zT (z : px_Sz) : px_TT := (fun a k => zI (px_tg z.1 a) k, fun a k => zJ (px_tg z.1 a) k, fun a k => zN (px_tg z.1 a) k, fun a => zaI (px_tg z.1 a), fun a => zaJ (px_tg z.1 a), fun a => zaN (px_tg z.1 a))
noncomputable def zK (z : px_Sz) : Nat → Nat × Nat × Nat := fun a => zk (px_tg z.1 a)
/-- a field's value is of its kind -/
def zv (c : Nat) (v : Option Value) : Bool := match v with
  | some (.int _) => Nat.beq c 0
  | some (.long _) => Nat.beq c 1
  | some (.ref _) => Nat.beq c 2
  | some .null => Nat.beq c 2
  | _ => false
noncomputable def zok (e : Option px_PE) : Bool := match e with
  | some (.inr q) => Nat.beq q.2.length (cN q.1) && zall (cN q.1) (fun k => zv (cF q.1 k) (px_ix q.2 k))
  | some (.inl (t, _, .inl _)) => !(Nat.beq t 2) && Nat.ble t 3
  | some (.inl (t, _, .inr (.inl _))) => Nat.beq t 2
  | some (.inl (t, _, .inr (.inr (.inr (.inr _))))) => Nat.blt 3 t
  | _ => false
theorem zok_cell {z : px_Sz} {a : Nat} (h : zok (px_tg z.1 a) = true) : (px_tg z.1 a).map mskE = some (cell (zK z) (zT z) a) := by
  have f1 : eI (zT z) a = zaI (px_tg z.1 a) := rfl
  have f2 : eJ (zT z) a = zaJ (px_tg z.1 a) := rfl
  have f3 : eN (zT z) a = zaN (px_tg z.1 a) := rfl
  have fk : zK z a = zk (px_tg z.1 a) := rfl
  unfold cell
  rw [fk, f1, f2, f3]
  have hcv : ∀ ci, cv (zT z) ci a = fun k => if cF ci k = 0 then Value.int (zI (px_tg z.1 a) k) else if cF ci k = 1 then Value.long (zJ (px_tg z.1 a) k) else va_rf (zN (px_tg z.1 a) k) := fun ci => rfl
  rw [hcv]
  generalize px_tg z.1 a = e at *
  clear f1 f2 f3 fk hcv
  match e, h with
  | some (.inr q), h =>
    unfold zok at h
    dsimp only at h
    rw [Bool.and_eq_true] at h
    obtain ⟨h1, h2⟩ := h
    have hl : q.2.length = cN q.1 := Nat.eq_of_beq_eq_true h1
    have h2 := zall_of h2
    rw [show zk (some (Sum.inr q)) = (0, q.1, 0) from rfl, if_pos (show (0, q.1, 0).1 = 0 from rfl)]
    suffices key : q.2 = (List.range (cN q.1)).map (fun k => if cF q.1 k = 0 then Value.int (zI (some (Sum.inr q)) k) else if cF q.1 k = 1 then Value.long (zJ (some (Sum.inr q)) k) else va_rf (zN (some (Sum.inr q)) k)) from congrArg (fun x => some (Sum.inr (q.1, x))) key
    apply List.ext_getElem?
    intro k
    by_cases hk : k < cN q.1
    · rw [List.getElem?_map, List.getElem?_range hk]
      have h3 := h2 k hk
      have hx : px_ix q.2 k = q.2[k]? := px_ix_eq _ _
      have hv : q.2[k]? = some (q.2[k]'(by omega)) := List.getElem?_eq_getElem (by omega)
      rw [hx, hv] at h3
      rw [hv]
      show some _ = some (if cF q.1 k = 0 then Value.int (zI (some (Sum.inr q)) k) else if cF q.1 k = 1 then Value.long (zJ (some (Sum.inr q)) k) else va_rf (zN (some (Sum.inr q)) k))
      unfold zI zJ zN
      dsimp only
      rw [hx, hv]
      generalize q.2[k]'(by omega) = v at *
      match v, h3 with
      | .int x, h3 => rw [if_pos (Nat.eq_of_beq_eq_true h3)]
      | .long x, h3 =>
        have e1 : cF q.1 k = 1 := Nat.eq_of_beq_eq_true h3
        rw [if_neg (by rw [e1]; decide), if_pos e1]
      | .ref x, h3 =>
        have e1 : cF q.1 k = 2 := Nat.eq_of_beq_eq_true h3
        rw [if_neg (by rw [e1]; decide), if_neg (by rw [e1]; decide)]
        rfl
      | .null, h3 =>
        have e1 : cF q.1 k = 2 := Nat.eq_of_beq_eq_true h3
        rw [if_neg (by rw [e1]; decide), if_neg (by rw [e1]; decide)]
        rfl
    · rw [List.getElem?_eq_none (by omega), List.getElem?_eq_none (by rw [List.length_map, List.length_range]; omega)]
  | some (.inl (t, n, .inl f)), h =>
    unfold zok at h
    dsimp only at h
    rw [Bool.and_eq_true] at h
    have h1 : t ≠ 2 := fun e => by rw [e] at h; exact absurd h.1 (by decide)
    have h2 : t ≤ 3 := Nat.le_of_ble_eq_true h.2
    rw [show zk (some (Sum.inl (t, n, Sum.inl f))) = (1, t, n) from rfl, if_neg (show ¬ (1, t, n).1 = 0 from (by decide : ¬ (1 = 0))), if_neg (show ¬ (1, t, n).2.1 = 2 from h1), if_pos (show (1, t, n).2.1 ≤ 3 from h2)]
    rfl
  | some (.inl (t, n, .inr (.inl f))), h =>
    have h1 : t = 2 := Nat.eq_of_beq_eq_true h
    subst h1
    rw [show zk (some (Sum.inl (2, n, Sum.inr (Sum.inl f)))) = (1, 2, n) from rfl, if_neg (show ¬ (1, 2, n).1 = 0 from (by decide : ¬ (1 = 0))), if_pos (show (1, 2, n).2.1 = 2 from rfl)]
    rfl
  | some (.inl (t, n, .inr (.inr (.inr (.inr f))))), h =>
    have h1 : 3 < t := Nat.le_of_ble_eq_true h
    rw [show zk (some (Sum.inl (t, n, Sum.inr (Sum.inr (Sum.inr (Sum.inr f)))))) = (1, t, n) from rfl, if_neg (show ¬ (1, t, n).1 = 0 from (by decide : ¬ (1 = 0))), if_neg (show ¬ (1, t, n).2.1 = 2 from (by omega : ¬ t = 2)), if_neg (show ¬ (1, t, n).2.1 ≤ 3 from (by omega : ¬ t ≤ 3))]
    rfl
theorem zok_heap {z : px_Sz} {ph : px_H} (hR : px_Rz z ph) (h : ∀ a, a < ph.length → zok (px_tg z.1 a) = true) : ph.map mskE = cH (zK z) ph.length (zT z) := by
  apply List.ext_getElem?
  intro k
  by_cases hk : k < ph.length
  · rw [List.getElem?_map, ← hR.1, zok_cell (h k hk), cH_at hk]
  · rw [List.getElem?_eq_none (by rw [List.length_map]; omega), List.getElem?_eq_none (by rw [cH_len]; omega)]
