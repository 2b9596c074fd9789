/-! Math.max, Math.min: the library's contracts -/
theorem pg_mathw : pg_okw 46 (.static Lib.Math.max.name) = true ∧ pg_okw 1041 (.static Lib.Math.min.name) = true ∧ pg_okw 861 (.static Lib.MathLoose.max_long.x) = true ∧ pg_okw 1457 (.static Lib.MathLoose.min_long.x) = true ∧ pg_okw 3 (.initialized "java/lang/Math") = true := by decide +kernel
set_option maxRecDepth 1000000 in
theorem pg_mathc1 : pg_tb 47 = some (.code Lib.Math.max.name Lib.Math.max.code 2 (some .int)) := by rfl
set_option maxRecDepth 1000000 in
theorem pg_mathc2 : pg_tb 1042 = some (.code Lib.Math.min.name Lib.Math.min.code 2 (some .int)) := by rfl
set_option maxRecDepth 1000000 in
theorem pg_mathc3 : pg_tb 862 = some (.code Lib.MathLoose.max_long.x Lib.MathLoose.max_long.code 4 (some .long)) := by rfl
set_option maxRecDepth 1000000 in
theorem pg_mathc4 : pg_tb 1458 = some (.code Lib.MathLoose.min_long.x Lib.MathLoose.min_long.code 4 (some .long)) := by rfl
section PXM
variable {l : Launch} {g : px_G} {d mi pc : Nat} {lv : px_L} {st : List Value} {ph : px_H} {Q : px_Q} {nx r2 idx : Nat}
theorem px_max {x y : Int32} (hcd : pg_cd mi pc = some (.invokestatic idx, nx, 9001, r2)) (hrs : Nat.ble (st.map fun v => v.category).sum 8 = true) (hp : pc + 3 = nx) (kk : PW l g (d + 1) mi nx lv (.int (if x < y then y else x) :: st) ph Q) : PW l g (d + 1) mi pc lv (.int y :: .int x :: st) ph Q := by
  subst hp
  intro p e R s m args below meth c H locs cells slots ls B1 B2 hC hR hS hl h1 h2 h3 h4 h5 h6
  have k1 := kk p e R s m args below meth c H locs cells slots ls B1 B2 hC hR hS hl h1 h2 h3 h4 h5 h6
  obtain ⟨hx, hb, hml, hrt, hown, hts, hlk, hnm, hK0, hbs, hZ, hd1, hd2, hWs, hB⟩ := hC
  have h8 := px_rest (g := g) (Nat.le_of_ble_eq_true hrs) m pc ls []
  obtain ⟨w1, w2, w3, w4, w5⟩ := pg_mathw
  exact va_mmax hx hb (by rw [hml]; exact hl.1.symm) hown (hts _ (pg_spc (Or.inl hcd) rfl rfl)) (hts _ (pg_okw_in w1)) (hts _ (pg_okw_in w5)) (hts _ (pg_at pg_mathc1 rfl)) (by omega) (by omega) (by omega) (by omega) (pg_dec hcd) k1
theorem px_min {x y : Int32} (hcd : pg_cd mi pc = some (.invokestatic idx, nx, 9002, r2)) (hrs : Nat.ble (st.map fun v => v.category).sum 8 = true) (hp : pc + 3 = nx) (kk : PW l g (d + 1) mi nx lv (.int (if y < x then y else x) :: st) ph Q) : PW l g (d + 1) mi pc lv (.int y :: .int x :: st) ph Q := by
  subst hp
  intro p e R s m args below meth c H locs cells slots ls B1 B2 hC hR hS hl h1 h2 h3 h4 h5 h6
  have k1 := kk p e R s m args below meth c H locs cells slots ls B1 B2 hC hR hS hl h1 h2 h3 h4 h5 h6
  obtain ⟨hx, hb, hml, hrt, hown, hts, hlk, hnm, hK0, hbs, hZ, hd1, hd2, hWs, hB⟩ := hC
  have h8 := px_rest (g := g) (Nat.le_of_ble_eq_true hrs) m pc ls []
  obtain ⟨w1, w2, w3, w4, w5⟩ := pg_mathw
  exact va_mmin hx hb (by rw [hml]; exact hl.1.symm) hown (hts _ (pg_spc (Or.inl hcd) rfl rfl)) (hts _ (pg_okw_in w2)) (hts _ (pg_okw_in w5)) (hts _ (pg_at pg_mathc2 rfl)) (by omega) (by omega) (by omega) (by omega) (pg_dec hcd) k1
theorem px_maxl {x y : Int64} (hcd : pg_cd mi pc = some (.invokestatic idx, nx, 9003, r2)) (hrs : Nat.ble (st.map fun v => v.category).sum 8 = true) (hp : pc + 3 = nx) (kk : PW l g (d + 1) mi nx lv (.long (if y < x then x else y) :: st) ph Q) : PW l g (d + 1) mi pc lv (.long y :: .long x :: st) ph Q := by
  subst hp
  intro p e R s m args below meth c H locs cells slots ls B1 B2 hC hR hS hl h1 h2 h3 h4 h5 h6
  have k1 := kk p e R s m args below meth c H locs cells slots ls B1 B2 hC hR hS hl h1 h2 h3 h4 h5 h6
  obtain ⟨hx, hb, hml, hrt, hown, hts, hlk, hnm, hK0, hbs, hZ, hd1, hd2, hWs, hB⟩ := hC
  have h8 := px_rest (g := g) (Nat.le_of_ble_eq_true hrs) m pc ls []
  obtain ⟨w1, w2, w3, w4, w5⟩ := pg_mathw
  exact va_mmax_long hx hb (by rw [hml]; exact hl.1.symm) hown (hts _ (pg_spc (Or.inl hcd) rfl rfl)) (hts _ (pg_okw_in w3)) (hts _ (pg_okw_in w5)) (hts _ (pg_at pg_mathc3 rfl)) (by omega) (by omega) (by omega) (by omega) (pg_dec hcd) k1
theorem px_minl {x y : Int64} (hcd : pg_cd mi pc = some (.invokestatic idx, nx, 9004, r2)) (hrs : Nat.ble (st.map fun v => v.category).sum 8 = true) (hp : pc + 3 = nx) (kk : PW l g (d + 1) mi nx lv (.long (if y < x then y else x) :: st) ph Q) : PW l g (d + 1) mi pc lv (.long y :: .long x :: st) ph Q := by
  subst hp
  intro p e R s m args below meth c H locs cells slots ls B1 B2 hC hR hS hl h1 h2 h3 h4 h5 h6
  have k1 := kk p e R s m args below meth c H locs cells slots ls B1 B2 hC hR hS hl h1 h2 h3 h4 h5 h6
  obtain ⟨hx, hb, hml, hrt, hown, hts, hlk, hnm, hK0, hbs, hZ, hd1, hd2, hWs, hB⟩ := hC
  have h8 := px_rest (g := g) (Nat.le_of_ble_eq_true hrs) m pc ls []
  obtain ⟨w1, w2, w3, w4, w5⟩ := pg_mathw
  exact va_mmin_long hx hb (by rw [hml]; exact hl.1.symm) hown (hts _ (pg_spc (Or.inl hcd) rfl rfl)) (hts _ (pg_okw_in w4)) (hts _ (pg_okw_in w5)) (hts _ (pg_at pg_mathc4 rfl)) (by omega) (by omega) (by omega) (by omega) (pg_dec hcd) k1
end PXM
/-! System.arraycopy of bytes -/
theorem pg_acw : pg_okw 1162 (.native arraycopyName) = true ∧ pg_okw 1161 (.static arraycopyName) = true ∧ pg_okw 24 (.initialized "java/lang/System") = true := by decide +kernel
theorem px_nn {z : Int32} (hz : ¬ z < 0) : z.toInt = (z.toNatClampNeg : Int) := by
  have hz0 : (0 : Int) ≤ z.toInt := by
    have := Int32.not_lt.mp hz
    simpa using Int32.le_iff_toInt_le.mp this
  show z.toInt = ((z.toInt.toNat : Nat) : Int)
  omega
section PXCP
variable {l : Launch} {g : px_G} {d mi pc : Nat} {lv : px_L} {st : List Value} {ph : px_H} {Q : px_Q} {nx r2 idx : Nat}
set_option maxHeartbeats 1000000 in
theorem px_copy {a0 a1 n0 n1 : Nat} {f f1 : Nat → Int32} {sp dp n : Int32} (hcd : pg_cd mi pc = some (.invokestatic idx, nx, 9005, r2)) (hrs : Nat.ble (st.map fun v => v.category).sum 8 = true) (he0 : ph[a0]? = some (.inl (0, n0, .inl f))) (he1 : ph[a1]? = some (.inl (0, n1, .inl f1)))
    (b1 : ¬ sp < 0) (b2 : ¬ dp < 0) (b3 : ¬ n < 0) (b4 : sp.toNatClampNeg + n.toNatClampNeg ≤ n0) (b5 : dp.toNatClampNeg + n.toNatClampNeg ≤ n1) (hfit : ∀ i, i < n.toNatClampNeg → fits .byte (.int (f (sp.toNatClampNeg + i))) = true) (hp : pc + 3 = nx)
    (kk : PW l g (d + 1) mi nx lv st (ph.set a1 (.inl (0, n1, .inl (va_cpy f f1 sp.toNatClampNeg dp.toNatClampNeg n.toNatClampNeg)))) Q) : PW l g (d + 1) mi pc lv (.int n :: .int dp :: .ref a1 :: .int sp :: .ref a0 :: st) ph Q := by
  subst hp
  intro p e R s m args below meth c H locs cells slots ls B1 B2 hC hR hS hl h1 h2 h3 h4 h5 h6
  have hC' := hC
  obtain ⟨hx, hb, hml, hrt, hown, hts, hlk, hnm, hK, hbs, hZ, hd1, hd2, hWs, hB⟩ := hC
  obtain ⟨w1, w2, w3⟩ := pg_acw
  have h8 := px_rest (g := g) (Nat.le_of_ble_eq_true hrs) m pc ls []
  have ht : (px_tys g)[0]? = some (px_ca g 0, .byte) := px_tys_at rfl
  have hnf : nativeFrameWords "java/lang/System" "arraycopy" 5 ≤ 40 := by decide
  intro T hT X
  have hc0 : H[px_b g + a0]? = some (vp_cell (px_ca g 0) (n0, .inl f)) := hR.2 a0 _ he0
  have hc1 : H[px_b g + a1]? = some (vp_cell (px_ca g 0) (n1, .inl f1)) := hR.2 a1 _ he1
  obtain ⟨-, k0, hk0, cm0, hkk0⟩ := (hK.2 0 _ ht).1 n0 (fun j => .int (f j))
  obtain ⟨-, k1, hk1, cm1, hkk1⟩ := (hK.2 0 _ ht).1 n1 (fun j => .int (f1 j))
  obtain ⟨vm', X', step⟩ := X.arraycopy hx hown (hts _ (pg_spc (Or.inl hcd) rfl rfl)) (hts _ (pg_okw_in w1)) (hts _ (pg_okw_in w2)) (hts _ (pg_okw_in w3)) (src := px_b g + a0) (dst := px_b g + a1) (cs := vp_cell (px_ca g 0) (n0, .inl f)) (cd := vp_cell (px_ca g 0) (n1, .inl f1)) (srcPos := sp) (destPos := dp) (n := n) (by rw [hT]; exact hc0) (by rw [hT]; exact hc1)
    (fun _ h => by cases h) (fun _ h => by cases h) (fun h => by cases h) (fun h => by cases h) hk0 hk1 hkk0 hkk1 (by rfl) b1 b2 b3
    (by rw [px_nn b1, px_nn b3]; show ¬ _ > ((arrV (px_ca g 0) n0 (fun j => .int (f j))).slots.size : Int); rw [arrV_size]; omega)
    (by rw [px_nn b2, px_nn b3]; show ¬ _ > ((arrV (px_ca g 0) n1 (fun j => .int (f1 j))).slots.size : Int); rw [arrV_size]; omega)
    (fun vm₁ _ i hi => by
      have e9 : (vp_cell (px_ca g 0) (n0, .inl f)).slots.getD (sp.toNatClampNeg + i) .null = .int (f (sp.toNatClampNeg + i)) := by
        show (arrV (px_ca g 0) n0 (fun j => .int (f j))).slots.getD _ _ = _
        rw [Array.getD_eq_getD_getElem?, arrV_read _ _ (by omega)]
        rfl
      refine ⟨?_, ?_⟩
      · rw [e9]; exact hfit i hi
      · rw [e9]; exact trivial)
    (g := F0 m pc ls ((.int n :: .int dp :: .ref a1 :: .int sp :: .ref a0 :: st).map (px_v g))) rfl (by rw [hml]; exact hl.1) (rest := st.map (px_v g)) rfl (by rw [hb]; exact pg_dec hcd) (by omega) (by show 2 * 0 + _ + (nativeFrameWords "java/lang/System" "arraycopy" 5 + 11) ≤ _; omega)
  have e1 : copied (vp_cell (px_ca g 0) (n0, .inl f)) (vp_cell (px_ca g 0) (n1, .inl f1)) sp dp n = vp_cell (px_ca g 0) (n1, .inl (va_cpy f f1 sp.toNatClampNeg dp.toNatClampNeg n.toNatClampNeg)) := va_copied (fun z => .int z) (px_ca g 0) (px_ca g 0) f f1 b4
  rw [e1] at X' step
  generalize hW : vp_cell (px_ca g 0) (n1, .inl (va_cpy f f1 sp.toNatClampNeg dp.toNatClampNeg n.toNatClampNeg)) = W1 at X' step
  have hl1 : px_b g + a1 < H.size := (Array.getElem?_eq_some_iff.mp hc1).1
  have hheap : ((T.setVm vm').setCell (px_b g + a1) W1).heap = H.setIfInBounds (px_b g + a1) W1 := by rw [← hT]; rfl
  have oq : ∀ q : Nat, q ≠ px_b g + a1 → (H.setIfInBounds (px_b g + a1) W1)[q]? = H[q]? := fun q hq => by simp [Array.getElem?_setIfInBounds, Ne.symm hq]
  have hz : (H.setIfInBounds (px_b g + a1) W1).size = H.size := by simp
  have hat : va_at (px_D g) pg_cl (px_b g + a1, px_e g (.inl (0, n1, .inl (va_cpy f f1 sp.toNatClampNeg dp.toNatClampNeg n.toNatClampNeg)))) (H.setIfInBounds (px_b g + a1) W1) := by
    show (H.setIfInBounds (px_b g + a1) W1)[px_b g + a1]? = some (vp_cell (px_ca g 0) (n1, .inl (va_cpy f f1 sp.toNatClampNeg dp.toNatClampNeg n.toNatClampNeg)))
    rw [hW]
    simp [Array.getElem?_setIfInBounds, hl1]
  have w : ∀ locs1 : List Loc, (∀ q ∈ locs1, px_A g q.base) → W p l e R s m args below meth c (H.setIfInBounds (px_b g + a1) W1) locs1 cells slots (px_E g below s B1 B2 Q) (F0 m (pc + 3) ls (st.map (px_v g))) := fun locs1 hq => kk p e R s m args below meth c (H.setIfInBounds (px_b g + a1) W1) locs1 cells slots ls B1 B2 hC' (hR.set he1 hz oq hat) ⟨by rw [hz]; exact hS.1, fun q g1 g2 => by
      rw [oq q (fun e => g2 (by rw [e]; exact px_A_in g a1))]
      exact hS.2.1 q g1 g2, hq⟩ hl (by rw [List.length_set]; exact h1) (by rw [px_sum_set (e' := (.inl (0, n1, .inl (va_cpy f f1 sp.toNatClampNeg dp.toNatClampNeg n.toNatClampNeg)))) he1 rfl]; exact h2) (by rw [List.length_set]; exact h3) (by rw [px_sum_set (e' := (.inl (0, n1, .inl (va_cpy f f1 sp.toNatClampNeg dp.toNatClampNeg n.toNatClampNeg)))) he1 rfl]; exact h4) h5 h6
  obtain ⟨t, a2, b2⟩ := w _ (fun q hq => by
      rcases List.mem_append.mp hq with h | h
      · exact hS.2.2 q h
      · obtain ⟨z, -, hz⟩ := List.mem_map.mp h
        rw [← hz]
        exact px_A_in g a1) _ hheap X'
  exact ⟨t, step t a2, b2⟩
end PXCP
