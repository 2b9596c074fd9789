/-! what holds at the first call -/
noncomputable def chkA (z : px_Sz) : Bool := Nat.beq z.2.1 1815 && (Nat.ble 107520 z.2.2.1 && (Nat.ble 1935360 z.2.2.2 && (zall 1815 (fun a => zok (px_tg z.1 a)) && (zall 1726 (fun a => decide (zk (px_tg z.1 a) = ks a)) && zall 89 (fun i => decide (zk (px_tg z.1 (1726 + i)) = kM i))))))
def chkL : List (Nat × Nat) := [(0, 6), (7, 1), (1, 1), (140, 2), (143, 2), (3, 1), (3, 2), (5, 1), (5, 2), (1711, 1), (1711, 2), (1714, 1), (1714, 2), (1719, 1), (1719, 2), (1718, 6), (1718, 9), (147, 15), (148, 2), (147, 14), (1700, 11)]
noncomputable def chkB (z : px_Sz) : Bool := grl.all (fun x => decide (zN (px_tg z.1 x.1) x.2.1 = some x.2.2)) && (zall 64 (fun i => decide (zN (px_tg z.1 (10 + 2 * i)) 0 = some 7) && (decide (zN (px_tg z.1 (10 + 2 * i)) 3 = some (11 + 2 * i)) && (decide (zaN (px_tg z.1 9) i = some (10 + 2 * i)) && (decide (zI (px_tg z.1 (10 + 2 * i)) 1 = nI (i / 8)) && (decide (zI (px_tg z.1 (10 + 2 * i)) 2 = nI (i % 8)) && (decide (zI (px_tg z.1 (10 + 2 * i)) 4 = 0) && (decide (zI (px_tg z.1 (10 + 2 * i)) 15 = 0) && decide (zI (px_tg z.1 (10 + 2 * i)) 16 = 0)))))))) && (chkL.all (fun x => decide (zI (px_tg z.1 x.1) x.2 = 0)) && (decide (zaI (px_tg z.1 138) 0 = 0) && (decide (zJ (px_tg z.1 1696) 0 = lN (nmL wST)) && (decide (zJ (px_tg z.1 1696) 1 = lN (nmM wST)) && (decide (zJ (px_tg z.1 1696) 2 = lN (nmH wST)) && (decide (zI (px_tg z.1 1696) 3 = nI 6) && (decide (zN (px_tg z.1 0) 1 = some 3) && (decide (zN (px_tg z.1 0) 2 = some 5) && decide (zI (px_tg z.1 147) 18 = Int32.ofInt (-1)))))))))))
noncomputable def chkP (z : px_Sz) (lo : Nat) : Bool := zall 192 (fun j => decide (zaN (px_tg z.1 151) (lo + j) = some (152 + (lo + j))))
noncomputable def chkN (z : px_Sz) : Bool := (zall 16 (fun i => decide (zaN (px_tg z.1 141) i = none)) && (zall 16 (fun i => decide (zaN (px_tg z.1 144) i = none)) && zall 17 (fun i => zall 256 (fun j => decide (zaN (px_tg z.1 149) (256 * i + j) = none)))))
noncomputable def chkC (z : px_Sz) : Bool := zall 130 (fun k => Nat.blt (mr k).1 2 || decide (zN (px_tg z.1 1726) k = some (1726 + (mr k).2.1))) && (([2, 5, 31, 32, 4, 102, 44, 20, 50, 98] : List Nat).all (fun k => decide (zI (px_tg z.1 1726) k = 0)) && (decide (zI (px_tg z.1 1726) 13 = Int32.ofInt (-1)) && (zall 64 (fun q => decide (zaI (px_tg z.1 1737) q = 0)) && (zall 6 (fun j => decide (zaI (px_tg z.1 1805) j = (nI (wST.getD j 0)).toInt8.toInt32)) && zall 27 (fun j => decide (zaI (px_tg z.1 1792) j = (nI ((wO1 ++ wO2 ++ wO3 ++ wO4).getD j 0)).toInt8.toInt32))))))
noncomputable def chkZ (A nb : Nat) (z : px_Sz) : Bool := match px_tg z.1 A with
  | some (.inl (_, n, .inl f)) => Nat.ble n (256 * nb) && zall nb (fun i => zall 256 (fun j => decide (f (256 * i + j) = 0)))
  | _ => false
theorem chkZ_of {z : px_Sz} {A nb : Nat} (h : chkZ A nb z = true) (i : Nat) : zaI (px_tg z.1 A) i = 0 := by
  unfold chkZ at h
  split at h
  · rename_i t n f e
    rw [Bool.and_eq_true] at h
    have hn := Nat.le_of_ble_eq_true h.1
    rw [e]
    show (if i < n then f i else 0) = 0
    by_cases hi : i < n
    · rw [if_pos hi]
      have w := of_decide_eq_true (zall_of (zall_of h.2 (i / 256) (by omega)) (i % 256) (by omega))
      rw [show 256 * (i / 256) + i % 256 = i by omega] at w
      exact w
    · rw [if_neg hi]
  · cases h
noncomputable def zSt (z : px_Sz) : px_S := (fun k => zI (px_tg z.1 1726) k, fun k => zJ (px_tg z.1 1726) k, fun k => zaI (px_tg z.1 (1726 + (mr k).2.1)), fun k => zaJ (px_tg z.1 (1726 + (mr k).2.1)))
theorem mA_pl : ∀ i, i < 87 → (mr (mA.getD i 0)).2.1 = i + 1 := by decide +kernel
theorem isB0 : isB 0 := by unfold isB; decide
theorem isZ0 : isZ 0 := ⟨false, rfl⟩
theorem zaN_out : ∀ {e : Option px_PE} {n i : Nat}, zk e = (1, 5, n) → ¬ i < n → zaN e i = none
  | some (.inl (t, n', .inr (.inr (.inr (.inr f))))), n, i, hk, hi => by
    have hn : n' = n := (Prod.mk.inj (Prod.mk.inj hk).2).2
    show (if i < n' then f i else none) = none
    rw [if_neg (by omega)]
  | some (.inl (_, _, .inl _)), _, _, _, _ => rfl
  | some (.inl (_, _, .inr (.inl _))), _, _, _, _ => rfl
  | some (.inl (_, _, .inr (.inr (.inl _)))), _, _, _, _ => rfl
  | some (.inl (_, _, .inr (.inr (.inr (.inl _))))), _, _, _, _ => rfl
  | some (.inr _), _, _, _, _ => rfl
  | none, _, _, _, _ => rfl
section INV0
variable {z : px_Sz} {ph : px_H}
theorem MQs_0 (hC : chkC z = true) : MQs (zT z) (zSt z) := by
  unfold chkC at hC
  rw [Bool.and_eq_true] at hC
  refine ⟨fun _ => rfl, fun _ => rfl, fun k hk h2 => ?_, fun i hi => ⟨?_, ?_⟩⟩
  · have w := zall_of hC.1 k hk
    rw [Bool.or_eq_true] at w
    rcases w with w | w
    · have : (mr k).1 < 2 := Nat.le_of_ble_eq_true w
      omega
    · exact of_decide_eq_true w
  · show zaI (px_tg z.1 (1727 + i)) = zaI (px_tg z.1 (1726 + (mr (mA.getD i 0)).2.1))
    rw [mA_pl i hi, show 1726 + (i + 1) = 1727 + i by omega]
  · show zaJ (px_tg z.1 (1727 + i)) = zaJ (px_tg z.1 (1726 + (mr (mA.getD i 0)).2.1))
    rw [mA_pl i hi, show 1726 + (i + 1) = 1727 + i by omega]
theorem cb_0 (B : Nat → Int32) : cb B 0 0 = fun _ => 0 := by
  funext x
  unfold cb
  rw [if_neg (Nat.not_lt_zero x)]
theorem src_0 {T : Nat → Int32} {p N : Nat} {w W : List Nat} (h : ∀ j, j < N → T j = (nI (W.getD j 0)).toInt8.toInt32) (hp : p + w.length ≤ N) (hw : ∀ j, j < w.length → W.getD (p + j) 0 = w.getD j 0) : srcT T p w := fun j x hx => by
  have hj : j < w.length := (List.getElem?_eq_some_iff.mp hx).1
  rw [h (p + j) (by omega), hw j hj, List.getD_eq_getElem?_getD, hx]
  rfl
theorem RV_init (hC : chkC z = true) (z1 : chkZ 1727 32 z = true) (z3 : chkZ 1728 256 z = true) (z6 : chkZ 1729 256 z = true) (z42 : chkZ 1758 256 z = true) (z91 : chkZ 1786 256 z = true) : RV (zSt z) [] [] [] 0 (fun _ => 0) (Int32.ofInt (-1)) ((fun _ => false, 0, fun _ => false), fun _ => none, [], [], []) := by
  unfold chkC at hC
  rw [Bool.and_eq_true, Bool.and_eq_true, Bool.and_eq_true, Bool.and_eq_true, Bool.and_eq_true] at hC
  obtain ⟨-, hL, h13, h18, h116, h97⟩ := hC
  have g0 : ∀ k, k ∈ ([2, 5, 31, 32, 4, 102, 44, 20, 50, 98] : List Nat) → gI (zSt z) k = nI 0 := fun k hk => of_decide_eq_true (List.all_eq_true.mp hL k hk)
  have b : ∀ {A nb : Nat}, chkZ A nb z = true → ∀ k, isB (zaI (px_tg z.1 A) k) := fun h k => by rw [chkZ_of h k]; exact isB0
  have w97 : ∀ j, j < 27 → gA (zSt z) 97 j = (nI ((wO1 ++ wO2 ++ wO3 ++ wO4).getD j 0)).toInt8.toInt32 := fun j hj => of_decide_eq_true (zall_of h97 j hj)
  have w116 : ∀ j, j < 6 → gA (zSt z) 116 j = (nI (wST.getD j 0)).toInt8.toInt32 := fun j hj => of_decide_eq_true (zall_of h116 j hj)
  refine ⟨⟨g0 2 (by decide), Nat.zero_le _, b z1, cb_0 _⟩, ⟨g0 5 (by decide), by decide, b z6, fun f x h => (by cases h)⟩, ⟨g0 31 (by decide), ⟨by decide, fun i w h => (by cases h)⟩, fun i x h => (by cases h)⟩, ⟨g0 32 (by decide), by decide, fun i w h => (by cases h)⟩, ⟨⟨0, by decide, g0 4 (by decide)⟩, b z3⟩, ⟨0, by decide, g0 102 (by decide), fun i h => absurd h (Nat.not_lt_zero i)⟩, ⟨0, by decide, g0 44 (by decide), fun i h => absurd h (Nat.not_lt_zero i)⟩, ⟨⟨[], ⟨g0 20 (by decide), by decide, fun i w h => (by cases h)⟩, fun q hq => Or.inl (of_decide_eq_true (zall_of h18 q hq))⟩, ⟨0, by decide, g0 50 (by decide)⟩, fun h => ?_, ⟨⟨⟨fun q hq => ⟨false, of_decide_eq_true (zall_of h18 q hq)⟩, [], ⟨g0 20 (by decide), by decide, fun i w h => (by cases h)⟩, fun q hq => absurd hq (Nat.not_lt_zero q)⟩, fun ha => absurd ha (by decide)⟩, fun ha => absurd ha (by decide)⟩⟩, of_decide_eq_true h13, b z42, b z91, ⟨false, g0 98 (by decide)⟩, src_0 w116 (by decide) (by decide), src_0 w97 (by decide) (by decide), src_0 w97 (by decide) (by decide), src_0 w97 (by decide) (by decide), src_0 w97 (by decide) (by decide)⟩
  have h13' : gI (zSt z) 13 = Int32.ofInt (-1) := of_decide_eq_true h13
  rw [h13'] at h
  exact absurd h (by decide)
theorem CV_init {L : Nat} (hA : chkA z = true) (hB : chkB z = true) (hN : chkN z = true) (hP : ∀ j, j < 8 → chkP z (192 * j) = true) (hL : 1815 ≤ L) (z2 : chkZ 2 32 z = true) (z4 : chkZ 4 256 z = true) (z6 : chkZ 6 256 z = true) (z8 : chkZ 8 256 z = true) (zA : chkZ 1712 256 z = true) (zB : chkZ 1715 6 z = true) (zC : chkZ 1720 256 z = true) : CV (zK z) L (fun _ => (0, 0)) (zT z) [] [] [] 0 (fun _ => 0) (Int32.ofInt (-1)) ((fun _ => false, 0, fun _ => false), fun _ => none, [], [], []) := by
  unfold chkA at hA
  rw [Bool.and_eq_true, Bool.and_eq_true, Bool.and_eq_true, Bool.and_eq_true, Bool.and_eq_true] at hA
  obtain ⟨-, -, -, -, hks, -⟩ := hA
  unfold chkB at hB
  simp only [Bool.and_eq_true] at hB
  obtain ⟨hgr, h64, hl, h138, hn0, hn1, hn2, hn3, ho, hd, h18⟩ := hB
  unfold chkN at hN
  rw [Bool.and_eq_true, Bool.and_eq_true] at hN
  obtain ⟨h141, h144, h149⟩ := hN
  have h151 : ∀ i, i < 1536 → zaN (px_tg z.1 151) i = some (152 + i) := fun i hi => by
    have w := of_decide_eq_true (zall_of (hP (i / 192) (by omega)) (i % 192) (by omega))
    rw [show 192 * (i / 192) + i % 192 = i by omega] at w
    exact w
  have b : ∀ {A nb : Nat}, chkZ A nb z = true → ∀ k, isB (zaI (px_tg z.1 A) k) := fun h k => by rw [chkZ_of h k]; exact isB0
  have g0 : ∀ a k, (a, k) ∈ chkL → fI (zT z) a k = nI 0 := fun a k h => of_decide_eq_true (List.all_eq_true.mp hl (a, k) h)
  have gs0 : GS (zK z) L := ⟨hL, fun a ha => of_decide_eq_true (zall_of hks a ha)⟩
  have gr : ∀ x, x ∈ grl → fN (zT z) x.1 x.2.1 = some x.2.2 := fun x hx => of_decide_eq_true (List.all_eq_true.mp hgr x hx)
  have q64 : ∀ i, i < 64 → fN (zT z) (10 + 2 * i) 0 = some 7 ∧ fN (zT z) (10 + 2 * i) 3 = some (11 + 2 * i) ∧ eN (zT z) 9 i = some (10 + 2 * i) ∧ fI (zT z) (10 + 2 * i) 1 = nI (i / 8) ∧ fI (zT z) (10 + 2 * i) 2 = nI (i % 8) ∧ fI (zT z) (10 + 2 * i) 4 = 0 ∧ fI (zT z) (10 + 2 * i) 15 = 0 ∧ fI (zT z) (10 + 2 * i) 16 = 0 := fun i hi => by
    have w := zall_of h64 i hi
    simp only [Bool.and_eq_true] at w
    exact ⟨of_decide_eq_true w.1, of_decide_eq_true w.2.1, of_decide_eq_true w.2.2.1, of_decide_eq_true w.2.2.2.1, of_decide_eq_true w.2.2.2.2.1, of_decide_eq_true w.2.2.2.2.2.1, of_decide_eq_true w.2.2.2.2.2.2.1, of_decide_eq_true w.2.2.2.2.2.2.2⟩
  have hG : GR (zT z) := ⟨gr, fun i hi => ⟨(q64 i hi).1, (q64 i hi).2.1, (q64 i hi).2.2.1, (q64 i hi).2.2.2.1, (q64 i hi).2.2.2.2.1⟩, fun i hi => h151 i hi⟩
  have no : ∀ {A n : Nat}, zk (px_tg z.1 A) = (1, 5, n) → (∀ i, i < n → zaN (px_tg z.1 A) i = none) → ∀ i, eN (zT z) A i = none := fun {A n} hk h i => by
    show zaN (px_tg z.1 A) i = none
    by_cases hi : i < n
    · exact h i hi
    · exact zaN_out hk hi
  have kz : ∀ a, a < 1726 → zk (px_tg z.1 a) = ks a := fun a ha => of_decide_eq_true (zall_of hks a ha)
  have n141 := no (A := 141) (n := 16) (kz 141 (by decide)) (fun i hi => of_decide_eq_true (zall_of h141 i hi))
  have n144 := no (A := 144) (n := 16) (kz 144 (by decide)) (fun i hi => of_decide_eq_true (zall_of h144 i hi))
  have n149 := no (A := 149) (n := 4128) (kz 149 (by decide)) (fun i hi => by
    have w := of_decide_eq_true (zall_of (zall_of h149 (i / 256) (by omega)) (i % 256) (by omega))
    rw [show 256 * (i / 256) + i % 256 = i by omega] at w
    exact w)
  have ro : ∀ r A n, r < 1726 → ks r = (0, 10, 0) → A < 1726 → ks A = (1, 0, n) → n ≤ 65536 → (r, 0, A) ∈ grl → (r, 1) ∈ chkL → (r, 2) ∈ chkL → (∀ k, isB (zaI (px_tg z.1 A) k)) → rowOK (zK z) L (zT z) r A n := fun r A n h1 h2 h3 h4 h5 h6 h7 h8 h9 => ⟨GS_o gs0 h1 h2, ⟨(gs0.2 A h3).trans h4, by omega⟩, h5, gr _ h6, ⟨0, Nat.zero_le _, g0 r 1 h7⟩, ⟨false, g0 r 2 h8⟩, h9⟩
  refine ⟨gs0, hG, fun A i p hA hp => ?_, ⟨g0 0 6 (by decide), by decide, b z8, g0 7 1 (by decide), fun k hk => ?_, fun f x h => (by cases h), fun f j h1 h2 h3 => ?_⟩, ⟨⟨GS_o gs0 (by decide) (by decide), gr (140, 0, 141) (by decide), ⟨gs0.2 141 (by decide), by omega⟩, by decide, by decide, g0 140 2 (by decide), fun i w h => (by cases h)⟩, fun i x h => (by cases h)⟩, ⟨GS_o gs0 (by decide) (by decide), gr (143, 0, 144) (by decide), ⟨gs0.2 144 (by decide), by omega⟩, by decide, by decide, g0 143 2 (by decide), fun i w h => (by cases h)⟩, ⟨g0 1 1 (by decide), Nat.zero_le _, b z2, cb_0 _⟩, ⟨⟨of_decide_eq_true hn0, of_decide_eq_true hn1, of_decide_eq_true hn2, of_decide_eq_true hn3⟩, ⟨⟨3, 5, Or.inl ⟨rfl, rfl⟩, of_decide_eq_true ho, of_decide_eq_true hd⟩, ro 3 4 65536 (by decide) (by decide) (by decide) (by decide) (by decide) (by decide) (by decide) (by decide) (b z4), ro 5 6 65536 (by decide) (by decide) (by decide) (by decide) (by decide) (by decide) (by decide) (by decide) (b z6), ro 1711 1712 65536 (by decide) (by decide) (by decide) (by decide) (by decide) (by decide) (by decide) (by decide) (b zA), ro 1714 1715 1536 (by decide) (by decide) (by decide) (by decide) (by decide) (by decide) (by decide) (by decide) (b zB), ro 1719 1720 65536 (by decide) (by decide) (by decide) (by decide) (by decide) (by decide) (by decide) (by decide) (b zC)⟩, ⟨⟨0, by decide, g0 1718 6 (by decide)⟩, 0, by decide, g0 1718 9 (by decide)⟩, ⟨⟨0, by decide, g0 147 15 (by decide), fun i h => absurd h (Nat.not_lt_zero i)⟩, [], by decide, fun x h => (by cases h), g0 1700 11 (by decide), fun i x h => (by cases h)⟩, ⟨0, by decide, g0 148 2 (by decide), fun i h => absurd h (Nat.not_lt_zero i)⟩, 0, by decide, g0 147 14 (by decide)⟩, ⟨⟨fun q hq => ⟨(q64 q hq).2.2.2.2.2.2.1, fun _ => (q64 q hq).2.2.2.2.2.2.2, fun w e => (by cases e), fun _ => rfl⟩, fun ha => absurd ha (by decide)⟩, fun ha => absurd ha (by decide)⟩, ⟨List.nodup_nil, fun w h => (by cases h), fun w h => (by cases h)⟩, of_decide_eq_true h18⟩
  · rcases hA with rfl | rfl | rfl
    · rw [n141] at hp; cases hp
    · rw [n144] at hp; cases hp
    · rw [n149] at hp; cases hp
  · have : k = 0 := Nat.le_zero.mp hk
    subst this
    exact of_decide_eq_true h138
  · exact (q64 (8 * f + j) (by omega)).2.2.2.2.2.1
theorem INV_0 (hR : px_Rz z ph) (hA : chkA z = true) (hB : chkB z = true) (hN : chkN z = true) (hP : ∀ j, j < 8 → chkP z (192 * j) = true) (hC : chkC z = true) (z2 : chkZ 2 32 z = true) (z4 : chkZ 4 256 z = true) (z6 : chkZ 6 256 z = true) (z8 : chkZ 8 256 z = true) (zA : chkZ 1712 256 z = true) (zB : chkZ 1715 6 z = true) (zC : chkZ 1720 256 z = true) (y1 : chkZ 1727 32 z = true) (y3 : chkZ 1728 256 z = true) (y6 : chkZ 1729 256 z = true) (y42 : chkZ 1758 256 z = true) (y91 : chkZ 1786 256 z = true) : INV 512 (ph.map mskE) := by
  have hA' := hA
  unfold chkA at hA
  rw [Bool.and_eq_true, Bool.and_eq_true, Bool.and_eq_true, Bool.and_eq_true, Bool.and_eq_true] at hA
  obtain ⟨h0, h1, h2, h3, h4, h5⟩ := hA
  have hl : ph.length = 1815 := hR.2.1.trans (Nat.eq_of_beq_eq_true h0)
  have eh := zok_heap hR (fun a ha => zall_of h3 a (by omega))
  have k1 := Nat.le_of_ble_eq_true h1
  have k2 := Nat.le_of_ble_eq_true h2
  have es : px_sum ph = smk (zK z) ph.length := by rw [← msk_sum, eh, sum_cH]
  refine ⟨zK z, ph.length, fun _ => (0, 0), zT z, zSt z, [], [], [], 0, fun _ => 0, Int32.ofInt (-1), ((fun _ => false, 0, fun _ => false), fun _ => none, [], [], []), eh, fun i hi => of_decide_eq_true (zall_of h5 i hi), MQs_0 hC, CV_init hA' hB hN hP (by omega) z2 z4 z6 z8 zA zB zC, RV_init hC y1 y3 y6 y42 y91, ⟨?_, ?_⟩, by decide⟩
  · have := hR.2.2.1; omega
  · have := hR.2.2.2; omega
end INV0
