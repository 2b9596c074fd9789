/-! p1: one call on fresh objects: what the function computes, as what the law asks -/
noncomputable def fe (n mj : Nat) (As : List Value) (z : px_Sz) : Option ((Option Value ⊕ Nat) × px_Sz) := px_ex n 38 mj (pg_ml mj) (pg_L mj) (px_en As (pg_ml mj)) [] z
noncomputable def fi (z : px_Sz) (m : Nat) : Bool := match px_tg z.1 m with
  | some (.inr (12, _)) => true
  | _ => false
noncomputable def fo9 (z : px_Sz) (o : Nat) (k : Int32) (b : Int64) : Bool := match px_tg z.1 o with
  | some (.inl (2, 1, .inr (.inl f))) => !(k == 0) || f 0 == b
  | _ => false
noncomputable def fk_w (n mw mm : Nat) (As : List Value) (z : px_Sz) (m o : Nat) : Bool := match fe n mw (.ref 0 :: (As ++ [.ref o])) z with
  | some (.inl (some (.int k)), z1) => fi z1 m && (match fe n mm (.ref m :: As) z1 with
    | some (.inl (some (.int b)), z2) => fi z2 m && (match fe n m_M_thrown [.ref m] z2 with
      | some (.inl (some (.int t)), z3) => t == k && fo9 z3 o k b.toInt64
      | _ => false)
    | _ => false)
  | _ => false
noncomputable def fk_wl (n mw mm : Nat) (As : List Value) (z : px_Sz) (m o : Nat) : Bool := match fe n mw (.ref 0 :: (As ++ [.ref o])) z with
  | some (.inl (some (.int k)), z1) => fi z1 m && (match fe n mm (.ref m :: As) z1 with
    | some (.inl (some (.long b)), z2) => fi z2 m && (match fe n m_M_thrown [.ref m] z2 with
      | some (.inl (some (.int t)), z3) => t == k && fo9 z3 o k b
      | _ => false)
    | _ => false)
  | _ => false
noncomputable def fk_d (n mh mm : Nat) (As : List Value) (z : px_Sz) (m : Nat) : Bool := match fe n mh (.ref 0 :: As) z with
  | some (.inl (some (.int k)), z1) => fi z1 m && (match fe n mm (.ref m :: As) z1 with
    | some (.inl (some (.int b)), _) => b == k
    | _ => false)
  | _ => false
noncomputable def fk_v (n mh mm : Nat) (z : px_Sz) (m : Nat) : Bool := match fe n mh [.ref 0] z with
  | some (.inl none, z1) => fi z1 m && (match fe n mm [.ref m] z1 with
    | some (.inl none, _) => true
    | _ => false)
  | _ => false
section FKW
variable {l : Launch} {g : px_G} {d n mw mm m o : Nat} {As : List Value} {z : px_Sz} {ph : px_H} {lvW lvM : px_L} {K : px_H → Prop}
theorem fi_of (h : fi z m = true) (hR : px_Rz z ph) : ∃ mf, ph[m]? = some (.inr (12, mf)) := by
  unfold fi at h
  split at h
  · rename_i mf he
    exact ⟨mf, by rw [← hR.1]; exact he⟩
  · cases h
theorem fo9_of {k : Int32} {b : Int64} (h : fo9 z o k b = true) (hR : px_Rz z ph) : ∃ f, ph[o]? = some (.inl (2, 1, .inr (.inl f))) ∧ (k = 0 → f 0 = b) := by
  unfold fo9 at h
  split at h
  · rename_i f he
    refine ⟨f, by rw [← hR.1]; exact he, fun hk => ?_⟩
    subst hk
    simpa using h
  · cases h
theorem fk_w_ok (hfl : l.flags = flags0) (hgk : px_gk g) (hd : 38 ≤ d) (h : fk_w n mw mm As z m o = true) (hR : px_Rz z ph) (hW : px_en (.ref 0 :: (As ++ [.ref o])) (pg_ml mw) = lvW) (hM : px_en (.ref m :: As) (pg_ml mm) = lvM) (kk : ∀ ph3, K ph3) :
    PW l g d mw 0 lvW [] ph (fun r ph1 => ∃ k : Int32, r = .inl (some (.int k)) ∧ (∃ mf, ph1[m]? = some (.inr (12, mf))) ∧ PW l g d mm 0 lvM [] ph1 (fun r ph2 => ∃ b : Int32, r = .inl (some (.int b)) ∧ (∃ mf, ph2[m]? = some (.inr (12, mf))) ∧ PW l g d m_M_thrown 0 [.ref m] [] ph2 (fun r ph3 => r = .inl (some (.int k)) ∧ (∃ f, ph3[o]? = some (.inl (2, 1, .inr (.inl f))) ∧ (k = 0 → f 0 = b.toInt64)) ∧ K ph3))) := by
  unfold fk_w at h
  split at h
  · rename_i k z1 h1
    simp only [Bool.and_eq_true] at h
    obtain ⟨i1, h⟩ := h
    split at h
    · rename_i b z2 h2
      simp only [Bool.and_eq_true] at h
      obtain ⟨i2, h⟩ := h
      split at h
      · rename_i t z3 h3
        simp only [Bool.and_eq_true, beq_iff_eq] at h
        obtain ⟨rfl, hf⟩ := h
        refine (px_ev hfl hgk h1 hR hd hW).post (fun r ph1 q => ?_)
        obtain ⟨rfl, hR1⟩ := q
        refine ⟨t, rfl, fi_of i1 hR1, (px_ev hfl hgk h2 hR1 hd hM).post (fun r ph2 q => ?_)⟩
        obtain ⟨rfl, hR2⟩ := q
        refine ⟨b, rfl, fi_of i2 hR2, (px_ev hfl hgk h3 hR2 hd rfl).post (fun r ph3 q => ?_)⟩
        obtain ⟨rfl, hR3⟩ := q
        exact ⟨rfl, fo9_of hf hR3, kk ph3⟩
      · cases h
    · cases h
  · cases h
theorem fk_wl_ok (hfl : l.flags = flags0) (hgk : px_gk g) (hd : 38 ≤ d) (h : fk_wl n mw mm As z m o = true) (hR : px_Rz z ph) (hW : px_en (.ref 0 :: (As ++ [.ref o])) (pg_ml mw) = lvW) (hM : px_en (.ref m :: As) (pg_ml mm) = lvM) (kk : ∀ ph3, K ph3) :
    PW l g d mw 0 lvW [] ph (fun r ph1 => ∃ k : Int32, r = .inl (some (.int k)) ∧ (∃ mf, ph1[m]? = some (.inr (12, mf))) ∧ PW l g d mm 0 lvM [] ph1 (fun r ph2 => ∃ b : Int64, r = .inl (some (.long b)) ∧ (∃ mf, ph2[m]? = some (.inr (12, mf))) ∧ PW l g d m_M_thrown 0 [.ref m] [] ph2 (fun r ph3 => r = .inl (some (.int k)) ∧ (∃ f, ph3[o]? = some (.inl (2, 1, .inr (.inl f))) ∧ (k = 0 → f 0 = b)) ∧ K ph3))) := by
  unfold fk_wl at h
  split at h
  · rename_i k z1 h1
    simp only [Bool.and_eq_true] at h
    obtain ⟨i1, h⟩ := h
    split at h
    · rename_i b z2 h2
      simp only [Bool.and_eq_true] at h
      obtain ⟨i2, h⟩ := h
      split at h
      · rename_i t z3 h3
        simp only [Bool.and_eq_true, beq_iff_eq] at h
        obtain ⟨rfl, hf⟩ := h
        refine (px_ev hfl hgk h1 hR hd hW).post (fun r ph1 q => ?_)
        obtain ⟨rfl, hR1⟩ := q
        refine ⟨t, rfl, fi_of i1 hR1, (px_ev hfl hgk h2 hR1 hd hM).post (fun r ph2 q => ?_)⟩
        obtain ⟨rfl, hR2⟩ := q
        refine ⟨b, rfl, fi_of i2 hR2, (px_ev hfl hgk h3 hR2 hd rfl).post (fun r ph3 q => ?_)⟩
        obtain ⟨rfl, hR3⟩ := q
        exact ⟨rfl, fo9_of hf hR3, kk ph3⟩
      · cases h
    · cases h
  · cases h
theorem fk_d_ok (hfl : l.flags = flags0) (hgk : px_gk g) (hd : 38 ≤ d) (h : fk_d n mw mm As z m = true) (hR : px_Rz z ph) (hW : px_en (.ref 0 :: As) (pg_ml mw) = lvW) (hM : px_en (.ref m :: As) (pg_ml mm) = lvM) (kk : ∀ ph3, K ph3) :
    PW l g d mw 0 lvW [] ph (fun r ph1 => ∃ k : Int32, r = .inl (some (.int k)) ∧ (∃ mf, ph1[m]? = some (.inr (12, mf))) ∧ PW l g d mm 0 lvM [] ph1 (fun r ph2 => r = .inl (some (.int k)) ∧ K ph2)) := by
  unfold fk_d at h
  split at h
  · rename_i k z1 h1
    simp only [Bool.and_eq_true] at h
    obtain ⟨i1, h⟩ := h
    split at h
    · rename_i b z2 h2
      simp only [beq_iff_eq] at h
      subst h
      refine (px_ev hfl hgk h1 hR hd hW).post (fun r ph1 q => ?_)
      obtain ⟨rfl, hR1⟩ := q
      refine ⟨b, rfl, fi_of i1 hR1, (px_ev hfl hgk h2 hR1 hd hM).post (fun r ph2 q => ?_)⟩
      exact ⟨q.1, kk ph2⟩
    · cases h
  · cases h
theorem fk_v_ok (hfl : l.flags = flags0) (hgk : px_gk g) (hd : 38 ≤ d) (h : fk_v n mw mm z m = true) (hR : px_Rz z ph) (hW : px_en [.ref 0] (pg_ml mw) = lvW) (hM : px_en [.ref m] (pg_ml mm) = lvM) (kk : ∀ ph3, K ph3) :
    PW l g d mw 0 lvW [] ph (fun r ph1 => r = .inl none ∧ (∃ mf, ph1[m]? = some (.inr (12, mf))) ∧ PW l g d mm 0 lvM [] ph1 (fun r ph2 => r = .inl none ∧ K ph2)) := by
  unfold fk_v at h
  split at h
  · rename_i z1 h1
    simp only [Bool.and_eq_true] at h
    obtain ⟨i1, h⟩ := h
    split at h
    · rename_i z2 h2
      refine (px_ev hfl hgk h1 hR hd hW).post (fun r ph1 q => ?_)
      obtain ⟨rfl, hR1⟩ := q
      refine ⟨rfl, fi_of i1 hR1, (px_ev hfl hgk h2 hR1 hd hM).post (fun r ph2 q => ?_)⟩
      exact ⟨q.1, kk ph2⟩
    · cases h
  · cases h
end FKW
/-! what is read of fresh objects -/
noncomputable def fg (z : px_Sz) (p ci k : Nat) : Option Value := match px_tg z.1 p with
  | some (.inr (c, fs)) => if Nat.beq c ci then fs[k]? else none
  | _ => none
noncomputable def fint (v : Option Value) (x : Int32) : Bool := match v with
  | some (.int y) => y == x
  | _ => false
noncomputable def fnot (v : Option Value) : Bool := match v with
  | some (.int y) => !(y == 0)
  | _ => false
noncomputable def fany (v : Option Value) : Bool := match v with
  | some (.int _) => true
  | _ => false
noncomputable def fby (z : px_Sz) (b : Nat) : Bool := match px_tg z.1 b with
  | some (.inl (0, 8192, .inl _)) => true
  | _ => false
noncomputable def fmt (z : px_Sz) (m b : Nat) : Bool := match fg z m 12 1 with
  | some (.ref tb) => fby z tb && !(Nat.beq tb b)
  | _ => false
noncomputable def ftape (z : px_Sz) (m : Nat) : Bool := match fg z 0 0 0 with
  | some (.ref t) => (match px_tg z.1 t with
    | some (.inr (10, [.ref b, .int s, .int _])) => s == 0 && (fby z b && fmt z m b)
    | _ => false)
  | _ => false
noncomputable def fone (z : px_Sz) (k ci j : Nat) (f : Option Value → Bool) : Bool := match fg z 0 0 k with
  | some (.ref u) => f (fg z u ci j)
  | _ => false
noncomputable def flo (z : px_Sz) (o : Nat) : Bool := match px_tg z.1 o with
  | some (.inl (2, 1, .inr (.inl _))) => true
  | _ => false
noncomputable def ff (z : px_Sz) (m o : Nat) : Bool :=
  fint (fg z 0 0 6) 0 && (ftape z m && (fone z 1 10 1 (fun v => fint v 0) && (fone z 11 3 18 fnot && (fone z 16 4 6 (fun v => fint v 0) && (fint (fg z m 12 2) 0 && (fint (fg z m 12 4) 0 && (fint (fg z m 12 5) 0 && (fnot (fg z m 12 13) && (fint (fg z m 12 44) 0 && (fany (fg z m 12 50) && (fint (fg z m 12 102) 0 && (flo z o && (Nat.blt 100 z.2.2.1 && Nat.blt 1000 z.2.2.2)))))))))))))
section FF
variable {z : px_Sz} {ph : px_H} {p ci k : Nat} {fs : List Value}
theorem fg_of {v : Value} (h : fg z p ci k = some v) (hR : px_Rz z ph) : ∃ fs, ph[p]? = some (.inr (ci, fs)) ∧ fs[k]? = some v := by
  unfold fg at h
  split at h
  · rename_i c fs he
    split at h
    · rename_i hc
      simp only [Nat.beq_eq] at hc
      subst hc
      exact ⟨fs, by rw [← hR.1]; exact he, h⟩
    · cases h
  · cases h
theorem fg_at {v : Value} (h : fg z p ci k = some v) (hR : px_Rz z ph) (hp : ph[p]? = some (.inr (ci, fs))) : fs[k]? = some v := by
  obtain ⟨fs', h1, h2⟩ := fg_of h hR
  rw [hp] at h1
  cases h1
  exact h2
theorem fint_of {v : Option Value} {x : Int32} (h : fint v x = true) : v = some (.int x) := by
  unfold fint at h
  split at h
  · simp only [beq_iff_eq] at h
    rw [h]
  · cases h
theorem fnot_of {v : Option Value} (h : fnot v = true) : ∃ a, v = some (.int a) ∧ ¬ a = 0 := by
  unfold fnot at h
  split at h
  · rename_i y
    exact ⟨y, rfl, by simpa using h⟩
  · cases h
theorem fany_of {v : Option Value} (h : fany v = true) : ∃ a, v = some (.int a) := by
  unfold fany at h
  split at h
  · exact ⟨_, rfl⟩
  · cases h
theorem fby_of {b : Nat} (h : fby z b = true) (hR : px_Rz z ph) : ∃ f, ph[b]? = some (.inl (0, 8192, .inl f)) := by
  unfold fby at h
  split at h
  · rename_i f he
    exact ⟨f, by rw [← hR.1]; exact he⟩
  · cases h
theorem fone_of {j : Nat} {f : Option Value → Bool} (h : fone z k ci j f = true) (hR : px_Rz z ph) (hf : f none = false) (h0 : ph[0]? = some (.inr (0, fs))) : ∃ u v uf, fs[k]? = some (.ref u) ∧ ph[u]? = some (.inr (ci, uf)) ∧ uf[j]? = some v ∧ f (some v) = true := by
  unfold fone at h
  split at h
  · rename_i u hu
    cases hv : fg z u ci j with
    | none => rw [hv, hf] at h; cases h
    | some v =>
      obtain ⟨uf, h1, h2⟩ := fg_of hv hR
      exact ⟨u, v, uf, fg_at hu hR h0, h1, h2, by rw [← hv]; exact h⟩
  · cases h
/-- the fresh objects -/
theorem ff_of {m o : Nat} (h : ff z m o = true) (hR : px_Rz z ph) : ∃ (fs mf : List Value) (t b u lk me tb : Nat) (uf lf ef : List Value) (f f2 : Nat → Int32) (fo : Nat → Int64) (ov a a2 ld : Int32),
    ph[0]? = some (.inr (0, fs)) ∧ fs[6]? = some (.int 0) ∧ fs[0]? = some (.ref t) ∧ rw_at ph t b 8192 f (nI 0) ov ∧ (fs[1]? = some (.ref u) ∧ ph[u]? = some (.inr (10, uf)) ∧ uf[1]? = some (.int 0)) ∧ (fs[11]? = some (.ref lk) ∧ ph[lk]? = some (.inr (3, lf)) ∧ lf[18]? = some (.int a) ∧ ¬ a = 0) ∧ (fs[16]? = some (.ref me) ∧ ph[me]? = some (.inr (4, ef)) ∧ ef[6]? = some (.int 0)) ∧
    ph[m]? = some (.inr (12, mf)) ∧ mf[2]? = some (.int (nI 0)) ∧ mf[4]? = some (.int 0) ∧ mf[5]? = some (.int 0) ∧ (mf[13]? = some (.int a2) ∧ ¬ a2 = 0) ∧ mf[44]? = some (.int 0) ∧ mf[50]? = some (.int ld) ∧ mf[102]? = some (.int 0) ∧ (mf[1]? = some (.ref tb) ∧ ph[tb]? = some (.inl (0, 8192, .inl f2)) ∧ tb ≠ b) ∧ ph[o]? = some (.inl (2, 1, .inr (.inl fo))) ∧ ph.length + 100 < pg_MC ∧ px_sum ph + 1000 < pg_MS := by
  simp only [ff, Bool.and_eq_true] at h
  obtain ⟨h1, h2, h3, h4, h5, h6, h7, h8, h9, h10, h11, h12, h14, h15, h16⟩ := h
  obtain ⟨fs, p0, p1⟩ := fg_of (fint_of h1) hR
  unfold ftape at h2
  split at h2
  · rename_i t ht
    split at h2
    · rename_i b s ov he
      simp only [Bool.and_eq_true, beq_iff_eq] at h2
      obtain ⟨rfl, hb, h13⟩ := h2
      obtain ⟨f, hf⟩ := fby_of hb hR
      obtain ⟨u, v3, uf, q1, q2, q3, q4⟩ := fone_of h3 hR rfl p0
      obtain ⟨lk, v4, lf, r1, r2, r3, r4⟩ := fone_of h4 hR rfl p0
      obtain ⟨a, ra, ra2⟩ := fnot_of r4
      obtain ⟨me, v5, ef, s1, s2, s3, s4⟩ := fone_of h5 hR rfl p0
      obtain ⟨mf, m0, m2⟩ := fg_of (fint_of h6) hR
      obtain ⟨a2, w1, w2⟩ := fnot_of h9
      obtain ⟨ld, w3⟩ := fany_of h11
      unfold fmt at h13
      split at h13
      · rename_i tb htb
        simp only [Bool.and_eq_true, Bool.not_eq_true'] at h13
        obtain ⟨f2, hf2⟩ := fby_of h13.1 hR
        have hne : tb ≠ b := fun e => by
          have := h13.2
          rw [e, Nat.beq_refl] at this
          cases this
        unfold flo at h14
        split at h14
        · rename_i fo ho
          have e1 : 100 < z.2.2.1 := Nat.le_of_ble_eq_true h15
          have e2 : 1000 < z.2.2.2 := Nat.le_of_ble_eq_true h16
          have hr := hR
          obtain ⟨a1, a3, a4, a5⟩ := hr
          refine ⟨fs, mf, t, b, u, lk, me, tb, uf, lf, ef, f, f2, fo, ov, a, a2, ld, p0, p1, fg_at ht hR p0, ⟨by rw [← hR.1]; exact he, hf⟩, ⟨q1, q2, ?_⟩, ⟨r1, r2, ?_, ra2⟩, ⟨s1, s2, ?_⟩, m0, m2, fg_at (fint_of h7) hR m0, fg_at (fint_of h8) hR m0, ⟨fg_at w1 hR m0, w2⟩, fg_at (fint_of h10) hR m0, fg_at w3 hR m0, fg_at (fint_of h12) hR m0, ⟨fg_at htb hR m0, hf2, hne⟩, by rw [← hR.1]; exact ho, by omega, by omega⟩
          · rw [q3]; exact fint_of q4
          · rw [r3, ra]
          · rw [s3]; exact fint_of s4
        · cases h14
      · cases h13
    · cases h2
  · cases h2
end FF
