/-! placeGroup, placeCommons of the reference -/
def upN (v a : Nat) : Nat := (v + a - 1) / a * a
theorem upN_le {v a : Nat} (ha : 1 ≤ a) : v ≤ upN v a ∧ upN v a < v + a := by
  unfold upN
  have h1 := Nat.div_add_mod (v + a - 1) a
  have h2 := Nat.mod_lt (v + a - 1) (show a > 0 by omega)
  rw [Nat.mul_comm] at h1
  omega
theorem q_up {F v a : Nat} {h : px_H} (ha : 1 ≤ a) (hv : v + a < 2 ^ 62) : f_M_up F (lN v) (lN a) h = some (lN (upN v a), h) := by
  unfold f_M_up upN
  have e : xnzJ (lN a) = some () := by
    unfold xnzJ
    rw [if_neg (fun q => by have := (lEQ (b := 0) (show a < 2 ^ 64 by omega) (by decide)).mp q; omega)]
  rw [e, bs, lN_add, lN_sub (by omega), pk_lDiv (by omega) (by omega) (by omega), lN_mul]
def cnd (tb : Nat → Nat → Nat) (g x : Nat) : Bool := decide (oG (tb (x / 24)) (x % 24) = g) && !(decide (g = 1) && sS tb x)
def alS (tb : Nat → Nat → Nat) (x : Nat) : Nat := oA (tb (x / 24)) (x % 24)
abbrev px_PG : Type := Nat × (Nat → Nat) × Option Nat
def pgA (tb : Nat → Nat → Nat) (th : Bool) (at0 x : Nat) : Nat := if th = true ∧ 1 < alS tb x then upN at0 (alS tb x) else at0
def pg1 (tb : Nat → Nat → Nat) (g : Nat) (th : Bool) (s : px_PG) (x : Nat) : px_PG := if cnd tb g x = true then (pgA tb th s.1 x + zS tb x, fun y => if y = x then pgA tb th s.1 x else s.2.1 y, if g = 3 then some (s.2.2.getD (pgA tb th s.1 x)) else s.2.2) else s
def bsV : Option Nat → Int64
  | none => (-1 : Int64)
  | some v => lN v
/-- the sections of D lie where ad says -/
def RAd (σ : px_S) (ll : List Nat) (D : Nat → Prop) (ad : Nat → Nat) : Prop := ∀ (P x : Nat), ll[P]? = some x → D x → gB σ 57 P = lN (ad x) ∧ gB σ 58 x = lN (ad x)
theorem vp_ne {f : Nat → Int64} {i j : Nat} {v : Int64} (h : j ≠ i) : vp_updL f i v j = f j := if_neg h
theorem vp_eq {f : Nat → Int64} {i : Nat} {v : Int64} : vp_updL f i v i = v := if_pos rfl
theorem ar_pg {a c : Nat} (h : a + (c + 1) * 20480 < 2 ^ 40) : a + c * 20480 < 2 ^ 40 := Nat.lt_of_le_of_lt (Nat.add_le_add_left (Nat.mul_le_mul_right _ (Nat.le_succ c)) a) h
theorem ar_pg2 {s a z c : Nat} (h : s + (c + 1) * 20480 < 2 ^ 40) (ha : a ≤ s + 4096) (hz : z ≤ 16384) : a + z + c * 20480 < 2 ^ 40 := by
  have : (c + 1) * 20480 = c * 20480 + 20480 := Nat.succ_mul c 20480
  omega
theorem ar_pg3 {s c : Nat} (h : s + (c + 1) * 20480 < 2 ^ 40) : s + 4096 < 2 ^ 40 := by
  have : (c + 1) * 20480 = c * 20480 + 20480 := Nat.succ_mul c 20480
  omega
section MPG
variable {F m T g : Nat} {h : px_H} {tb : Nat → Nat → Nat} {tO tn tq : Nat → Nat} {ll : List Nat} {th : Bool} {D : Nat → Prop}
theorem q_pG_6 (hm : m ≤ h.length) (hF : 65536 < F) (hT : T ≤ 64) (hl : llP T tb ll) (hnd : ll.Nodup) (hZ : ∀ x, x ∈ ll → zS tb x ≤ 16384 ∧ alS tb x ≤ 4096) (hg : g ≤ 5) (hD : ∀ x, D x → cnd tb g x = false) : ∀ (c P f : Nat) (σ : px_S) (s : px_PG), P + c = ll.length → c < f → (∀ t, t < T → OB σ t (tO t) (tn t) (tb t)) → RLa σ tq tb ll → s.1 + c * 20480 < 2 ^ 40 → (∀ v, s.2.2 = some v → v < 2 ^ 40) → (∀ (Q x : Nat), ll[Q]? = some x → (D x ∨ (Q < P ∧ cnd tb g x = true)) → gB σ 57 Q = lN (s.2.1 x) ∧ gB σ 58 x = lN (s.2.1 x)) → (g = 3 → gJ σ 81 = bsV s.2.2) → ∃ σ', f_M_placeGroup_6 F f m (nI g) (bI th) (lN s.1) (nI P) (mh m h σ) = some (lN ((ll.drop P).foldl (pg1 tb g th) s).1, mh m h σ') ∧ (∀ (Q x : Nat), ll[Q]? = some x → (D x ∨ (Q < ll.length ∧ cnd tb g x = true)) → gB σ' 57 Q = lN (((ll.drop P).foldl (pg1 tb g th) s).2.1 x) ∧ gB σ' 58 x = lN (((ll.drop P).foldl (pg1 tb g th) s).2.1 x)) ∧ (g = 3 → gJ σ' 81 = bsV ((ll.drop P).foldl (pg1 tb g th) s).2.2) ∧ (g ≠ 3 → gJ σ' 81 = gJ σ 81) ∧ FR [] [81] [] [57, 58] σ σ' := by
  have hl1 := hl.1
  intro c
  induction c with
  | zero =>
    intro P f σ s hP hf hB hL hs hv hA h81
    obtain ⟨f, rfl⟩ : ∃ x, f = x + 1 := ⟨f - 1, by omega⟩
    unfold f_M_placeGroup_6 f_M_placeGroup_182
    rw [Mg50 hm, bs, hL.1, if_pos (nI_le (by omega) (by omega)), List.drop_eq_nil_of_le (by omega)]
    exact ⟨σ, rfl, fun Q x hx hd => hA Q x hx (hd.elim Or.inl (fun q => Or.inr ⟨by omega, q.2⟩)), h81, fun _ => rfl, FR_refl σ⟩
  | succ c ih =>
    intro P f σ s hP hf hB hL hs hv hA h81
    obtain ⟨f, rfl⟩ : ∃ x, f = x + 1 := ⟨f - 1, by omega⟩
    have hPl : P < ll.length := by omega
    have hx := List.getElem?_eq_getElem hPl
    rw [List.drop_eq_getElem_cons hPl, List.foldl_cons]
    have hxm := List.getElem_mem hPl
    have hx2 := hl.2 _ hxm
    have hxz := hZ _ hxm
    have huq : ∀ Q, ll[Q]? = some ll[P] → Q = P := fun Q hQ => by
      have l1 := (List.getElem?_eq_some_iff.mp hQ).1
      have e1 := (List.getElem?_eq_some_iff.mp hQ).2
      exact (List.getElem_inj hnd (h₀ := l1) (h₁ := hPl)).mp e1
    generalize ll[P] = x at *
    obtain ⟨r1, r2, r3, r4, r5, r6⟩ := hL.2 P x hx
    have hb := hB _ hx2.1
    have hG : oG (tb (x / 24)) (x % 24) ≤ 5 := by unfold oG; repeat (first | omega | split)
    have hs40 := ar_pg3 hs
    have skip : cnd tb g x = false → ∃ σ', f_M_placeGroup_6 F f m (nI g) (bI th) (lN s.1) (nI (P + 1)) (mh m h σ) = some (lN ((ll.drop (P + 1)).foldl (pg1 tb g th) (pg1 tb g th s x)).1, mh m h σ') ∧ (∀ (Q y : Nat), ll[Q]? = some y → (D y ∨ (Q < ll.length ∧ cnd tb g y = true)) → gB σ' 57 Q = lN (((ll.drop (P + 1)).foldl (pg1 tb g th) (pg1 tb g th s x)).2.1 y) ∧ gB σ' 58 y = lN (((ll.drop (P + 1)).foldl (pg1 tb g th) (pg1 tb g th s x)).2.1 y)) ∧ (g = 3 → gJ σ' 81 = bsV ((ll.drop (P + 1)).foldl (pg1 tb g th) (pg1 tb g th s x)).2.2) ∧ (g ≠ 3 → gJ σ' 81 = gJ σ 81) ∧ FR [] [81] [] [57, 58] σ σ' := by
      intro e
      have e1 : pg1 tb g th s x = s := by unfold pg1; rw [e, if_neg (by decide)]
      rw [e1]
      refine ih (P + 1) f σ s (by omega) (by omega) hB hL (ar_pg hs) hv (fun Q y hy hd => hA Q y hy (hd.elim Or.inl (fun q => ?_))) h81
      by_cases cq : Q = P
      · exfalso
        rw [cq, hx] at hy
        rw [← Option.some.inj hy, e] at q
        exact nomatch q.2
      · exact Or.inr ⟨by omega, q.2⟩
    have place : cnd tb g x = true → ∃ σ', f_M_placeGroup_59 F (f_M_placeGroup_6 F f) m (nI g) (bI th) (lN s.1) (nI P) (mh m h σ) = some (lN ((ll.drop (P + 1)).foldl (pg1 tb g th) (pg1 tb g th s x)).1, mh m h σ') ∧ (∀ (Q y : Nat), ll[Q]? = some y → (D y ∨ (Q < ll.length ∧ cnd tb g y = true)) → gB σ' 57 Q = lN (((ll.drop (P + 1)).foldl (pg1 tb g th) (pg1 tb g th s x)).2.1 y) ∧ gB σ' 58 y = lN (((ll.drop (P + 1)).foldl (pg1 tb g th) (pg1 tb g th s x)).2.1 y)) ∧ (g = 3 → gJ σ' 81 = bsV ((ll.drop (P + 1)).foldl (pg1 tb g th) (pg1 tb g th s x)).2.2) ∧ (g ≠ 3 → gJ σ' 81 = gJ σ 81) ∧ FR [] [81] [] [57, 58] σ σ' := by
      intro e
      have e1 : pg1 tb g th s x = (pgA tb th s.1 x + zS tb x, fun y => if y = x then pgA tb th s.1 x else s.2.1 y, if g = 3 then some (s.2.2.getD (pgA tb th s.1 x)) else s.2.2) := by unfold pg1; rw [e, if_pos rfl]
      have hpa : pgA tb th s.1 x ≤ s.1 + 4096 := by
        unfold pgA
        split
        · rename_i q
          have := upN_le (v := s.1) (a := alS tb x) (by omega)
          omega
        · omega
      have e59 : f_M_placeGroup_59 F (f_M_placeGroup_6 F f) m (nI g) (bI th) (lN s.1) (nI P) (mh m h σ) = f_M_placeGroup_107 F (f_M_placeGroup_6 F f) m (nI g) (bI th) (nI P) (lN (pgA tb th s.1 x)) (mh m h σ) := by
        unfold f_M_placeGroup_59 f_M_placeGroup_105 pgA
        rw [Mr51 hm, bs, Ma51 hm (by omega), bs, r1, e_o hm, bs, O_obj hm hb, xb_mk, Mr54 hm, bs, Ma54 hm (by omega), bs, r4, e_o hm, bs, O_align hm (by omega) hb hx2.2.2, xb_mk]
        cases th with
        | false => rw [if_pos (show bI false = 0 from rfl), if_neg (fun q => nomatch q.1)]
        | true =>
          rw [if_neg (show ¬ bI true = 0 by decide)]
          by_cases c1 : 1 < alS tb x
          · rw [if_neg (show ¬ lN (oA (tb (x / 24)) (x % 24)) ≤ lN 1 from fun q => by have := (pk_lLE (show alS tb x < 2 ^ 63 by omega) (by decide)).mp q; omega), show oA (tb (x / 24)) (x % 24) = alS tb x from rfl, q_up (by omega) (by omega), xb_mk, if_pos ⟨rfl, c1⟩]
          · rw [if_pos (show lN (oA (tb (x / 24)) (x % 24)) ≤ lN 1 from (pk_lLE (show alS tb x < 2 ^ 63 by omega) (by decide)).mpr (by show alS tb x ≤ 1; omega)), if_neg (fun q => c1 q.2)]
      generalize hav : pgA tb th s.1 x = a at *
      have fin : ∀ σ1, FR [] [81] [] [] σ σ1 → (g = 3 → gJ σ1 81 = bsV (some (s.2.2.getD a))) → (g ≠ 3 → gJ σ1 81 = gJ σ 81) → ∃ σ', f_M_placeGroup_129 F (f_M_placeGroup_6 F f) m (nI g) (bI th) (lN a) (nI P) (mh m h σ1) = some (lN ((ll.drop (P + 1)).foldl (pg1 tb g th) (pg1 tb g th s x)).1, mh m h σ') ∧ (∀ (Q y : Nat), ll[Q]? = some y → (D y ∨ (Q < ll.length ∧ cnd tb g y = true)) → gB σ' 57 Q = lN (((ll.drop (P + 1)).foldl (pg1 tb g th) (pg1 tb g th s x)).2.1 y) ∧ gB σ' 58 y = lN (((ll.drop (P + 1)).foldl (pg1 tb g th) (pg1 tb g th s x)).2.1 y)) ∧ (g = 3 → gJ σ' 81 = bsV ((ll.drop (P + 1)).foldl (pg1 tb g th) (pg1 tb g th s x)).2.2) ∧ (g ≠ 3 → gJ σ' 81 = gJ σ 81) ∧ FR [] [81] [] [57, 58] σ σ' := by
        intro σ1 f1 h3 hn3
        obtain ⟨σ2, hσ2⟩ : ∃ z, z = sB (sB σ1 57 (vp_updL (gB σ1 57) P (lN a))) 58 (vp_updL (gB (sB σ1 57 (vp_updL (gB σ1 57) P (lN a))) 58) x (lN a)) := ⟨_, rfl⟩
        have f2 : FR [] [81] [] [57, 58] σ1 σ2 := by
          rw [hσ2]
          exact FR_trans (FR_mono (FR_B σ1 57 _) (by decide) (by decide) (by decide) (by decide)) (FR_mono (FR_B _ 58 _) (by decide) (by decide) (by decide) (by decide))
        have g57 : gB σ2 57 = vp_updL (gB σ 57) P (lN a) := by rw [hσ2, gB_sB, if_neg (by decide), gB_sB, if_pos rfl, f1.2.2.2 57 (by decide)]
        have g58 : gB σ2 58 = vp_updL (gB σ 58) x (lN a) := by rw [hσ2, gB_sB, if_pos rfl, gB_sB, if_neg (by decide), f1.2.2.2 58 (by decide)]
        have g81 : gJ σ2 81 = gJ σ1 81 := by rw [hσ2]; rfl
        have f12 : FR [] [81] [] [57, 58] σ σ2 := FR_trans (FR_mono f1 (by decide) (by decide) (by decide) (by decide)) f2
        have hx1536 : x < 1536 := by omega
        obtain ⟨σ3, b1, b2, b3, b4, b5⟩ := ih (P + 1) f σ2 (pg1 tb g th s x) (by omega) (by omega) (fun t ht => OB_FR (hB t ht) f12 (by decide)) (RLa_FR hL f12 (by decide) (by decide)) (by rw [e1]; exact ar_pg2 hs hpa hxz.1) (by
          rw [e1]
          intro v hv2
          have hv2 : (if g = 3 then some (s.2.2.getD a) else s.2.2) = some v := hv2
          split at hv2
          · have := Option.some.inj hv2
            cases e5 : s.2.2 with
            | none => rw [e5] at this; have : a = v := this; omega
            | some w => rw [e5] at this; have h6 : w = v := this; have := hv w e5; omega
          · exact hv v hv2) (by
          rw [e1]
          intro Q y hy hd
          rw [g57, g58]
          show _ = lN (if y = x then a else s.2.1 y) ∧ _ = lN (if y = x then a else s.2.1 y)
          by_cases cy : y = x
          · rw [cy] at hy ⊢
            rw [huq Q hy, vp_eq, vp_eq, if_pos rfl]
            exact ⟨rfl, rfl⟩
          · have cQ : Q ≠ P := fun q => cy (by rw [q, hx] at hy; exact (Option.some.inj hy).symm)
            rw [vp_ne cQ, vp_ne cy, if_neg cy]
            exact hA Q y hy (hd.elim Or.inl (fun q => Or.inr ⟨by omega, q.2⟩))) (by
          rw [e1, g81]
          intro q
          show _ = bsV (if g = 3 then some (s.2.2.getD a) else s.2.2)
          rw [if_pos q]; exact h3 q)
        refine ⟨σ3, ?_, b2, b3, fun q => by rw [b4 q, g81]; exact hn3 q, FR_trans f12 b5⟩
        unfold f_M_placeGroup_129 f_M_placeGroup_176
        have q51 : gA (sB σ1 57 (vp_updL (gB σ1 57) P (lN a))) 51 P = nI (x / 24) := by rw [gA_sB, f1.2.2.1 51 (by decide)]; exact r1
        have q54 : gA (sB σ1 57 (vp_updL (gB σ1 57) P (lN a))) 54 P = nI (x % 24) := by rw [gA_sB, f1.2.2.1 54 (by decide)]; exact r4
        have q56 : gA σ2 56 P = nI (oZ (tb (x / 24)) (x % 24)) := by rw [f12.2.2.1 56 (by decide)]; exact r6
        rw [Mr57 hm, bs, Ms57 hm (by omega), bs, Mr58 hm, bs, Mr51 hm, bs, Ma51 hm (by omega), bs, q51, Mr54 hm, bs, Ma54 hm (by omega), bs, q54, pk_mul, nI_add, show 24 * (x / 24) + x % 24 = x by omega, Ms58 hm hx1536, bs, ← hσ2, Mr56 hm, bs, Ma56 hm (by omega), bs, q56, nI_l (show oZ (tb (x / 24)) (x % 24) < 2 ^ 31 by have : zS tb x ≤ 16384 := hxz.1; show zS tb x < _; omega), lN_add, nI_add]
        rw [show lN (a + oZ (tb (x / 24)) (x % 24)) = lN (pg1 tb g th s x).1 by rw [e1]; rfl]
        exact b1
      rw [e59]
      unfold f_M_placeGroup_107
      by_cases c3 : g = 3
      · have h81' := h81 c3
        have e81 : xgJ (mh m h σ) 12 81 m = some (bsV s.2.2) := by rw [Mg81 hm, h81']
        rw [if_pos (by rw [c3]), e81, bs]
        cases eb : s.2.2 with
        | none =>
          rw [eb] at fin
          rw [if_neg (show ¬ lN 0 ≤ bsV none by decide), Mp81 hm, bs]
          exact fin (sJ σ 81 (lN a)) (FR_J σ 81 _) (fun _ => by rw [gJ_sJ, if_pos rfl]; rfl) (fun q => absurd c3 q)
        | some v =>
          have hvl := hv v eb
          rw [eb] at fin h81'
          rw [if_pos (show lN 0 ≤ bsV (some v) from (pk_lLE (by decide) (by omega)).mpr (Nat.zero_le _))]
          exact fin σ (FR_refl σ) (fun _ => h81') (fun q => absurd c3 q)
      · rw [if_neg (fun q => c3 ((nI_eq (by omega) (by decide)).mp q))]
        exact fin σ (FR_refl σ) (fun q => absurd q c3) (fun _ => rfl)
    unfold f_M_placeGroup_6 f_M_placeGroup_176
    rw [Mg50 hm, bs, hL.1, if_neg (nI_ge (by omega) (by omega)), Mr55 hm, bs, Ma55 hm (by omega), bs, r5, nI_add]
    by_cases c1 : oG (tb (x / 24)) (x % 24) = g
    · rw [if_pos (by rw [c1])]
      by_cases c2 : g = 1
      · rw [if_pos (by rw [c2]), Mr51 hm, bs, Ma51 hm (by omega), bs, r1, e_o hm, bs, O_obj hm hb, xb_mk, Mr54 hm, bs, Ma54 hm (by omega), bs, r4, e_o hm, bs, q_isStrings hm (by omega) hb hx2.2.2, xb_mk]
        cases es : oStr (tb (x / 24)) (x % 24) with
        | false =>
          rw [if_pos (show bI false = 0 from rfl)]
          exact place (by unfold cnd sS; rw [decide_eq_true c1, es, Bool.and_false]; rfl)
        | true =>
          rw [if_neg (show ¬ bI true = 0 by decide)]
          exact skip (by unfold cnd sS; rw [decide_eq_true c1, es, decide_eq_true c2]; rfl)
      · rw [if_neg (fun q => c2 ((nI_eq (by omega) (by decide)).mp q))]
        exact place (by unfold cnd; rw [decide_eq_true c1, decide_eq_false c2]; rfl)
    · rw [if_neg (fun q => c1 ((nI_eq (by omega) (by omega)).mp q))]
      exact skip (by unfold cnd; rw [decide_eq_false c1]; rfl)
theorem q_placeGroup {σ : px_S} {s : px_PG} (hm : m ≤ h.length) (hF : 65536 < F) (hT : T ≤ 64) (hl : llP T tb ll) (hnd : ll.Nodup) (hZ : ∀ x, x ∈ ll → zS tb x ≤ 16384 ∧ alS tb x ≤ 4096) (hg : g ≤ 5) (hD : ∀ x, D x → cnd tb g x = false) (hB : ∀ t, t < T → OB σ t (tO t) (tn t) (tb t)) (hL : RLa σ tq tb ll) (hs : s.1 < 2 ^ 39) (hv : ∀ v, s.2.2 = some v → v < 2 ^ 40) (hA : RAd σ ll D s.2.1) (h81 : g = 3 → gJ σ 81 = bsV s.2.2) : ∃ σ', f_M_placeGroup F m (nI g) (lN s.1) (bI th) (mh m h σ) = some (lN (ll.foldl (pg1 tb g th) s).1, mh m h σ') ∧ RAd σ' ll (fun x => D x ∨ cnd tb g x = true) (ll.foldl (pg1 tb g th) s).2.1 ∧ (g = 3 → gJ σ' 81 = bsV (ll.foldl (pg1 tb g th) s).2.2) ∧ (g ≠ 3 → gJ σ' 81 = gJ σ 81) ∧ FR [] [81] [] [57, 58] σ σ' := by
  have hl1 := hl.1
  obtain ⟨σ', a1, a2, a3, a4, a5⟩ := q_pG_6 (F := F) (h := h) (th := th) (D := D) hm hF hT hl hnd hZ hg hD ll.length 0 F σ s (by omega) (by omega) hB hL (by omega) hv (fun Q x hx hd => hA Q x hx (hd.elim id (fun q => absurd q.1 (Nat.not_lt_zero Q)))) h81
  rw [List.drop_zero] at a1 a2 a3
  exact ⟨σ', a1, fun P x hx hd => a2 P x hx (hd.elim Or.inl (fun q => Or.inr ⟨(List.getElem?_eq_some_iff.mp hx).1, q⟩)), a3, a4, a5⟩
end MPG
