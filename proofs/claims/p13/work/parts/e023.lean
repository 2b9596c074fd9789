section
/-! list: class and reference answer alike (steps spelled out by sf/pp.py) -/
/-- the bytes of a list: d symbols from the k-th on, Bf their bindings, Yf the lengths of their names -/
def lsz (Bf Yf : Nat → Nat) : Nat → Nat → Nat
  | 0, _ => 0
  | d + 1, k => (if Bf k = 0 then 0 else 20 + Yf k) + lsz Bf Yf d (k + 1)
theorem lsz_le {Bf Yf : Nat → Nat} {M : Nat} (hY : ∀ k, 1 ≤ k → k < M → Bf k ≠ 0 → Yf k ≤ 20) : ∀ d k, 1 ≤ k → k + d ≤ M → lsz Bf Yf d k ≤ 40 * d := by
  intro d
  induction d with
  | zero => intro k _ _; exact Nat.zero_le _
  | succ d ih =>
    intro k h1 h2
    have w := ih (k + 1) (by omega) (by omega)
    unfold lsz
    by_cases c : Bf k = 0
    · rw [if_pos c]; omega
    · have y := hY k h1 (by omega) c
      rw [if_neg c]; omega
/-- OUT is being written, nothing was thrown -/
def OWx (σ0 σ : px_S) (c : Nat) : Prop := OWi σ0 σ c ∧ gI σ 0 = nI 0
section BLM
variable {F m : Nat} {h : px_H} {σ0 σ : px_S} {fs : px_FS} {c : Nat}
theorem OWx_w {j : Nat} {v : Int32} (hI : OWx σ0 σ c) : OWx σ0 (sA σ 3 (upd (gA σ 3) j v.toInt8.toInt32)) c := ⟨OWi_w hI.1, hI.2⟩
theorem OWx_p {c' : Nat} (hI : OWx σ0 σ c) : OWx σ0 (sI σ 4 (nI c')) c' := ⟨OWi_p hI.1, by rw [gI_sI, if_neg (by decide)]; exact hI.2⟩
theorem qx_w3 {I : px_S → Prop} {α : Type} {V : α → Prop} {f : px_H → Option (α × px_H)} {p : Nat} {v : Int32} (hm : m ≤ h.length) (hI : OWx σ0 σ c) (hp : p < 65536) (g : ∀ σ, OWx σ0 σ c → Sm m h I V (f (mh m h σ))) : Sm m h I V ((xsI (mh m h σ) 0 (m + 2) (nI p) v.toInt8.toInt32).bind f) := by
  rw [Ms3 hm hp, bs]; exact g _ (OWx_w hI)
theorem qx_p4 {I : px_S → Prop} {α : Type} {V : α → Prop} {f : px_H → Option (α × px_H)} {c' : Nat} (hm : m ≤ h.length) (hI : OWx σ0 σ c) (g : ∀ σ, OWx σ0 σ c' → Sm m h I V (f (mh m h σ))) : Sm m h I V ((xpI (mh m h σ) 12 4 m (nI c')).bind f) := by
  rw [Mp4 hm, bs]; exact g _ (OWx_p hI)
theorem qx_16_3 {x : Int64} {p : Nat} (hm : m ≤ h.length) (hp : p + 16 ≤ 65536) : ∀ (d j f : Nat) (σ : px_S), j + d = 16 → d < f → OWx σ0 σ c → Sm m h (fun σ' => OWx σ0 σ' c) Any (f_M_sixteen_3 F f m (nI p) x (nI j) (mh m h σ)) := by
  intro d
  induction d with
  | zero =>
    intro j f σ hj hf hI
    obtain ⟨f, rfl⟩ : ∃ y, f = y + 1 := ⟨f - 1, by omega⟩
    unfold f_M_sixteen_3 f_M_sixteen_65
    rw [if_pos (nI_le (by omega) (by omega))]
    exact sm_r any hI
  | succ d ih =>
    intro j f σ hj hf hI
    obtain ⟨f, rfl⟩ : ∃ y, f = y + 1 := ⟨f - 1, by omega⟩
    unfold f_M_sixteen_3 f_M_sixteen_57
    rw [if_neg (nI_ge (by omega) (by omega)), nI_add, nI_add]
    refine sm_gR hm (c := 2) rfl (sm_i (fun _ => ?_) (fun _ => ?_))
    · exact qx_w3 hm hI (by omega) (fun σ hi => ih _ _ _ (by omega) (by omega) hi)
    · exact qx_w3 hm hI (by omega) (fun σ hi => ih _ _ _ (by omega) (by omega) hi)
theorem qx_li_273 {J : px_S → Prop} {V : Int32 → Prop} {k110 : Nat → Int32 → Int32 → px_H → Option (Int32 × px_H)} {o k P c0 Y : Nat} (hm : m ≤ h.length) (hY : Y ≤ 20) (hP : P + Y < 65536) (hq : ∀ σ c, OWi σ0 σ c → f_M_nameEnd F m (nI o) (nI k) (mh m h σ) = some (nI (P + Y), mh m h σ)) (hc0 : c0 + 40 ≤ 65536) (hK : ∀ σ, OWx σ0 σ (c0 + Y + 1) → Sm m h J V (k110 m (nI o) (nI (k + 1)) (mh m h σ))) : ∀ (d t f : Nat) (σ : px_S), t + d = Y → d < f → OWx σ0 σ (c0 + t) → Sm m h J V (f_M_list_273 F k110 f m (nI o) (nI k) (nI (P + t)) (mh m h σ)) := by
  intro d
  induction d with
  | zero =>
    intro t f σ hj hf hI
    obtain ⟨f, rfl⟩ : ∃ y, f = y + 1 := ⟨f - 1, by omega⟩
    obtain rfl : t = Y := by omega
    unfold f_M_list_273 f_M_list_318 f_M_list_339
    rw [e_o hm, bs, hq σ _ hI.1, xb_mk, if_pos (nI_le (by omega) (by omega)), Mr3 hm, bs, Mg4 hm, bs, hI.1.2.1, nI_add]
    refine qx_w3 hm hI (by omega) (fun σ hi => ?_)
    rw [Mg4 hm, bs, hi.1.2.1, nI_add]
    exact qx_p4 hm hi (fun σ hi => hK _ hi)
  | succ d ih =>
    intro t f σ hj hf hI
    obtain ⟨f, rfl⟩ : ∃ y, f = y + 1 := ⟨f - 1, by omega⟩
    unfold f_M_list_273
    rw [e_o hm, bs, hq σ _ hI.1, xb_mk, if_neg (nI_ge (by omega) (by omega)), Mr3 hm, bs, Mg4 hm, bs, hI.1.2.1, Mr6 hm, bs, Ma6 hm (by omega), bs, nI_add, Nat.add_assoc P t 1]
    refine qx_w3 hm hI (by omega) (fun σ hi => ?_)
    rw [Mg4 hm, bs, hi.1.2.1, nI_add, Nat.add_assoc c0 t 1]
    exact qx_p4 hm hi (fun σ hi => ih (t + 1) f σ (by omega) (by omega) hi)
theorem qx_li_203 {J : px_S → Prop} {V : Int32 → Prop} {k110 : Nat → Int32 → Int32 → px_H → Option (Int32 × px_H)} {o k c0 P Y : Nat} (hm : m ≤ h.length) (hF : 24 < F) (hY : Y ≤ 20) (hP : P + Y < 65536) (hl : ∀ σ c, OWi σ0 σ c → (∃ v, f_M_letterOf F m (nI o) (nI k) (mh m h σ) = some (v, mh m h σ)) ∧ f_M_nameAt F m (nI o) (nI k) (mh m h σ) = some (nI P, mh m h σ) ∧ f_M_nameEnd F m (nI o) (nI k) (mh m h σ) = some (nI (P + Y), mh m h σ)) (hc0 : c0 + 64 ≤ 65536) (hK : ∀ σ, OWx σ0 σ (c0 + (20 + Y)) → Sm m h J V (k110 m (nI o) (nI (k + 1)) (mh m h σ))) (hI : OWx σ0 σ c0) : Sm m h J V (f_M_list_203 F k110 m (nI o) (nI k) (mh m h σ)) := by
  unfold f_M_list_203
  rw [Mr3 hm, bs, Mg4 hm, bs, hI.1.2.1, nI_add]
  refine qx_w3 hm hI (by omega) (fun σ hi => ?_)
  obtain ⟨⟨v, ev⟩, _, _⟩ := hl σ _ hi.1
  rw [Mr3 hm, bs, Mg4 hm, bs, hi.1.2.1, e_o hm, bs, ev, xb_mk, nI_add]
  refine qx_w3 hm hi (by omega) (fun σ hi => ?_)
  rw [Mr3 hm, bs, Mg4 hm, bs, hi.1.2.1, nI_add]
  refine qx_w3 hm hi (by omega) (fun σ hi => ?_)
  rw [Mg4 hm, bs, hi.1.2.1, nI_add]
  refine qx_p4 hm hi (fun σ hi => ?_)
  obtain ⟨_, e2, _⟩ := hl σ _ hi.1
  rw [e_o hm, bs, e2, xb_mk]
  refine qx_li_273 (c0 := c0 + 19) (P := P) (Y := Y) hm hY hP (fun σ c hi => (hl σ c hi).2.2) (by omega) (fun σ hi => hK σ ?_) Y 0 F σ (Nat.zero_add _) (by omega) hi
  rw [show c0 + (20 + Y) = c0 + 19 + Y + 1 by omega]
  exact hi
theorem qx_li_165 {J : px_S → Prop} {V : Int32 → Prop} {k110 : Nat → Int32 → Int32 → px_H → Option (Int32 × px_H)} {o k c0 W : Nat} (hm : m ≤ h.length) (hc0 : c0 + 64 ≤ 65536) (hwh : ∀ σ c, OWi σ0 σ c → f_M_where F m (nI o) (nI k) (mh m h σ) = some (nI W, mh m h σ)) (h203 : ∀ σ, OWx σ0 σ c0 → Sm m h J V (f_M_list_203 F k110 m (nI o) (nI k) (mh m h σ))) : ∀ (d j f : Nat) (σ : px_S), j + d = 16 → d < f → OWx σ0 σ c0 → Sm m h J V (f_M_list_165 F k110 f m (nI o) (nI k) (nI j) (mh m h σ)) := by
  intro d
  induction d with
  | zero =>
    intro j f σ hj hf hI
    obtain ⟨f, rfl⟩ : ∃ y, f = y + 1 := ⟨f - 1, by omega⟩
    unfold f_M_list_165
    rw [if_pos (nI_le (by omega) (by omega))]
    exact h203 σ hI
  | succ d ih =>
    intro j f σ hj hf hI
    obtain ⟨f, rfl⟩ : ∃ y, f = y + 1 := ⟨f - 1, by omega⟩
    unfold f_M_list_165
    rw [if_neg (nI_ge (by omega) (by omega)), e_o hm, bs, hwh σ _ hI.1, xb_mk]
    refine sm_i (fun _ => ?_) (fun _ => h203 σ hI)
    rw [Mr3 hm, bs, Mg4 hm, bs, hI.1.2.1, nI_add, nI_add]
    exact qx_w3 hm hI (by omega) (fun σ hi => ih _ _ _ (by omega) (by omega) hi)
theorem qx_li_110 {Bf Yf : Nat → Nat} {o M : Nat} (hm : m ≤ h.length) (hF : 24 < F) (hM : M ≤ 64) (hmany : ∀ σ c, OWi σ0 σ c → f_M_symbolMany F m (nI o) (mh m h σ) = some (nI M, mh m h σ)) (hsym : ∀ k, 1 ≤ k → k < M → (nI (Bf k) = 0 → Bf k = 0) ∧ ∃ W V P, (Bf k ≠ 0 → Yf k ≤ 20 ∧ P + Yf k < 65536) ∧ ∀ σ c, OWi σ0 σ c → f_M_bind F m (nI o) (nI k) (mh m h σ) = some (nI (Bf k), mh m h σ) ∧ f_M_where F m (nI o) (nI k) (mh m h σ) = some (nI W, mh m h σ) ∧ f_M_value F m (nI o) (nI k) (mh m h σ) = some (V, mh m h σ) ∧ (Bf k ≠ 0 → (∃ v, f_M_letterOf F m (nI o) (nI k) (mh m h σ) = some (v, mh m h σ)) ∧ f_M_nameAt F m (nI o) (nI k) (mh m h σ) = some (nI P, mh m h σ) ∧ f_M_nameEnd F m (nI o) (nI k) (mh m h σ) = some (nI (P + Yf k), mh m h σ))) : ∀ (d k f c : Nat) (σ : px_S), 1 ≤ k → (k + d = M ∨ (M ≤ k ∧ d = 0)) → k ≤ 64 → d < f → c + 40 ≤ 40 * k → OWx σ0 σ c → Sm m h (fun σ' => OWx σ0 σ' (c + lsz Bf Yf d k)) (fun v => v = nI (c + lsz Bf Yf d k)) (f_M_list_110 F f m (nI o) (nI k) (mh m h σ)) := by
  intro d
  induction d with
  | zero =>
    intro k f c σ hk1 hk h64 hf hc hI
    obtain ⟨f, rfl⟩ : ∃ y, f = y + 1 := ⟨f - 1, by omega⟩
    unfold f_M_list_110 f_M_list_345
    rw [e_o hm, bs, hmany σ _ hI.1, xb_mk, if_pos (nI_le (by omega) (by omega)), Mg4 hm, bs]
    exact sm_r hI.1.2.1 hI
  | succ d ih =>
    intro k f c σ hk1 hk h64 hf hc hI
    obtain ⟨f, rfl⟩ : ∃ y, f = y + 1 := ⟨f - 1, by omega⟩
    have hkM : k < M := by omega
    obtain ⟨hB0, W, V, P, hPY, hs⟩ := hsym k hk1 hkM
    obtain ⟨s1, s2, s3, s4⟩ := hs σ _ hI.1
    unfold f_M_list_110 f_M_list_345 f_M_list_339 f_M_list_162 lsz
    rw [e_o hm, bs, hmany σ _ hI.1, xb_mk, if_neg (nI_ge (by omega) (by omega)), e_o hm, bs, s1, xb_mk, nI_add]
    by_cases hB : Bf k = 0
    · rw [if_pos hB, if_pos (by rw [hB]; rfl), Nat.zero_add]
      exact ih _ _ _ _ (by omega) (by omega) (by omega) (by omega) (by omega) hI
    · rw [if_neg hB, if_neg (fun e => hB (hB0 e))]
      obtain ⟨hY, hP⟩ := hPY hB
      have hl := fun σ c hi => (hs σ c hi).2.2.2 hB
      rw [← Nat.add_assoc c (20 + Yf k)]
      have h203 : ∀ σ, OWx σ0 σ c → Sm m h (fun σ' => OWx σ0 σ' (c + (20 + Yf k) + lsz Bf Yf d (k + 1))) (fun v => v = nI (c + (20 + Yf k) + lsz Bf Yf d (k + 1))) (f_M_list_203 F (f_M_list_110 F f) m (nI o) (nI k) (mh m h σ)) := fun σ hi => qx_li_203 hm hF hY hP hl (by omega) (fun σ hi => ih _ _ _ _ (by omega) (by omega) (by omega) (by omega) (by omega) hi) hi
      rw [e_o hm, bs, s2, xb_mk]
      refine sm_i (fun _ => qx_li_165 hm (by omega) (fun σ c hi => (hs σ c hi).2.1) h203 16 0 F σ rfl (by omega) hI) (fun _ => ?_)
      rw [Mg4 hm, bs, e_o hm, bs, s3, xb_mk, e_o hm, bs, hI.1.2.1]
      refine sm_x (qx_16_3 (F := F) (x := V) (p := c) hm (by omega) 16 0 F σ rfl (by omega) hI) (fun v σ hv hi => ?_)
      exact qx_li_165 hm (by omega) (fun σ c hi => (hs σ c hi).2.1) h203 16 0 F σ rfl (by omega) hi
/-- what is read of a symbol that is listed -/
theorem li_symx {o n k : Nat} (hm : m ≤ h.length) (hF : 24 < F) (hO : OBl σ0 o n) (hk1 : 1 ≤ k) (hk : k < oM (cb (gA σ0 6) o n)) : (nI (yB (cb (gA σ0 6) o n) k) = 0 → yB (cb (gA σ0 6) o n) k = 0) ∧ ∃ W V P, (yB (cb (gA σ0 6) o n) k ≠ 0 → yL (cb (gA σ0 6) o n) k ≤ 20 ∧ P + yL (cb (gA σ0 6) o n) k < 65536) ∧ ∀ σ c, OWi σ0 σ c → f_M_bind F m (nI o) (nI k) (mh m h σ) = some (nI (yB (cb (gA σ0 6) o n) k), mh m h σ) ∧ f_M_where F m (nI o) (nI k) (mh m h σ) = some (nI W, mh m h σ) ∧ f_M_value F m (nI o) (nI k) (mh m h σ) = some (V, mh m h σ) ∧ (yB (cb (gA σ0 6) o n) k ≠ 0 → (∃ v, f_M_letterOf F m (nI o) (nI k) (mh m h σ) = some (v, mh m h σ)) ∧ f_M_nameAt F m (nI o) (nI k) (mh m h σ) = some (nI P, mh m h σ) ∧ f_M_nameEnd F m (nI o) (nI k) (mh m h σ) = some (nI (P + yL (cb (gA σ0 6) o n) k), mh m h σ)) := by
  obtain ⟨hB, hon, he⟩ := id hO
  obtain ⟨hw, hyo, _⟩ := eObj_0 he
  have hX : oP (cb (gA σ0 6) o n) (oX (cb (gA σ0 6) o n)) + oZ (cb (gA σ0 6) o n) (oX (cb (gA σ0 6) o n)) ≤ n := by
    have hY : oY (cb (gA σ0 6) o n) ≠ 0 := fun e => by unfold oM at hk; rw [if_pos e] at hk; exact absurd hk (Nat.not_lt_zero k)
    obtain ⟨_, _, x1, x2⟩ := hw.2 hY
    exact hw.1.2.2.2.1 _ x1 (by rw [x2]; decide) (by rw [x2]; decide)
  have hG : yB (cb (gA σ0 6) o n) k ≠ 0 → yG (cb (gA σ0 6) o n) k = true := fun hBn => (yOK_n (hyo k hk1 hk) hBn).2.1
  have hB2 : yB (cb (gA σ0 6) o n) k < 2 ^ 31 := by
    by_cases e : yB (cb (gA σ0 6) o n) k = 0
    · rw [e]; decide
    · have w := (yOK_n (hyo k hk1 hk) e).1
      omega
  refine ⟨fun e => (nI_eq hB2 (by decide)).mp e, yW (cb (gA σ0 6) o n) k, lN (yV (cb (gA σ0 6) o n) k), o + (oP (cb (gA σ0 6) o n) (oX (cb (gA σ0 6) o n)) + yN (cb (gA σ0 6) o n) k), fun hBn => ?_, fun σ c hI => ?_⟩
  · obtain ⟨g1, g2, g3⟩ := yG_n (hG hBn)
    refine ⟨g2, ?_⟩
    generalize oP (cb (gA σ0 6) o n) (oX (cb (gA σ0 6) o n)) = p1 at *
    generalize oZ (cb (gA σ0 6) o n) (oX (cb (gA σ0 6) o n)) = p2 at *
    generalize yN (cb (gA σ0 6) o n) k = p3 at *
    generalize yL (cb (gA σ0 6) o n) k = p4 at *
    omega
  · have e6 := OWi_6 hI
    have hb : mb (mh m h σ) m (gA σ0 6) := by rw [← e6]; exact Mmb hm (by rw [e6]; exact hB)
    have hrk := w1_rk hw.1 hon
    have h1 := hw.1.2.1.1
    have hyp := w2_y hw hk
    refine ⟨q_bind hb hF hrk h1 hyp, q_where hb hF hrk h1 hyp, q_value hb hF hrk h1 hyp, fun hBn => ⟨so_letter hm hF (by rw [e6]; exact hB) (by rw [e6]; exact hw) hon (by rw [e6]; exact hk) (by rw [e6]; exact hyo k hk1 hk), q_nameAt hb hF hw hon hk, ?_⟩⟩
    have q := q_nameEnd (F := F) (σ := σ) (o := o) (n := n) (k := k) hm (by rw [e6]; exact hB) hF (by rw [e6]; exact hw) hon (by rw [e6]; exact hk) (by rw [e6]; exact hG hBn)
    rw [e6] at q
    exact q
/-- the reference's list -/
theorem q_list {a1 a2 : Int32} (hm : m ≤ h.length) (hF : 65540 < F) (hr : RF σ fs) (ho : OUo σ) : (∀ q o n b, MBR fs a1 a2 q o n b false → Sm m h (fun σ' => OWx (sI σ 0 (nI 0)) σ' (lsz (yB b) (yL b) (oM b - 1) 1)) (fun v => v = nI (lsz (yB b) (yL b) (oM b - 1) 1)) (f_M_list F m a1 a2 (mh m h σ))) ∧ ((∀ q o n b, ¬ MBR fs a1 a2 q o n b false) → f_M_list F m a1 a2 (mh m h σ) = some (nI 0, mh m h (sI σ 0 (nI 1)))) := by
  have h8 := hr.2.1
  have th1 : f_M_throwing F m (nI 1) (nI 0) (mh m h σ) = some (nI 1, mh m h (sI σ 0 (nI 1))) := q_throwing hm true false
  have th0 : f_M_throwing F m (nI 0) (nI 0) (mh m h σ) = some (nI 0, mh m h (sI σ 0 (nI 0))) := q_throwing hm false false
  have bad2 : f_M_list_80 F m a1 a2 m (nI 1) (mh m h σ) = some (nI 0, mh m h (sI σ 0 (nI 1))) := by
    unfold f_M_list_80
    rw [e_o hm, bs, th1, xb_mk, if_neg (by decide)]
  have bad : f_M_list_47 F m a1 a2 (nI 1) (mh m h σ) = some (nI 0, mh m h (sI σ 0 (nI 1))) := by
    unfold f_M_list_47 f_M_list_75
    rw [if_neg (by decide)]
    exact bad2
  have no : (∀ q o n b, ¬ MBR fs a1 a2 q o n b false) → f_M_list F m a1 a2 (mh m h σ) = some (nI 0, mh m h (sI σ 0 (nI 1))) → (∀ q o n b, MBR fs a1 a2 q o n b false → Sm m h (fun σ' => OWx (sI σ 0 (nI 0)) σ' (lsz (yB b) (yL b) (oM b - 1) 1)) (fun v => v = nI (lsz (yB b) (yL b) (oM b - 1) 1)) (f_M_list F m a1 a2 (mh m h σ))) ∧ ((∀ q o n b, ¬ MBR fs a1 a2 q o n b false) → f_M_list F m a1 a2 (mh m h σ) = some (nI 0, mh m h (sI σ 0 (nI 1)))) := fun hM e => ⟨fun q o n b h => absurd h (hM q o n b), fun _ => e⟩
  by_cases c1 : a1 < 0
  · refine no (fun q o n b ⟨i', k', q1, q2, q3, _⟩ => ?_) ?_
    · rw [q3] at c1
      exact nI_n0 (by omega) c1
    · unfold f_M_list f_M_list_42
      rw [if_pos c1, bad]
  by_cases c2 : nI fs.length ≤ a1
  · refine no (fun q o n b ⟨i', k', q1, q2, q3, _⟩ => ?_) ?_
    · rw [q3] at c2
      exact nI_ge (by omega) (by omega) c2
    · unfold f_M_list f_M_list_42
      rw [if_neg c1, Mg5 hm, bs, hr.1, if_pos c2, bad]
  obtain ⟨i, hi, rfl⟩ := ixG c1 c2 (Nat.le_refl _)
  by_cases c3 : a2 < 0
  · refine no (fun q o n b ⟨i', k', q1, q2, q3, q4, _⟩ => ?_) ?_
    · rw [q4] at c3
      exact nI_n0 (by omega) c3
    · unfold f_M_list f_M_list_42
      rw [if_neg c1, Mg5 hm, bs, hr.1, if_neg c2, if_pos c3, bad]
  obtain ⟨x, hx⟩ : ∃ x, fs[i]? = some x := ⟨_, List.getElem?_eq_getElem hi⟩
  obtain ⟨_, _, _, _, l, hl, _⟩ := hr.2.2.2 i x hx
  obtain ⟨y1, y2, y3, _⟩ := RF_row hr hx hl
  obtain ⟨k, hk, rfl⟩ := nI_of c3
  have a8 : xaI (mh m h σ) 1 (m + 5) (nI i) = some (gA σ 8 i) := e_aI (k := 8) hm rfl (show i < 8 by omega)
  have head : f_M_list F m (nI i) (nI k) (mh m h σ) = if nI k < nI l.length then f_M_list_47 F m (nI i) (nI k) (nI 0) (mh m h σ) else f_M_list_47 F m (nI i) (nI k) (nI 1) (mh m h σ) := by
    unfold f_M_list f_M_list_38 f_M_list_42
    rw [if_neg c1, Mg5 hm, bs, hr.1, if_neg c2, if_neg c3, Mr8 hm, bs, if_neg c1, bs, if_neg c2, a8, bs, y1]
  by_cases c4 : nI k < nI l.length
  · rw [if_pos c4] at head
    have hkl : k < l.length := Nat.lt_of_not_le (fun w => absurd c4 (nI_nlt w hk))
    have eob := obAt_none hr hx hl (show k < 8 by omega)
    rw [List.getElem?_eq_getElem hkl] at eob
    obtain ⟨o, n, b, sk, hob⟩ : ∃ o n b sk, obAt fs (8 * i + k) = some (o, n, b, sk) := ⟨_, _, _, _, eob⟩
    have hM : MBR fs (nI i) (nI k) (8 * i + k) o n b sk := ⟨i, k, hi, by omega, rfl, rfl, rfl, hob⟩
    obtain ⟨q1, q2, q3, q4, q5, q6, q7⟩ := RF_ob hr hob
    have a12 : xaI (mh m h σ) 3 (m + 9) (nI (8 * i + k)) = some (gA σ 12 (8 * i + k)) := e_aI (k := 12) hm rfl q1
    have head2 : f_M_list F m (nI i) (nI k) (mh m h σ) = if bI sk = 0 then f_M_list_80 F m (nI i) (nI k) m (nI 0) (mh m h σ) else f_M_list_80 F m (nI i) (nI k) m (nI 1) (mh m h σ) := by
      rw [head]
      unfold f_M_list_47 f_M_list_71 f_M_list_75
      rw [if_pos (show (nI 0 : Int32) = 0 from rfl), Mr12 hm, bs, if_pos (show (nI 0 : Int32) = 0 from rfl), ix8, a12, bs, q4]
    rw [bad2] at head2
    cases sk with
    | true =>
      refine no (fun q o n b h2 => ?_) ?_
      · have e5 := (MBR_u h8 hM h2).2.2.2.2
        cases e5
      · rw [head2, if_neg (by decide)]
    | false =>
      rw [if_pos (show bI false = 0 from rfl)] at head2
      refine ⟨fun q' o' n' b' h2 => ?_, fun w => absurd hM (w _ _ _ _)⟩
      obtain ⟨_, _, _, e5, _⟩ := MBR_u h8 hM h2
      subst e5
      have he := q7 rfl
      have q5' : cb (gA (sI σ 0 (nI 0)) 6) o n = b := q5
      have hO : OBl (sI σ 0 (nI 0)) o n := ⟨hr.2.2.1, q6, by rw [q5']; exact he⟩
      have hw := (eObj_0 he).1
      have a9 : xaI (mh m h (sI σ 0 (nI 0))) 1 (m + 6) (nI (8 * i + k)) = some (gA (sI σ 0 (nI 0)) 9 (8 * i + k)) := e_aI (k := 9) hm rfl q1
      have hI0 : OWx (sI σ 0 (nI 0)) (sI (sI σ 0 (nI 0)) 4 (nI 0)) 0 := by
        refine ⟨⟨FR_mono (FR_I _ _ _) (by decide) (by decide) (by decide) (by decide), by rw [gI_sI, if_pos rfl], ho.2⟩, ?_⟩
        rw [gI_sI, if_neg (by decide), gI_sI, if_pos rfl]
      rw [head2]
      unfold f_M_list_80
      rw [e_o hm, bs, th0, xb_mk, if_pos (show (nI 0 : Int32) = 0 from rfl), Mr9 hm, bs, ix8, a9, bs, show gA (sI σ 0 (nI 0)) 9 (8 * i + k) = nI o from q2, Mp4 hm, bs]
      have hM64 := w2_M hw
      have hmany : ∀ σ2 c, OWi (sI σ 0 (nI 0)) σ2 c → f_M_symbolMany F m (nI o) (mh m h σ2) = some (nI (oM b), mh m h σ2) := fun σ2 c hI => by
        have e := OWi_6 hI
        have hb : mb (mh m h σ2) m (gA (sI σ 0 (nI 0)) 6) := by rw [← e]; exact Mmb hm (by rw [e]; exact hO.1)
        have w := q_symbolMany (F := F) (o := o) (n := n) hb (by omega) (w1_rk (by rw [q5']; exact hw.1) q6) (by rw [q5']; exact hw.1.2.1.1) (fun hY => by rw [q5'] at hY ⊢; have := (hw.2 hY).2.1; omega)
        rw [q5'] at w
        exact w
      have hsym := fun (k2 : Nat) (hk1 : 1 ≤ k2) (hk : k2 < oM b) => li_symx (F := F) (m := m) (h := h) (σ0 := sI σ 0 (nI 0)) (o := o) (n := n) (k := k2) hm (by omega) hO hk1 (by rw [q5']; exact hk)
      rw [q5'] at hsym
      have w := qx_li_110 (F := F) (m := m) (h := h) (σ0 := sI σ 0 (nI 0)) (Bf := yB b) (Yf := yL b) (o := o) (M := oM b) hm (by omega) hM64 hmany hsym (oM b - 1) 1 F 0 _ (Nat.le_refl _) (by omega) (by omega) (by omega) (Nat.le_refl _) hI0
      rw [Nat.zero_add] at w
      exact w
  · rw [if_neg c4, bad] at head
    refine no (fun q o n b ⟨i', k', q1, q2, q3, q4, q5, q6⟩ => ?_) head
    have e2 : i = i' := (nI_eq (by omega) (by omega)).mp q3
    have e3 : k = k' := (nI_eq (by omega) (by omega)).mp q4
    have hkl : ¬ k < l.length := fun w => c4 (nI_lt w (by omega))
    have eob := obAt_none hr hx hl (show k < 8 by omega)
    rw [List.getElem?_eq_none (by omega), e2, e3, ← q5, q6] at eob
    cases eob
end BLM
section BLC
variable {F : Nat} {c : px_CT} {sk : Nat → Nat × Nat × Nat} {L : Nat} {own : Nat → Nat × Nat} {τ0 τ : px_TT} {fs : List (Nat × (Nat → Nat))} {gs : List (List Nat × Int64)} {ws : List (List Nat)} {n : Nat} {b : Nat → Nat} {a : Int32} {Y : px_Y} {q o n' r A : Nat} {b' : Nat → Nat}
/-- what the class reads of a symbol that is listed -/
theorem z_sym {j : Nat} (hF : 65540 < F) (hC : CV sk L own τ0 fs gs ws n b a Y) (hob : obAt fs q = some (o, n', b', false)) (hj1 : 1 ≤ j) (hj : j < oM b') (hI : SI none sk L τ0 τ) : ob sk L 7 (10 + 2 * q) ∧ fI τ (10 + 2 * q) 11 = nI (oM b') ∧ f_ObjectFile_bindOf F c (10 + 2 * q) (nI j) (cH sk L τ) = some (nI (yB b' j), cH sk L τ) ∧ (∃ W, f_ObjectFile_whereOf F c (10 + 2 * q) (nI j) (cH sk L τ) = some (W, cH sk L τ)) ∧ (∃ V, f_ObjectFile_valueOf F c (10 + 2 * q) (nI j) (cH sk L τ) = some (V, cH sk L τ)) ∧ ∃ P, f_ObjectFile_nameStart F c (10 + 2 * q) (nI j) (cH sk L τ) = some (P, cH sk L τ) ∧ (yB b' j ≠ 0 → (1 ≤ yL b' j ∧ yL b' j ≤ 20) ∧ ∃ τ', f_Name_read F c 1695 7 P (cH sk L τ) = some ((), cH sk L τ') ∧ frN 1695 τ τ' ∧ fI τ' 1695 3 = nI (yL b' j)) := by
  have hCt := CV_SI hC hI
  obtain ⟨h64, _, e5, h6, h7, hd⟩ := CF_ob hCt.2.2.2.1 hob
  have hD := hd rfl
  have hs := hD.1
  have he : eObj b' n' = 0 := by
    have w := hD.2.2
    rw [e5] at w
    exact w
  have hj' : j < oM (cb (eI τ 8) (bsO fs q) n') := by rw [e5]; exact hj
  have k1 := k_bindOf (F := F) (c := c) hs (by omega) hj1 hj'
  have k2 := k_whereOf (F := F) (c := c) hs (by omega) hj'
  have k3 := k_valueOf (F := F) (c := c) hs (by omega) hj'
  have k4 := k_nameStart (F := F) (c := c) hs (by omega) hj'
  have k5 := hs.2.1.2.1
  rw [e5] at k1 k5
  refine ⟨hs.1.1.1.1, k5, k1, ⟨_, k2⟩, ⟨_, k3⟩, _, k4, fun hB => ?_⟩
  have hG := (yOK_n ((eObj_0 he).2.1 j hj1 hj) hB).2.1
  obtain ⟨g1, g2, _⟩ := yG_n hG
  refine ⟨⟨g1, g2⟩, ?_⟩
  obtain ⟨τ', e, f1, f2⟩ := k_probe (F := F) (c := c) (j := j) hCt.1 hs (by omega) hCt.2.2.2.1.2.2.2.1 h6 h7 hj' (by rw [e5]; exact hG)
  refine ⟨τ', e, f1, ?_⟩
  have w := f2.2.2.2
  rw [e5] at w
  rw [w]
  unfold yT
  rw [tk_len]
theorem sg_letter {I : px_TT → Prop} {zb : Option Nat} {x : Int32} (h0 : S0 sk L τ0) (hF : 65540 < F) (hq : OBq q) (hI : SI zb sk L τ0 τ) (hz : I τ) : Sf sk L I Any (f_Scribe_letterOf F c (some q) x (cH sk L τ)) := by
  unfold f_Scribe_letterOf f_Scribe_letterOf_20 f_Scribe_letterOf_36 f_Scribe_letterOf_80 f_Scribe_letterOf_81 f_Scribe_letterOf_100
  rw [xs_20.1]
  have key : ∀ {v : Int32} {f : Int32 → Option (Int32 × px_H)}, ¬ v < 0 → ¬ nI 6 ≤ v → (∀ w, Sf sk L I Any (f w)) → Sf sk L I Any ((xsc 20 v).bind f) := by
    intro v f h1 h2 g
    obtain ⟨i, hi, rfl⟩ := nI_of h1
    have h6 : i < 6 := Nat.lt_of_not_le (fun h => h2 (nI_le h hi))
    obtain ⟨w, e⟩ := xs_20.2 i h6
    rw [e, bs]; exact g w
  repeat' (first | ((with_reducible refine key ?_ ?_ (fun w => ?_)); assumption; assumption) | ((rw [bs])) | exact absurd (show nI 0 = 0 from rfl) (by assumption) | exact absurd (show nI 1 = 0 by assumption) (by decide) | ((with_reducible refine sf_i (fun hc => ?_) (fun hc => ?_))) | ((with_reducible refine sf_gF h0 ?_ ?_ ?_ ?_ ?_); decide; decide; decide; decide) | ((with_reducible refine sf_gI ?_ ?_ ?_ ?_); (first | assumption | exact GS_o h0.1 (by decide) (by decide) | exact RRd_o h0 (by assumption) | exact RRd_o h0 (Or.inr (by assumption)) | exact OBq_o h0 (by assumption) | exact OBq_o h0 (Obt_q (by assumption)) | exact G_part h0.1 (by assumption) | exact Nmo_o (by assumption)); decide; decide) | ((with_reducible refine sf_gJ ?_ ?_ ?_ ?_); (first | assumption | exact GS_o h0.1 (by decide) (by decide) | exact RRd_o h0 (by assumption) | exact RRd_o h0 (Or.inr (by assumption)) | exact OBq_o h0 (by assumption) | exact OBq_o h0 (Obt_q (by assumption)) | exact G_part h0.1 (by assumption) | exact Nmo_o (by assumption)); decide; decide) | ((with_reducible refine sf_gN ?_ ?_ ?_ ?_); (first | assumption | exact GS_o h0.1 (by decide) (by decide) | exact RRd_o h0 (by assumption) | exact RRd_o h0 (Or.inr (by assumption)) | exact OBq_o h0 (by assumption) | exact OBq_o h0 (Obt_q (by assumption)) | exact G_part h0.1 (by assumption) | exact Nmo_o (by assumption)); decide; decide) | ((with_reducible refine sf_gG h0 (by assumption) ?_ ?_ ?_ ?_ (by with_unfolding_all exact rfl) ?_); decide; decide; decide; decide) | ((with_reducible refine sf_o ?_ (fun l => ?_)); (first | assumption | exact GS_o h0.1 (by decide) (by decide) | exact RRd_o h0 (by assumption) | exact RRd_o h0 (Or.inr (by assumption)) | exact OBq_o h0 (by assumption) | exact OBq_o h0 (Obt_q (by assumption)) | exact G_part h0.1 (by assumption) | exact Nmo_o (by assumption))) | ((with_reducible refine sf_s ?_)) | ((with_reducible refine sf_sb (by assumption) ?_)) | ((with_reducible refine sf_r ?_ ?_); (first | exact any | assumption | exact ⟨false, rfl⟩ | exact ⟨true, rfl⟩); assumption) | ((with_reducible refine sf_z ?_ ?_ ?_); (first | exact ⟨false, rfl⟩ | exact ⟨true, rfl⟩ | assumption); (first | exact any | exact ⟨false, rfl⟩ | exact ⟨true, rfl⟩ | assumption); assumption) | ((with_reducible refine sx_of (so_where h0 hF (by assumption) (by first | assumption | exact Obt_q (by assumption))) (fun v => ?_))) | ((with_reducible refine sx_of (so_bind h0 hF (by assumption) (by first | assumption | exact Obt_q (by assumption))) (fun v => ?_))) | ((with_reducible refine sx_of (so_group h0 hF (by assumption) (by first | assumption | exact Obt_q (by assumption))) (fun v => ?_))))
theorem z_list_59 {j cc : Nat} {J : px_TT → Prop} {k6 : Nat → Nat → Option Nat → Int32 → px_H → Option (Unit × px_H)} (hF : 65540 < F) (hC : CV sk L own τ0 fs gs ws n b a Y) (hob : obAt fs q = some (o, n', b', false)) (hr : TRw r A 65536) (hj1 : 1 ≤ j) (hj : j < oM b') (hB : yB b' j ≠ 0) (hK : ∀ τ, SZ none sk L τ0 r 65536 (cc + (4 + yL b' j)) τ → Sf sk L J Any (k6 1713 r (some (10 + 2 * q)) (nI (j + 1)) (cH sk L τ))) (hI : SZ none sk L τ0 r 65536 cc τ) : Sf sk L J Any (f_Scribe_writeList_59 F c k6 1713 r (some (10 + 2 * q)) (nI j) (cH sk L τ)) := by
  have h0 := (CV_S4 hC).1.1.1
  obtain ⟨h64, _⟩ := CF_ob hC.2.2.2.1 hob
  have hq : OBq (10 + 2 * q) := ⟨q, h64, rfl⟩
  have orr : ob sk L 10 r := (SI_row hI.1 hr).1
  have o13 := G1713 hC.1
  have o47 := G147 hC.1
  have o95 : ob sk L 5 1695 := GS_o hC.1 (by decide) (by decide)
  have hrne : r ≠ 1695 := by
    unfold TRw at hr
    omega
  unfold f_Scribe_writeList_59 f_Scribe_writeList_124
  rw [c_o orr, bs]
  refine sz_x (sz_put hF hr (by decide) hI) (fun _ τ1 _ i1 => ?_)
  refine sz_x (J := SZ none sk L τ0 r 65536 (cc + 1)) (W := Any) ?_ (fun t2 τ2 _ i2 => ?_)
  · exact sg_letter h0 hF hq i1.1 i1
  rw [c_o orr, bs]
  refine sz_x (sz_put hF hr (by decide) i2) (fun _ τ3 _ i3 => ?_)
  rw [c_o orr, bs]
  refine sz_x (sz_put hF hr (by decide) i3) (fun _ τ4 _ i4 => ?_)
  have hR4 : GR τ4 := GR_Z h0.2.1 i4.1.1
  obtain ⟨o1, _, _, _, _, P, e4, hn⟩ := z_sym (F := F) (c := c) hF hC hob hj1 hj i4.1
  obtain ⟨⟨y1, y2⟩, τ5, e5, f5, l5⟩ := hn hB
  have i5 : SZ none sk L τ0 r 65536 (cc + 1 + 1 + 1) τ5 := ⟨SI_N i4.1 f5 (Or.inr rfl), rz_fr i4.2.1 (fun k => f5.1 r k (Or.inl hrne)), fun k => (f5.2.2.1 0 k).trans (i4.2.2 k)⟩
  have hR5 : GR τ5 := GR_Z h0.2.1 i5.1.1
  rw [C11r0 o13 (GR_r (v := 147) hR4 (by decide)), bs, C3r11 o47 (GR_r (v := 1695) hR4 (by decide)), bs, C11r2 o13 (GR_r (v := 7) hR4 (by decide)), bs, bs, c_o o1, bs, e4, xb_mk, c_o o95, bs, e5, xb_mk, C11r0 o13 (GR_r (v := 147) hR5 (by decide)), bs, C3r11 o47 (GR_r (v := 1695) hR5 (by decide)), bs, c_o o95, bs]
  refine sz_x (sz_wto hF hr o95 (Ne.symm hrne) (show yL b' j ≤ 24 by omega) l5 i5) (fun _ τ6 _ i6 => ?_)
  rw [c_o orr, bs]
  refine sz_x (sz_put hF hr (by decide) i6) (fun _ τ7 _ i7 => ?_)
  rw [nI_add]
  refine hK τ7 ?_
  rw [show cc + (4 + yL b' j) = cc + 1 + 1 + 1 + yL b' j + 1 by omega]
  exact i7
theorem z_list_6 (hF : 65540 < F) (hC : CV sk L own τ0 fs gs ws n b a Y) (hob : obAt fs q = some (o, n', b', false)) (hr : TRw r A 65536) : ∀ (d j f : Nat) (τ : px_TT) (cc : Nat), 1 ≤ j → (j + d = oM b' ∨ (oM b' ≤ j ∧ d = 0)) → j ≤ 64 → d < f → SZ none sk L τ0 r 65536 cc τ → Sf sk L (SZ none sk L τ0 r 65536 (cc + lsz (yB b') (yL b') d j)) Any (f_Scribe_writeList_6 F c f 1713 r (some (10 + 2 * q)) (nI j) (cH sk L τ)) := by
  have hM64 : oM b' ≤ 64 := by
    obtain ⟨_, _, e5, _, _, hd⟩ := CF_ob hC.2.2.2.1 hob
    have w := (hd rfl).2.2
    rw [e5] at w
    exact w2_M (eObj_0 w).1
  intro d
  induction d with
  | zero =>
    intro j f τ cc hj1 hj h64 hf hI
    obtain ⟨f, rfl⟩ : ∃ y, f = y + 1 := ⟨f - 1, by omega⟩
    have hCt := CV_SI hC hI.1
    obtain ⟨_, _, e5, _, _, hd⟩ := CF_ob hCt.2.2.2.1 hob
    have hs := (hd rfl).1
    have k5 := hs.2.1.2.1
    rw [e5] at k5
    unfold f_Scribe_writeList_6 f_Scribe_writeList_130
    rw [bs, C7g11 hs.1.1.1.1, bs, k5, if_pos (nI_le (by omega) (by omega))]
    exact sf_r any hI
  | succ d ih =>
    intro j f τ cc hj1 hj h64 hf hI
    obtain ⟨f, rfl⟩ : ∃ y, f = y + 1 := ⟨f - 1, by omega⟩
    have hjM : j < oM b' := by omega
    obtain ⟨o1, k5, k1, ⟨W, k2⟩, ⟨V, k3⟩, _⟩ := z_sym (F := F) (c := c) hF hC hob hj1 hjM hI.1
    have orr := (SI_row hI.1 hr).1
    unfold f_Scribe_writeList_6 f_Scribe_writeList_130 lsz
    rw [bs, C7g11 o1, bs, k5, if_neg (nI_ge (by omega) (by omega)), c_o o1, bs, k1, xb_mk]
    by_cases hB : yB b' j = 0
    · rw [if_pos hB, if_pos (by rw [hB]; rfl), Nat.zero_add]
      unfold f_Scribe_writeList_124
      rw [nI_add]
      exact ih _ _ _ _ (by omega) (by omega) (by omega) (by omega) hI
    · have he : eObj b' n' = 0 := by
        obtain ⟨_, _, e5, _, _, hd⟩ := CF_ob hC.2.2.2.1 hob
        have w := (hd rfl).2.2
        rw [e5] at w
        exact w
      have hB2 := (yOK_n ((eObj_0 he).2.1 j hj1 hjM) hB).1
      have ecc : cc + (20 + yL b' j + lsz (yB b') (yL b') d (j + 1)) = cc + 16 + (4 + yL b' j) + lsz (yB b') (yL b') d (j + 1) := by omega
      rw [if_neg hB, if_neg (nI_nz (by omega) hB), c_o o1, bs, k2, xb_mk, ecc]
      have tail : ∀ τ, SZ none sk L τ0 r 65536 (cc + 16) τ → Sf sk L (SZ none sk L τ0 r 65536 (cc + 16 + (4 + yL b' j) + lsz (yB b') (yL b') d (j + 1))) Any (f_Scribe_writeList_59 F c (f_Scribe_writeList_6 F c f) 1713 r (some (10 + 2 * q)) (nI j) (cH sk L τ)) := fun τ hi => z_list_59 hF hC hob hr hj1 hjM hB (fun τ hi => ih _ _ _ _ (by omega) (by omega) (by omega) (by omega) hi) hi
      refine sf_i (fun _ => ?_) (fun _ => ?_)
      · rw [C10g1 orr, bs, c_o orr, bs]
        exact sz_x (sz_fill hF hr (by decide) (by decide) hI) (fun _ τ1 _ i1 => tail τ1 i1)
      · rw [c_o o1, bs, k3, xb_mk, c_o orr, bs]
        exact sz_x (sz_hex hF hr hI) (fun _ τ1 _ i1 => tail τ1 i1)
theorem z_list (hF : 65540 < F) (hC : CV sk L own τ0 fs gs ws n b a Y) (hob : obAt fs q = some (o, n', b', false)) (hr : TRw r A 65536) (hI : SI none sk L τ0 τ) (hN : ∀ k, fN τ 0 k = fN τ0 0 k) : Sf sk L (SZ none sk L τ0 r 65536 (lsz (yB b') (yL b') (oM b' - 1) 1)) Any (f_Scribe_writeList F c 1713 r (some (10 + 2 * q)) (cH sk L τ)) := by
  have hM64 : oM b' ≤ 64 := by
    obtain ⟨_, _, e5, _, _, hd⟩ := CF_ob hC.2.2.2.1 hob
    have w := (hd rfl).2.2
    rw [e5] at w
    exact w2_M (eObj_0 w).1
  unfold f_Scribe_writeList
  rw [c_o (SI_row hI hr).1, bs]
  refine sz_x (sz_clear hI hN hr) (fun _ τ1 _ i1 => ?_)
  have w := z_list_6 (F := F) (c := c) hF hC hob hr (oM b' - 1) 1 F τ1 0 (Nat.le_refl _) (by omega) (by omega) (by omega) i1
  rw [Nat.zero_add] at w
  exact w
end BLC
section BLB
variable {F : Nat} {c : px_CT} {sk : Nat → Nat × Nat × Nat} {L : Nat} {own : Nat → Nat × Nat} {τ : px_TT} {σ : px_S} {fs : List (Nat × (Nat → Nat))} {gs : List (List Nat × Int64)} {ws : List (List Nat)} {n : Nat} {b : Nat → Nat} {a : Int32} {Y : px_Y} {k N : Nat}
/-- the row that is out -/
theorem CV_ro (hC : CV sk L own τ fs gs ws n b a Y) : ∃ ro A, TRw ro A 65536 ∧ fN τ 0 1 = some ro := by
  obtain ⟨ro, rd, hc, e1, _⟩ := (SI_self hC).2.2.1.1
  rcases hc with ⟨rfl, _⟩ | ⟨rfl, _⟩
  · exact ⟨3, 4, Or.inl ⟨rfl, rfl, rfl⟩, e1⟩
  · exact ⟨5, 6, Or.inr (Or.inl ⟨rfl, rfl, rfl⟩), e1⟩
/-- list of the class, list of the reference -/
theorem Bx_list {x y : Int32} (hF : 65540 < F) (hC : CV sk L own τ fs gs ws n b a Y) (hR : RV σ fs gs ws n b a Y) (hm : RMk sk L (k + 210)) (hN : n + (fs.map Prod.fst).sum ≤ N) : BT RnI (fun ci σ => ci = 15 ∧ gI σ 0 = nI 1) sk L τ k N (f_H_list F c 0 x y (cH sk L τ)) (g_H_list F c 0 x y (cH sk L τ)) (fun h => f_M_list F 1726 x y (mh 1726 h σ)) := by
  rcases k_objAt (F := F) (c := c) (i := x) (k := y) hC with ⟨q, o, n', b', hM, e⟩ | ⟨hM, e⟩
  · have hob : obAt fs q = some (o, n', b', false) := by
      obtain ⟨_, _, _, _, _, _, _, h⟩ := hM
      exact h
    have he : eObj b' n' = 0 := by
      obtain ⟨_, _, e5, _, _, hd⟩ := CF_ob hC.2.2.2.1 hob
      have w := (hd rfl).2.2
      rw [e5] at w
      exact w
    have hM64 := w2_M (eObj_0 he).1
    have hle : lsz (yB b') (yL b') (oM b' - 1) 1 ≤ 65536 := by
      by_cases c0 : oM b' = 0
      · rw [c0]; exact Nat.zero_le _
      · have w := lsz_le (Bf := yB b') (Yf := yL b') (M := oM b') (fun k h1 h2 hB => (yG_n (yOK_n ((eObj_0 he).2.1 k h1 h2) hB).2.1).2.1) (oM b' - 1) 1 (Nat.le_refl _) (by omega)
        omega
    obtain ⟨ro, A, hT, e1⟩ := CV_ro hC
    obtain ⟨u, τ', e2, _, i⟩ := z_list (F := F) (c := c) hF hC hob hT (SI_self hC) (fun _ => rfl)
    have eC : f_H_list F c 0 x y (cH sk L τ) = some (nI (lsz (yB b') (yL b') (oM b' - 1) 1), cH sk L τ') := by
      unfold f_H_list
      rw [c_o (G0 hC.1), bs, e, xb_mk]
      dsimp only
      rw [C0r15 (G0 hC.1) (GR_r (v := 1713) hC.2.1 (by decide)), bs, C0r1 (G0 hC.1) e1, bs, c_o (G1713 hC.1), bs, e2, xb_mk, C0r1 (G0 hC.1) ((i.2.2 1).trans e1), bs, C10g1 (SI_row i.1 hT).1, bs, (i.2.1.1 hle).1]
    refine ⟨fs, gs, ws, n, b, a, Y, hN, Or.inl ⟨_, sk, L, τ', own, eC, EX_refl, K26_Z i.1.1, RMk_le hm (by omega), CV_SI hC i.1, fun h hl => ?_⟩⟩
    obtain ⟨w, σ', e3, rfl, hW⟩ := (q_list (F := F) hl hF hR.2.1 hR.2.2.2.2.1).1 q o n' b' hM
    exact ⟨_, σ', e3, RV_W hR ⟨_, hle, FR_trans (FR_mono (FR_I σ 0 (nI 0)) (by decide) (by decide) (by decide) (by decide)) hW.1.1, hW.1.2⟩, rfl, hW.2⟩
  · refine ⟨fs, gs, ws, n, b, a, Y, hN, Or.inr ⟨15, τ, own, ?_, K26_refl τ, RMk_le hm (by omega), hC, fun h hl => ⟨_, _, (q_list (F := F) hl hF hR.2.1 hR.2.2.2.2.1).2 hM, RV_0 hR (FR_I _ _ _), rfl, rfl⟩⟩⟩
    unfold g_H_list
    rw [c_o (G0 hC.1), bs, e, xb_mk]
end BLB
end
