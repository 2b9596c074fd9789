section
/-! list: class and reference answer alike (steps spelled out by sf/pp.py) -/
/-- the bytes of a list: d symbols from the k-th on, Bf their bindings, Yf the lengths of their names -/
def lsz (Bf Yf : Nat → Nat) : Nat → Nat → Nat
  | 0, _ => 0
  | d + 1, k => (if Bf k = 0 then 0 else 20 + Yf k) + lsz Bf Yf d (k + 1)
theorem lsz_le {Bf Yf : Nat → Nat} {M : Nat} (hY : ∀ k, 1 ≤ k → k < M → Bf k ≠ 0 → Yf k ≤ 20) : ∀ d k, 1 ≤ k → k + d ≤ M → lsz Bf Yf d k ≤ 40 * d := by
  intro d
  induction d with
  | zero => intro k _ _; exact Nat.zero_le _
  | succ d ih =>
    intro k h1 h2
    have w := ih (k + 1) (by omega) (by omega)
    unfold lsz
    by_cases c : Bf k = 0
    · rw [if_pos c]; omega
    · have y := hY k h1 (by omega) c
      rw [if_neg c]; omega
/-- OUT is being written, nothing was thrown -/
def OWx (σ0 σ : px_S) (c : Nat) : Prop := OWi σ0 σ c ∧ gI σ 0 = nI 0
section BLM
variable {F m : Nat} {h : px_H} {σ0 σ : px_S} {fs : px_FS} {c : Nat}
theorem OWx_w {j : Nat} {v : Int32} (hI : OWx σ0 σ c) : OWx σ0 (sA σ 3 (upd (gA σ 3) j v.toInt8.toInt32)) c := ⟨OWi_w hI.1, hI.2⟩
theorem OWx_p {c' : Nat} (hI : OWx σ0 σ c) : OWx σ0 (sI σ 4 (nI c')) c' := ⟨OWi_p hI.1, by rw [gI_sI, if_neg (by decide)]; exact hI.2⟩
theorem qx_w3 {I : px_S → Prop} {α : Type} {V : α → Prop} {f : px_H → Option (α × px_H)} {p : Nat} {v : Int32} (hm : m ≤ h.length) (hI : OWx σ0 σ c) (hp : p < 65536) (g : ∀ σ, OWx σ0 σ c → Sm m h I V (f (mh m h σ))) : Sm m h I V ((xsI (mh m h σ) 0 (m + 2) (nI p) v.toInt8.toInt32).bind f) := by
  rw [Ms3 hm hp, bs]; exact g _ (OWx_w hI)
theorem qx_p4 {I : px_S → Prop} {α : Type} {V : α → Prop} {f : px_H → Option (α × px_H)} {c' : Nat} (hm : m ≤ h.length) (hI : OWx σ0 σ c) (g : ∀ σ, OWx σ0 σ c' → Sm m h I V (f (mh m h σ))) : Sm m h I V ((xpI (mh m h σ) 12 4 m (nI c')).bind f) := by
  rw [Mp4 hm, bs]; exact g _ (OWx_p hI)
theorem qx_16_3 {x : Int64} {p : Nat} (hm : m ≤ h.length) (hp : p + 16 ≤ 65536) : ∀ (d j f : Nat) (σ : px_S), j + d = 16 → d < f → OWx σ0 σ c → Sm m h (fun σ' => OWx σ0 σ' c) Any (f_M_sixteen_3 F f m (nI p) x (nI j) (mh m h σ)) := by
  intro d
  induction d with
  | zero =>
    intro j f σ hj hf hI
    obtain ⟨f, rfl⟩ : ∃ y, f = y + 1 := ⟨f - 1, by omega⟩
    unfold f_M_sixteen_3 f_M_sixteen_65
    rw [if_pos (nI_le (by omega) (by omega))]
    exact sm_r any hI
  | succ d ih =>
    intro j f σ hj hf hI
    obtain ⟨f, rfl⟩ : ∃ y, f = y + 1 := ⟨f - 1, by omega⟩
    unfold f_M_sixteen_3 f_M_sixteen_57
    rw [if_neg (nI_ge (by omega) (by omega)), nI_add, nI_add]
    refine sm_gR hm (c := 2) rfl (sm_i (fun _ => ?_) (fun _ => ?_))
    · exact qx_w3 hm hI (by omega) (fun σ hi => ih _ _ _ (by omega) (by omega) hi)
    · exact qx_w3 hm hI (by omega) (fun σ hi => ih _ _ _ (by omega) (by omega) hi)
theorem qx_li_273 {J : px_S → Prop} {V : Int32 → Prop} {k110 : Nat → Int32 → Int32 → px_H → Option (Int32 × px_H)} {o k P c0 Y : Nat} (hm : m ≤ h.length) (hY : Y ≤ 20) (hP : P + Y < 65536) (hq : ∀ σ c, OWi σ0 σ c → f_M_nameEnd F m (nI o) (nI k) (mh m h σ) = some (nI (P + Y), mh m h σ)) (hc0 : c0 + 40 ≤ 65536) (hK : ∀ σ, OWx σ0 σ (c0 + Y + 1) → Sm m h J V (k110 m (nI o) (nI (k + 1)) (mh m h σ))) : ∀ (d t f : Nat) (σ : px_S), t + d = Y → d < f → OWx σ0 σ (c0 + t) → Sm m h J V (f_M_list_273 F k110 f m (nI o) (nI k) (nI (P + t)) (mh m h σ)) := by
  intro d
  induction d with
  | zero =>
    intro t f σ hj hf hI
    obtain ⟨f, rfl⟩ : ∃ y, f = y + 1 := ⟨f - 1, by omega⟩
    obtain rfl : t = Y := by omega
    unfold f_M_list_273 f_M_list_318 f_M_list_339
    rw [e_o hm, bs, hq σ _ hI.1, xb_mk, if_pos (nI_le (by omega) (by omega)), Mr3 hm, bs, Mg4 hm, bs, hI.1.2.1, nI_add]
    refine qx_w3 hm hI (by omega) (fun σ hi => ?_)
    rw [Mg4 hm, bs, hi.1.2.1, nI_add]
    exact qx_p4 hm hi (fun σ hi => hK _ hi)
  | succ d ih =>
    intro t f σ hj hf hI
    obtain ⟨f, rfl⟩ : ∃ y, f = y + 1 := ⟨f - 1, by omega⟩
    unfold f_M_list_273
    rw [e_o hm, bs, hq σ _ hI.1, xb_mk, if_neg (nI_ge (by omega) (by omega)), Mr3 hm, bs, Mg4 hm, bs, hI.1.2.1, Mr6 hm, bs, Ma6 hm (by omega), bs, nI_add, Nat.add_assoc P t 1]
    refine qx_w3 hm hI (by omega) (fun σ hi => ?_)
    rw [Mg4 hm, bs, hi.1.2.1, nI_add, Nat.add_assoc c0 t 1]
    exact qx_p4 hm hi (fun σ hi => ih (t + 1) f σ (by omega) (by omega) hi)
theorem qx_li_203 {J : px_S → Prop} {V : Int32 → Prop} {k110 : Nat → Int32 → Int32 → px_H → Option (Int32 × px_H)} {o k c0 P Y : Nat} (hm : m ≤ h.length) (hF : 24 < F) (hY : Y ≤ 20) (hP : P + Y < 65536) (hl : ∀ σ c, OWi σ0 σ c → (∃ v, f_M_letterOf F m (nI o) (nI k) (mh m h σ) = some (v, mh m h σ)) ∧ f_M_nameAt F m (nI o) (nI k) (mh m h σ) = some (nI P, mh m h σ) ∧ f_M_nameEnd F m (nI o) (nI k) (mh m h σ) = some (nI (P + Y), mh m h σ)) (hc0 : c0 + 64 ≤ 65536) (hK : ∀ σ, OWx σ0 σ (c0 + (20 + Y)) → Sm m h J V (k110 m (nI o) (nI (k + 1)) (mh m h σ))) (hI : OWx σ0 σ c0) : Sm m h J V (f_M_list_203 F k110 m (nI o) (nI k) (mh m h σ)) := by
  unfold f_M_list_203
  rw [Mr3 hm, bs, Mg4 hm, bs, hI.1.2.1, nI_add]
  refine qx_w3 hm hI (by omega) (fun σ hi => ?_)
  obtain ⟨⟨v, ev⟩, _, _⟩ := hl σ _ hi.1
  rw [Mr3 hm, bs, Mg4 hm, bs, hi.1.2.1, e_o hm, bs, ev, xb_mk, nI_add]
  refine qx_w3 hm hi (by omega) (fun σ hi => ?_)
  rw [Mr3 hm, bs, Mg4 hm, bs, hi.1.2.1, nI_add]
  refine qx_w3 hm hi (by omega) (fun σ hi => ?_)
  rw [Mg4 hm, bs, hi.1.2.1, nI_add]
  refine qx_p4 hm hi (fun σ hi => ?_)
  obtain ⟨_, e2, _⟩ := hl σ _ hi.1
  rw [e_o hm, bs, e2, xb_mk]
  refine qx_li_273 (c0 := c0 + 19) (P := P) (Y := Y) hm hY hP (fun σ c hi => (hl σ c hi).2.2) (by omega) (fun σ hi => hK σ ?_) Y 0 F σ (Nat.zero_add _) (by omega) hi
  rw [show c0 + (20 + Y) = c0 + 19 + Y + 1 by omega]
  exact hi
theorem qx_li_165 {J : px_S → Prop} {V : Int32 → Prop} {k110 : Nat → Int32 → Int32 → px_H → Option (Int32 × px_H)} {o k c0 W : Nat} (hm : m ≤ h.length) (hc0 : c0 + 64 ≤ 65536) (hwh : ∀ σ c, OWi σ0 σ c → f_M_where F m (nI o) (nI k) (mh m h σ) = some (nI W, mh m h σ)) (h203 : ∀ σ, OWx σ0 σ c0 → Sm m h J V (f_M_list_203 F k110 m (nI o) (nI k) (mh m h σ))) : ∀ (d j f : Nat) (σ : px_S), j + d = 16 → d < f → OWx σ0 σ c0 → Sm m h J V (f_M_list_165 F k110 f m (nI o) (nI k) (nI j) (mh m h σ)) := by
  intro d
  induction d with
  | zero =>
    intro j f σ hj hf hI
    obtain ⟨f, rfl⟩ : ∃ y, f = y + 1 := ⟨f - 1, by omega⟩
    unfold f_M_list_165
    rw [if_pos (nI_le (by omega) (by omega))]
    exact h203 σ hI
  | succ d ih =>
    intro j f σ hj hf hI
    obtain ⟨f, rfl⟩ : ∃ y, f = y + 1 := ⟨f - 1, by omega⟩
    unfold f_M_list_165
    rw [if_neg (nI_ge (by omega) (by omega)), e_o hm, bs, hwh σ _ hI.1, xb_mk]
    refine sm_i (fun _ => ?_) (fun _ => h203 σ hI)
    rw [Mr3 hm, bs, Mg4 hm, bs, hI.1.2.1, nI_add, nI_add]
    exact qx_w3 hm hI (by omega) (fun σ hi => ih _ _ _ (by omega) (by omega) hi)
theorem qx_li_110 {Bf Yf : Nat → Nat} {o M : Nat} (hm : m ≤ h.length) (hF : 24 < F) (hM : M ≤ 64) (hmany : ∀ σ c, OWi σ0 σ c → f_M_symbolMany F m (nI o) (mh m h σ) = some (nI M, mh m h σ)) (hsym : ∀ k, 1 ≤ k → k < M → (nI (Bf k) = 0 → Bf k = 0) ∧ ∃ W V P, (Bf k ≠ 0 → Yf k ≤ 20 ∧ P + Yf k < 65536) ∧ ∀ σ c, OWi σ0 σ c → f_M_bind F m (nI o) (nI k) (mh m h σ) = some (nI (Bf k), mh m h σ) ∧ f_M_where F m (nI o) (nI k) (mh m h σ) = some (nI W, mh m h σ) ∧ f_M_value F m (nI o) (nI k) (mh m h σ) = some (V, mh m h σ) ∧ (Bf k ≠ 0 → (∃ v, f_M_letterOf F m (nI o) (nI k) (mh m h σ) = some (v, mh m h σ)) ∧ f_M_nameAt F m (nI o) (nI k) (mh m h σ) = some (nI P, mh m h σ) ∧ f_M_nameEnd F m (nI o) (nI k) (mh m h σ) = some (nI (P + Yf k), mh m h σ))) : ∀ (d k f c : Nat) (σ : px_S), 1 ≤ k → (k + d = M ∨ (M ≤ k ∧ d = 0)) → k ≤ 64 → d < f → c + 40 ≤ 40 * k → OWx σ0 σ c → Sm m h (fun σ' => OWx σ0 σ' (c + lsz Bf Yf d k)) (fun v => v = nI (c + lsz Bf Yf d k)) (f_M_list_110 F f m (nI o) (nI k) (mh m h σ)) := by
  intro d
  induction d with
  | zero =>
    intro k f c σ hk1 hk h64 hf hc hI
    obtain ⟨f, rfl⟩ : ∃ y, f = y + 1 := ⟨f - 1, by omega⟩
    unfold f_M_list_110 f_M_list_345
    rw [e_o hm, bs, hmany σ _ hI.1, xb_mk, if_pos (nI_le (by omega) (by omega)), Mg4 hm, bs]
    exact sm_r hI.1.2.1 hI
  | succ d ih =>
    intro k f c σ hk1 hk h64 hf hc hI
    obtain ⟨f, rfl⟩ : ∃ y, f = y + 1 := ⟨f - 1, by omega⟩
    have hkM : k < M := by omega
    obtain ⟨hB0, W, V, P, hPY, hs⟩ := hsym k hk1 hkM
    obtain ⟨s1, s2, s3, s4⟩ := hs σ _ hI.1
    unfold f_M_list_110 f_M_list_345 f_M_list_339 f_M_list_162 lsz
    rw [e_o hm, bs, hmany σ _ hI.1, xb_mk, if_neg (nI_ge (by omega) (by omega)), e_o hm, bs, s1, xb_mk, nI_add]
    by_cases hB : Bf k = 0
    · rw [if_pos hB, if_pos (by rw [hB]; rfl), Nat.zero_add]
      exact ih _ _ _ _ (by omega) (by omega) (by omega) (by omega) (by omega) hI
    · rw [if_neg hB, if_neg (fun e => hB (hB0 e))]
      obtain ⟨hY, hP⟩ := hPY hB
      have hl := fun σ c hi => (hs σ c hi).2.2.2 hB
      rw [← Nat.add_assoc c (20 + Yf k)]
      have h203 : ∀ σ, OWx σ0 σ c → Sm m h (fun σ' => OWx σ0 σ' (c + (20 + Yf k) + lsz Bf Yf d (k + 1))) (fun v => v = nI (c + (20 + Yf k) + lsz Bf Yf d (k + 1))) (f_M_list_203 F (f_M_list_110 F f) m (nI o) (nI k) (mh m h σ)) := fun σ hi => qx_li_203 hm hF hY hP hl (by omega) (fun σ hi => ih _ _ _ _ (by omega) (by omega) (by omega) (by omega) (by omega) hi) hi
      rw [e_o hm, bs, s2, xb_mk]
      refine sm_i (fun _ => qx_li_165 hm (by omega) (fun σ c hi => (hs σ c hi).2.1) h203 16 0 F σ rfl (by omega) hI) (fun _ => ?_)
      rw [Mg4 hm, bs, e_o hm, bs, s3, xb_mk, e_o hm, bs, hI.1.2.1]
      refine sm_x (qx_16_3 (F := F) (x := V) (p := c) hm (by omega) 16 0 F σ rfl (by omega) hI) (fun v σ hv hi => ?_)
      exact qx_li_165 hm (by omega) (fun σ c hi => (hs σ c hi).2.1) h203 16 0 F σ rfl (by omega) hi
/-- what is read of a symbol that is listed -/
theorem li_symx {o n k : Nat} (hm : m ≤ h.length) (hF : 24 < F) (hO : OBl σ0 o n) (hk1 : 1 ≤ k) (hk : k < oM (cb (gA σ0 6) o n)) : (nI (yB (cb (gA σ0 6) o n) k) = 0 → yB (cb (gA σ0 6) o n) k = 0) ∧ ∃ W V P, (yB (cb (gA σ0 6) o n) k ≠ 0 → yL (cb (gA σ0 6) o n) k ≤ 20 ∧ P + yL (cb (gA σ0 6) o n) k < 65536) ∧ ∀ σ c, OWi σ0 σ c → f_M_bind F m (nI o) (nI k) (mh m h σ) = some (nI (yB (cb (gA σ0 6) o n) k), mh m h σ) ∧ f_M_where F m (nI o) (nI k) (mh m h σ) = some (nI W, mh m h σ) ∧ f_M_value F m (nI o) (nI k) (mh m h σ) = some (V, mh m h σ) ∧ (yB (cb (gA σ0 6) o n) k ≠ 0 → (∃ v, f_M_letterOf F m (nI o) (nI k) (mh m h σ) = some (v, mh m h σ)) ∧ f_M_nameAt F m (nI o) (nI k) (mh m h σ) = some (nI P, mh m h σ) ∧ f_M_nameEnd F m (nI o) (nI k) (mh m h σ) = some (nI (P + yL (cb (gA σ0 6) o n) k), mh m h σ)) := by
  obtain ⟨hB, hon, he⟩ := id hO
  obtain ⟨hw, hyo, _⟩ := eObj_0 he
  have hX : oP (cb (gA σ0 6) o n) (oX (cb (gA σ0 6) o n)) + oZ (cb (gA σ0 6) o n) (oX (cb (gA σ0 6) o n)) ≤ n := by
    have hY : oY (cb (gA σ0 6) o n) ≠ 0 := fun e => by unfold oM at hk; rw [if_pos e] at hk; exact absurd hk (Nat.not_lt_zero k)
    obtain ⟨_, _, x1, x2⟩ := hw.2 hY
    exact hw.1.2.2.2.1 _ x1 (by rw [x2]; decide) (by rw [x2]; decide)
  have hG : yB (cb (gA σ0 6) o n) k ≠ 0 → yG (cb (gA σ0 6) o n) k = true := fun hBn => (yOK_n (hyo k hk1 hk) hBn).2.1
  have hB2 : yB (cb (gA σ0 6) o n) k < 2 ^ 31 := by
    by_cases e : yB (cb (gA σ0 6) o n) k = 0
    · rw [e]; decide
    · have w := (yOK_n (hyo k hk1 hk) e).1
      omega
  refine ⟨fun e => (nI_eq hB2 (by decide)).mp e, yW (cb (gA σ0 6) o n) k, lN (yV (cb (gA σ0 6) o n) k), o + (oP (cb (gA σ0 6) o n) (oX (cb (gA σ0 6) o n)) + yN (cb (gA σ0 6) o n) k), fun hBn => ?_, fun σ c hI => ?_⟩
  · obtain ⟨g1, g2, g3⟩ := yG_n (hG hBn)
    refine ⟨g2, ?_⟩
    generalize oP (cb (gA σ0 6) o n) (oX (cb (gA σ0 6) o n)) = p1 at *
    generalize oZ (cb (gA σ0 6) o n) (oX (cb (gA σ0 6) o n)) = p2 at *
    generalize yN (cb (gA σ0 6) o n) k = p3 at *
    generalize yL (cb (gA σ0 6) o n) k = p4 at *
    omega
  · have e6 := OWi_6 hI
    have hb : mb (mh m h σ) m (gA σ0 6) := by rw [← e6]; exact Mmb hm (by rw [e6]; exact hB)
    have hrk := w1_rk hw.1 hon
    have h1 := hw.1.2.1.1
    have hyp := w2_y hw hk
    refine ⟨q_bind hb hF hrk h1 hyp, q_where hb hF hrk h1 hyp, q_value hb hF hrk h1 hyp, fun hBn => ⟨so_letter hm hF (by rw [e6]; exact hB) (by rw [e6]; exact hw) hon (by rw [e6]; exact hk) (by rw [e6]; exact hyo k hk1 hk), q_nameAt hb hF hw hon hk, ?_⟩⟩
    have q := q_nameEnd (F := F) (σ := σ) (o := o) (n := n) (k := k) hm (by rw [e6]; exact hB) hF (by rw [e6]; exact hw) hon (by rw [e6]; exact hk) (by rw [e6]; exact hG hBn)
    rw [e6] at q
    exact q
/-- the reference's list -/
theorem q_list {a1 a2 : Int32} (hm : m ≤ h.length) (hF : 65540 < F) (hr : RF σ fs) (ho : OUo σ) : (∀ q o n b, MBR fs a1 a2 q o n b false → Sm m h (fun σ' => OWx (sI σ 0 (nI 0)) σ' (lsz (yB b) (yL b) (oM b - 1) 1)) (fun v => v = nI (lsz (yB b) (yL b) (oM b - 1) 1)) (f_M_list F m a1 a2 (mh m h σ))) ∧ ((∀ q o n b, ¬ MBR fs a1 a2 q o n b false) → f_M_list F m a1 a2 (mh m h σ) = some (nI 0, mh m h (sI σ 0 (nI 1)))) := by
  have h8 := hr.2.1
  have th1 : f_M_throwing F m (nI 1) (nI 0) (mh m h σ) = some (nI 1, mh m h (sI σ 0 (nI 1))) := q_throwing hm true false
  have th0 : f_M_throwing F m (nI 0) (nI 0) (mh m h σ) = some (nI 0, mh m h (sI σ 0 (nI 0))) := q_throwing hm false false
  have bad2 : f_M_list_80 F m a1 a2 m (nI 1) (mh m h σ) = some (nI 0, mh m h (sI σ 0 (nI 1))) := by
    unfold f_M_list_80
    rw [e_o hm, bs, th1, xb_mk, if_neg (by decide)]
  have bad : f_M_list_47 F m a1 a2 (nI 1) (mh m h σ) = some (nI 0, mh m h (sI σ 0 (nI 1))) := by
    unfold f_M_list_47 f_M_list_75
    rw [if_neg (by decide)]
    exact bad2
  have no : (∀ q o n b, ¬ MBR fs a1 a2 q o n b false) → f_M_list F m a1 a2 (mh m h σ) = some (nI 0, mh m h (sI σ 0 (nI 1))) → (∀ q o n b, MBR fs a1 a2 q o n b false → Sm m h (fun σ' => OWx (sI σ 0 (nI 0)) σ' (lsz (yB b) (yL b) (oM b - 1) 1)) (fun v => v = nI (lsz (yB b) (yL b) (oM b - 1) 1)) (f_M_list F m a1 a2 (mh m h σ))) ∧ ((∀ q o n b, ¬ MBR fs a1 a2 q o n b false) → f_M_list F m a1 a2 (mh m h σ) = some (nI 0, mh m h (sI σ 0 (nI 1)))) := fun hM e => ⟨fun q o n b h => absurd h (hM q o n b), fun _ => e⟩
  by_cases c1 : a1 < 0
  · refine no (fun q o n b ⟨i', k', q1, q2, q3, _⟩ => ?_) ?_
    · rw [q3] at c1
      exact nI_n0 (by omega) c1
    · unfold f_M_list f_M_list_42
      rw [if_pos c1, bad]
  by_cases c2 : nI fs.length ≤ a1
  · refine no (fun q o n b ⟨i', k', q1, q2, q3, _⟩ => ?_) ?_
    · rw [q3] at c2
      exact nI_ge (by omega) (by omega) c2
    · unfold f_M_list f_M_list_42
      rw [if_neg c1, Mg5 hm, bs, hr.1, if_pos c2, bad]
  obtain ⟨i, hi, rfl⟩ := ixG c1 c2 (Nat.le_refl _)
  by_cases c3 : a2 < 0
  · refine no (fun q o n b ⟨i', k', q1, q2, q3, q4, _⟩ => ?_) ?_
    · rw [q4] at c3
      exact nI_n0 (by omega) c3
    · unfold f_M_list f_M_list_42
      rw [if_neg c1, Mg5 hm, bs, hr.1, if_neg c2, if_pos c3, bad]
  obtain ⟨x, hx⟩ : ∃ x, fs[i]? = some x := ⟨_, List.getElem?_eq_getElem hi⟩
  obtain ⟨_, _, _, _, l, hl, _⟩ := hr.2.2.2 i x hx
  obtain ⟨y1, y2, y3, _⟩ := RF_row hr hx hl
  obtain ⟨k, hk, rfl⟩ := nI_of c3
  have a8 : xaI (mh m h σ) 1 (m + 5) (nI i) = some (gA σ 8 i) := e_aI (k := 8) hm rfl (show i < 8 by omega)
  have head : f_M_list F m (nI i) (nI k) (mh m h σ) = if nI k < nI l.length then f_M_list_47 F m (nI i) (nI k) (nI 0) (mh m h σ) else f_M_list_47 F m (nI i) (nI k) (nI 1) (mh m h σ) := by
    unfold f_M_list f_M_list_38 f_M_list_42
    rw [if_neg c1, Mg5 hm, bs, hr.1, if_neg c2, if_neg c3, Mr8 hm, bs, if_neg c1, bs, if_neg c2, a8, bs, y1]
  by_cases c4 : nI k < nI l.length
  · rw [if_pos c4] at head
    have hkl : k < l.length := Nat.lt_of_not_le (fun w => absurd c4 (nI_nlt w hk))
    have eob := obAt_none hr hx hl (show k < 8 by omega)
    rw [List.getElem?_eq_getElem hkl] at eob
    obtain ⟨o, n, b, sk, hob⟩ : ∃ o n b sk, obAt fs (8 * i + k) = some (o, n, b, sk) := ⟨_, _, _, _, eob⟩
    have hM : MBR fs (nI i) (nI k) (8 * i + k) o n b sk := ⟨i, k, hi, by omega, rfl, rfl, rfl, hob⟩
    obtain ⟨q1, q2, q3, q4, q5, q6, q7⟩ := RF_ob hr hob
    have a12 : xaI (mh m h σ) 3 (m + 9) (nI (8 * i + k)) = some (gA σ 12 (8 * i + k)) := e_aI (k := 12) hm rfl q1
    have head2 : f_M_list F m (nI i) (nI k) (mh m h σ) = if bI sk = 0 then f_M_list_80 F m (nI i) (nI k) m (nI 0) (mh m h σ) else f_M_list_80 F m (nI i) (nI k) m (nI 1) (mh m h σ) := by
      rw [head]
      unfold f_M_list_47 f_M_list_71 f_M_list_75
      rw [if_pos (show (nI 0 : Int32) = 0 from rfl), Mr12 hm, bs, if_pos (show (nI 0 : Int32) = 0 from rfl), ix8, a12, bs, q4]
    rw [bad2] at head2
    cases sk with
    | true =>
      refine no (fun q o n b h2 => ?_) ?_
      · have e5 := (MBR_u h8 hM h2).2.2.2.2
        cases e5
      · rw [head2, if_neg (by decide)]
    | false =>
      rw [if_pos (show bI false = 0 from rfl)] at head2
      refine ⟨fun q' o' n' b' h2 => ?_, fun w => absurd hM (w _ _ _ _)⟩
      obtain ⟨_, _, _, e5, _⟩ := MBR_u h8 hM h2
      subst e5
      have he := q7 rfl
      have q5' : cb (gA (sI σ 0 (nI 0)) 6) o n = b := q5
      have hO : OBl (sI σ 0 (nI 0)) o n := ⟨hr.2.2.1, q6, by rw [q5']; exact he⟩
      have hw := (eObj_0 he).1
      have a9 : xaI (mh m h (sI σ 0 (nI 0))) 1 (m + 6) (nI (8 * i + k)) = some (gA (sI σ 0 (nI 0)) 9 (8 * i + k)) := e_aI (k := 9) hm rfl q1
      have hI0 : OWx (sI σ 0 (nI 0)) (sI (sI σ 0 (nI 0)) 4 (nI 0)) 0 := by
        refine ⟨⟨FR_mono (FR_I _ _ _) (by decide) (by decide) (by decide) (by decide), by rw [gI_sI, if_pos rfl], ho.2⟩, ?_⟩
        rw [gI_sI, if_neg (by decide), gI_sI, if_pos rfl]
      rw [head2]
      unfold f_M_list_80
      rw [e_o hm, bs, th0, xb_mk, if_pos (show (nI 0 : Int32) = 0 from rfl), Mr9 hm, bs, ix8, a9, bs, show gA (sI σ 0 (nI 0)) 9 (8 * i + k) = nI o from q2, Mp4 hm, bs]
      have hM64 := w2_M hw
      have hmany : ∀ σ2 c, OWi (sI σ 0 (nI 0)) σ2 c → f_M_symbolMany F m (nI o) (mh m h σ2) = some (nI (oM b), mh m h σ2) := fun σ2 c hI => by
        have e := OWi_6 hI
        have hb : mb (mh m h σ2) m (gA (sI σ 0 (nI 0)) 6) := by rw [← e]; exact Mmb hm (by rw [e]; exact hO.1)
        have w := q_symbolMany (F := F) (o := o) (n := n) hb (by omega) (w1_rk (by rw [q5']; exact hw.1) q6) (by rw [q5']; exact hw.1.2.1.1) (fun hY => by rw [q5'] at hY ⊢; have := (hw.2 hY).2.1; omega)
        rw [q5'] at w
        exact w
      have hsym := fun (k2 : Nat) (hk1 : 1 ≤ k2) (hk : k2 < oM b) => li_symx (F := F) (m := m) (h := h) (σ0 := sI σ 0 (nI 0)) (o := o) (n := n) (k := k2) hm (by omega) hO hk1 (by rw [q5']; exact hk)
      rw [q5'] at hsym
      have w := qx_li_110 (F := F) (m := m) (h := h) (σ0 := sI σ 0 (nI 0)) (Bf := yB b) (Yf := yL b) (o := o) (M := oM b) hm (by omega) hM64 hmany hsym (oM b - 1) 1 F 0 _ (Nat.le_refl _) (by omega) (by omega) (by omega) (Nat.le_refl _) hI0
      rw [Nat.zero_add] at w
      exact w
  · rw [if_neg c4, bad] at head
    refine no (fun q o n b ⟨i', k', q1, q2, q3, q4, q5, q6⟩ => ?_) head
    have e2 : i = i' := (nI_eq (by omega) (by omega)).mp q3
    have e3 : k = k' := (nI_eq (by omega) (by omega)).mp q4
    have hkl : ¬ k < l.length := fun w => c4 (nI_lt w (by omega))
    have eob := obAt_none hr hx hl (show k < 8 by omega)
    rw [List.getElem?_eq_none (by omega), e2, e3, ← q5, q6] at eob
    cases eob
end BLM
section BLC
variable {F : Nat} {c : px_CT} {sk : Nat → Nat × Nat × Nat} {L : Nat} {own : Nat → Nat × Nat} {τ0 τ : px_TT} {fs : List (Nat × (Nat → Nat))} {gs : List (List Nat × Int64)} {ws : List (List Nat)} {n : Nat} {b : Nat → Nat} {a : Int32} {Y : px_Y} {q o n' r A : Nat} {b' : Nat → Nat}
/-- what the class reads of a symbol that is listed -/
theorem z_sym {j : Nat} (hF : 65540 < F) (hC : CV sk L own τ0 fs gs ws n b a Y) (hob : obAt fs q = some (o, n', b', false)) (hj1 : 1 ≤ j) (hj : j < oM b') (hI : SI none sk L τ0 τ) : ob sk L 7 (10 + 2 * q) ∧ fI τ (10 + 2 * q) 11 = nI (oM b') ∧ f_ObjectFile_bindOf F c (10 + 2 * q) (nI j) (cH sk L τ) = some (nI (yB b' j), cH sk L τ) ∧ (∃ W, f_ObjectFile_whereOf F c (10 + 2 * q) (nI j) (cH sk L τ) = some (W, cH sk L τ)) ∧ (∃ V, f_ObjectFile_valueOf F c (10 + 2 * q) (nI j) (cH sk L τ) = some (V, cH sk L τ)) ∧ ∃ P, f_ObjectFile_nameStart F c (10 + 2 * q) (nI j) (cH sk L τ) = some (P, cH sk L τ) ∧ (yB b' j ≠ 0 → (1 ≤ yL b' j ∧ yL b' j ≤ 20) ∧ ∃ τ', f_Name_read F c 1695 7 P (cH sk L τ) = some ((), cH sk L τ') ∧ frN 1695 τ τ' ∧ fI τ' 1695 3 = nI (yL b' j)) := by
  have hCt := CV_SI hC hI
  obtain ⟨h64, _, e5, h6, h7, hd⟩ := CF_ob hCt.2.2.2.1 hob
  have hD := hd rfl
  have hs := hD.1
  have he : eObj b' n' = 0 := by
    have w := hD.2.2
    rw [e5] at w
    exact w
  have hj' : j < oM (cb (eI τ 8) (bsO fs q) n') := by rw [e5]; exact hj
  have k1 := k_bindOf (F := F) (c := c) hs (by omega) hj1 hj'
  have k2 := k_whereOf (F := F) (c := c) hs (by omega) hj'
  have k3 := k_valueOf (F := F) (c := c) hs (by omega) hj'
  have k4 := k_nameStart (F := F) (c := c) hs (by omega) hj'
  have k5 := hs.2.1.2.1
  rw [e5] at k1 k5
  refine ⟨hs.1.1.1.1, k5, k1, ⟨_, k2⟩, ⟨_, k3⟩, _, k4, fun hB => ?_⟩
  have hG := (yOK_n ((eObj_0 he).2.1 j hj1 hj) hB).2.1
  obtain ⟨g1, g2, _⟩ := yG_n hG
  refine ⟨⟨g1, g2⟩, ?_⟩
  obtain ⟨τ', e, f1, f2⟩ := k_probe (F := F) (c := c) (j := j) hCt.1 hs (by omega) hCt.2.2.2.1.2.2.2.1 h6 h7 hj' (by rw [e5]; exact hG)
  refine ⟨τ', e, f1, ?_⟩
  have w := f2.2.2.2
  rw [e5] at w
  rw [w]
  unfold yT
  rw [tk_len]
theorem sg_letter {I : px_TT → Prop} {zb : Option Nat} {x : Int32} (h0 : S0 sk L τ0) (hF : 65540 < F) (hq : OBq q) (hI : SI zb sk L τ0 τ) (hz : I τ) : Sf sk L I Any (f_Scribe_letterOf F c (some q) x (cH sk L τ)) := by
  unfold f_Scribe_letterOf f_Scribe_letterOf_20 f_Scribe_letterOf_36 f_Scribe_letterOf_80 f_Scribe_letterOf_81 f_Scribe_letterOf_100
  rw [xs_20.1]
  have key : ∀ {v : Int32} {f : Int32 → Option (Int32 × px_H)}, ¬ v < 0 → ¬ nI 6 ≤ v → (∀ w, Sf sk L I Any (f w)) → Sf sk L I Any ((xsc 20 v).bind f) := by
    intro v f h1 h2 g
    obtain ⟨i, hi, rfl⟩ := nI_of h1
    have h6 : i < 6 := Nat.lt_of_not_le (fun h => h2 (nI_le h hi))
    obtain ⟨w, e⟩ := xs_20.2 i h6
    rw [e, bs]; exact g w
  repeat' (first | ((with_reducible refine key ?_ ?_ (fun w => ?_)); assumption; assumption) | ((rw [bs])) | exact absurd (show nI 0 = 0 from rfl) (by assumption) | exact absurd (show nI 1 = 0 by assumption) (by decide) | ((with_reducible refine sf_i (fun hc => ?_) (fun hc => ?_))) | ((with_reducible refine sf_gF h0 ?_ ?_ ?_ ?_ ?_); decide; decide; decide; decide) | ((with_reducible refine sf_gI ?_ ?_ ?_ ?_); (first | assumption | exact GS_o h0.1 (by decide) (by decide) | exact RRd_o h0 (by assumption) | exact RRd_o h0 (Or.inr (by assumption)) | exact OBq_o h0 (by assumption) | exact OBq_o h0 (Obt_q (by assumption)) | exact G_part h0.1 (by assumption) | exact Nmo_o (by assumption)); decide; decide) | ((with_reducible refine sf_gJ ?_ ?_ ?_ ?_); (first | assumption | exact GS_o h0.1 (by decide) (by decide) | exact RRd_o h0 (by assumption) | exact RRd_o h0 (Or.inr (by assumption)) | exact OBq_o h0 (by assumption) | exact OBq_o h0 (Obt_q (by assumption)) | exact G_part h0.1 (by assumption) | exact Nmo_o (by assumption)); decide; decide) | ((with_reducible refine sf_gN ?_ ?_ ?_ ?_); (first | assumption | exact GS_o h0.1 (by decide) (by decide) | exact RRd_o h0 (by assumption) | exact RRd_o h0 (Or.inr (by assumption)) | exact OBq_o h0 (by assumption) | exact OBq_o h0 (Obt_q (by assumption)) | exact G_part h0.1 (by assumption) | exact Nmo_o (by assumption)); decide; decide) | ((with_reducible refine sf_gG h0 (by assumption) ?_ ?_ ?_ ?_ (by with_unfolding_all exact rfl) ?_); decide; decide; decide; decide) | ((with_reducible refine sf_o ?_ (fun l => ?_)); (first | assumption | exact GS_o h0.1 (by decide) (by decide) | exact RRd_o h0 (by assumption) | exact RRd_o h0 (Or.inr (by assumption)) | exact OBq_o h0 (by assumption) | exact OBq_o h0 (Obt_q (by assumption)) | exact G_part h0.1 (by assumption) | exact Nmo_o (by assumption))) | ((with_reducible refine sf_s ?_)) | ((with_reducible refine sf_sb (by assumption) ?_)) | ((with_reducible refine sf_r ?_ ?_); (first | exact any | assumption | exact ⟨false, rfl⟩ | exact ⟨true, rfl⟩); assumption) | ((with_reducible refine sf_z ?_ ?_ ?_); (first | exact ⟨false, rfl⟩ | exact ⟨true, rfl⟩ | assumption); (first | exact any | exact ⟨false, rfl⟩ | exact ⟨true, rfl⟩ | assumption); assumption) | ((with_reducible refine sx_of (so_where h0 hF (by assumption) (by first | assumption | exact Obt_q (by assumption))) (fun v => ?_))) | ((with_reducible refine sx_of (so_bind h0 hF (by assumption) (by first | assumption | exact Obt_q (by assumption))) (fun v => ?_))) | ((with_reducible refine sx_of (so_group h0 hF (by assumption) (by first | assumption | exact Obt_q (by assumption))) (fun v => ?_))))
theorem z_list_59 {j cc : Nat} {J : px_TT → Prop} {k6 : Nat → Nat → Option Nat → Int32 → px_H → Option (Unit × px_H)} (hF : 65540 < F) (hC : CV sk L own τ0 fs gs ws n b a Y) (hob : obAt fs q = some (o, n', b', false)) (hr : TRw r A 65536) (hj1 : 1 ≤ j) (hj : j < oM b') (hB : yB b' j ≠ 0) (hK : ∀ τ, SZ none sk L τ0 r 65536 (cc + (4 + yL b' j)) τ → Sf sk L J Any (k6 1713 r (some (10 + 2 * q)) (nI (j + 1)) (cH sk L τ))) (hI : SZ none sk L τ0 r 65536 cc τ) : Sf sk L J Any (f_Scribe_writeList_59 F c k6 1713 r (some (10 + 2 * q)) (nI j) (cH sk L τ)) := by
  have h0 := (CV_S4 hC).1.1.1
  obtain ⟨h64, _⟩ := CF_ob hC.2.2.2.1 hob
  have hq : OBq (10 + 2 * q) := ⟨q, h64, rfl⟩
  have orr : ob sk L 10 r := (SI_row hI.1 hr).1
  have o13 := G1713 hC.1
  have o47 := G147 hC.1
  have o95 : ob sk L 5 1695 := GS_o hC.1 (by decide) (by decide)
  have hrne : r ≠ 1695 := by
    unfold TRw at hr
    omega
  unfold f_Scribe_writeList_59 f_Scribe_writeList_124
  rw [c_o orr, bs]
  refine sz_x (sz_put hF hr (by decide) hI) (fun _ τ1 _ i1 => ?_)
  refine sz_x (J := SZ none sk L τ0 r 65536 (cc + 1)) (W := Any) ?_ (fun t2 τ2 _ i2 => ?_)
  · exact sg_letter h0 hF hq i1.1 i1
  rw [c_o orr, bs]
  refine sz_x (sz_put hF hr (by decide) i2) (fun _ τ3 _ i3 => ?_)
  rw [c_o orr, bs]
  refine sz_x (sz_put hF hr (by decide) i3) (fun _ τ4 _ i4 => ?_)
  have hR4 : GR τ4 := GR_Z h0.2.1 i4.1.1
  obtain ⟨o1, _, _, _, _, P, e4, hn⟩ := z_sym (F := F) (c := c) hF hC hob hj1 hj i4.1
  obtain ⟨⟨y1, y2⟩, τ5, e5, f5, l5⟩ := hn hB
  have i5 : SZ none sk L τ0 r 65536 (cc + 1 + 1 + 1) τ5 := ⟨SI_N i4.1 f5 (Or.inr rfl), rz_fr i4.2.1 (fun k => f5.1 r k (Or.inl hrne)), fun k => (f5.2.2.1 0 k).trans (i4.2.2 k)⟩
  have hR5 : GR τ5 := GR_Z h0.2.1 i5.1.1
  rw [C11r0 o13 (GR_r (v := 147) hR4 (by decide)), bs, C3r11 o47 (GR_r (v := 1695) hR4 (by decide)), bs, C11r2 o13 (GR_r (v := 7) hR4 (by decide)), bs, bs, c_o o1, bs, e4, xb_mk, c_o o95, bs, e5, xb_mk, C11r0 o13 (GR_r (v := 147) hR5 (by decide)), bs, C3r11 o47 (GR_r (v := 1695) hR5 (by decide)), bs, c_o o95, bs]
  refine sz_x (sz_wto hF hr o95 (Ne.symm hrne) (show yL b' j ≤ 24 by omega) l5 i5) (fun _ τ6 _ i6 => ?_)
  rw [c_o orr, bs]
  refine sz_x (sz_put hF hr (by decide) i6) (fun _ τ7 _ i7 => ?_)
  rw [nI_add]
  refine hK τ7 ?_
  rw [show cc + (4 + yL b' j) = cc + 1 + 1 + 1 + yL b' j + 1 by omega]
  exact i7
theorem z_list_6 (hF : 65540 < F) (hC : CV sk L own τ0 fs gs ws n b a Y) (hob : obAt fs q = some (o, n', b', false)) (hr : TRw r A 65536) : ∀ (d j f : Nat) (τ : px_TT) (cc : Nat), 1 ≤ j → (j + d = oM b' ∨ (oM b' ≤ j ∧ d = 0)) → j ≤ 64 → d < f → SZ none sk L τ0 r 65536 cc τ → Sf sk L (SZ none sk L τ0 r 65536 (cc + lsz (yB b') (yL b') d j)) Any (f_Scribe_writeList_6 F c f 1713 r (some (10 + 2 * q)) (nI j) (cH sk L τ)) := by
  have hM64 : oM b' ≤ 64 := by
    obtain ⟨_, _, e5, _, _, hd⟩ := CF_ob hC.2.2.2.1 hob
    have w := (hd rfl).2.2
    rw [e5] at w
    exact w2_M (eObj_0 w).1
  intro d
  induction d with
  | zero =>
    intro j f τ cc hj1 hj h64 hf hI
    obtain ⟨f, rfl⟩ : ∃ y, f = y + 1 := ⟨f - 1, by omega⟩
    have hCt := CV_SI hC hI.1
    obtain ⟨_, _, e5, _, _, hd⟩ := CF_ob hCt.2.2.2.1 hob
    have hs := (hd rfl).1
    have k5 := hs.2.1.2.1
    rw [e5] at k5
    unfold f_Scribe_writeList_6 f_Scribe_writeList_130
    rw [bs, C7g11 hs.1.1.1.1, bs, k5, if_pos (nI_le (by omega) (by omega))]
    exact sf_r any hI
  | succ d ih =>
    intro j f τ cc hj1 hj h64 hf hI
    obtain ⟨f, rfl⟩ : ∃ y, f = y + 1 := ⟨f - 1, by omega⟩
    have hjM : j < oM b' := by omega
    obtain ⟨o1, k5, k1, ⟨W, k2⟩, ⟨V, k3⟩, _⟩ := z_sym (F := F) (c := c) hF hC hob hj1 hjM hI.1
    have orr := (SI_row hI.1 hr).1
    unfold f_Scribe_writeList_6 f_Scribe_writeList_130 lsz
    rw [bs, C7g11 o1, bs, k5, if_neg (nI_ge (by omega) (by omega)), c_o o1, bs, k1, xb_mk]
    by_cases hB : yB b' j = 0
    · rw [if_pos hB, if_pos (by rw [hB]; rfl), Nat.zero_add]
      unfold f_Scribe_writeList_124
      rw [nI_add]
      exact ih _ _ _ _ (by omega) (by omega) (by omega) (by omega) hI
    · have he : eObj b' n' = 0 := by
        obtain ⟨_, _, e5, _, _, hd⟩ := CF_ob hC.2.2.2.1 hob
        have w := (hd rfl).2.2
        rw [e5] at w
        exact w
      have hB2 := (yOK_n ((eObj_0 he).2.1 j hj1 hjM) hB).1
      have ecc : cc + (20 + yL b' j + lsz (yB b') (yL b') d (j + 1)) = cc + 16 + (4 + yL b' j) + lsz (yB b') (yL b') d (j + 1) := by omega
      rw [if_neg hB, if_neg (nI_nz (by omega) hB), c_o o1, bs, k2, xb_mk, ecc]
      have tail : ∀ τ, SZ none sk L τ0 r 65536 (cc + 16) τ → Sf sk L (SZ none sk L τ0 r 65536 (cc + 16 + (4 + yL b' j) + lsz (yB b') (yL b') d (j + 1))) Any (f_Scribe_writeList_59 F c (f_Scribe_writeList_6 F c f) 1713 r (some (10 + 2 * q)) (nI j) (cH sk L τ)) := fun τ hi => z_list_59 hF hC hob hr hj1 hjM hB (fun τ hi => ih _ _ _ _ (by omega) (by omega) (by omega) (by omega) hi) hi
      refine sf_i (fun _ => ?_) (fun _ => ?_)
      · rw [C10g1 orr, bs, c_o orr, bs]
        exact sz_x (sz_fill hF hr (by decide) (by decide) hI) (fun _ τ1 _ i1 => tail τ1 i1)
      · rw [c_o o1, bs, k3, xb_mk, c_o orr, bs]
        exact sz_x (sz_hex hF hr hI) (fun _ τ1 _ i1 => tail τ1 i1)
theorem z_list (hF : 65540 < F) (hC : CV sk L own τ0 fs gs ws n b a Y) (hob : obAt fs q = some (o, n', b', false)) (hr : TRw r A 65536) (hI : SI none sk L τ0 τ) (hN : ∀ k, fN τ 0 k = fN τ0 0 k) : Sf sk L (SZ none sk L τ0 r 65536 (lsz (yB b') (yL b') (oM b' - 1) 1)) Any (f_Scribe_writeList F c 1713 r (some (10 + 2 * q)) (cH sk L τ)) := by
  have hM64 : oM b' ≤ 64 := by
    obtain ⟨_, _, e5, _, _, hd⟩ := CF_ob hC.2.2.2.1 hob
    have w := (hd rfl).2.2
    rw [e5] at w
    exact w2_M (eObj_0 w).1
  unfold f_Scribe_writeList
  rw [c_o (SI_row hI hr).1, bs]
  refine sz_x (sz_clear hI hN hr) (fun _ τ1 _ i1 => ?_)
  have w := z_list_6 (F := F) (c := c) hF hC hob hr (oM b' - 1) 1 F τ1 0 (Nat.le_refl _) (by omega) (by omega) (by omega) i1
  rw [Nat.zero_add] at w
  exact w
end BLC
section BLB
variable {F : Nat} {c : px_CT} {sk : Nat → Nat × Nat × Nat} {L : Nat} {own : Nat → Nat × Nat} {τ : px_TT} {σ : px_S} {fs : List (Nat × (Nat → Nat))} {gs : List (List Nat × Int64)} {ws : List (List Nat)} {n : Nat} {b : Nat → Nat} {a : Int32} {Y : px_Y} {k N : Nat}
/-- the row that is out -/
theorem CV_ro (hC : CV sk L own τ fs gs ws n b a Y) : ∃ ro A, TRw ro A 65536 ∧ fN τ 0 1 = some ro := by
  obtain ⟨ro, rd, hc, e1, _⟩ := (SI_self hC).2.2.1.1
  rcases hc with ⟨rfl, _⟩ | ⟨rfl, _⟩
  · exact ⟨3, 4, Or.inl ⟨rfl, rfl, rfl⟩, e1⟩
  · exact ⟨5, 6, Or.inr (Or.inl ⟨rfl, rfl, rfl⟩), e1⟩
/-- list of the class, list of the reference -/
theorem Bx_list {x y : Int32} (hF : 65540 < F) (hC : CV sk L own τ fs gs ws n b a Y) (hR : RV σ fs gs ws n b a Y) (hm : RMk sk L (k + 210)) (hN : n + (fs.map Prod.fst).sum ≤ N) : BT RnI (fun ci σ => ci = 15 ∧ gI σ 0 = nI 1) sk L τ k N (f_H_list F c 0 x y (cH sk L τ)) (g_H_list F c 0 x y (cH sk L τ)) (fun h => f_M_list F 1726 x y (mh 1726 h σ)) := by
  rcases k_objAt (F := F) (c := c) (i := x) (k := y) hC with ⟨q, o, n', b', hM, e⟩ | ⟨hM, e⟩
  · have hob : obAt fs q = some (o, n', b', false) := by
      obtain ⟨_, _, _, _, _, _, _, h⟩ := hM
      exact h
    have he : eObj b' n' = 0 := by
      obtain ⟨_, _, e5, _, _, hd⟩ := CF_ob hC.2.2.2.1 hob
      have w := (hd rfl).2.2
      rw [e5] at w
      exact w
    have hM64 := w2_M (eObj_0 he).1
    have hle : lsz (yB b') (yL b') (oM b' - 1) 1 ≤ 65536 := by
      by_cases c0 : oM b' = 0
      · rw [c0]; exact Nat.zero_le _
      · have w := lsz_le (Bf := yB b') (Yf := yL b') (M := oM b') (fun k h1 h2 hB => (yG_n (yOK_n ((eObj_0 he).2.1 k h1 h2) hB).2.1).2.1) (oM b' - 1) 1 (Nat.le_refl _) (by omega)
        omega
    obtain ⟨ro, A, hT, e1⟩ := CV_ro hC
    obtain ⟨u, τ', e2, _, i⟩ := z_list (F := F) (c := c) hF hC hob hT (SI_self hC) (fun _ => rfl)
    have eC : f_H_list F c 0 x y (cH sk L τ) = some (nI (lsz (yB b') (yL b') (oM b' - 1) 1), cH sk L τ') := by
      unfold f_H_list
      rw [c_o (G0 hC.1), bs, e, xb_mk]
      dsimp only
      rw [C0r15 (G0 hC.1) (GR_r (v := 1713) hC.2.1 (by decide)), bs, C0r1 (G0 hC.1) e1, bs, c_o (G1713 hC.1), bs, e2, xb_mk, C0r1 (G0 hC.1) ((i.2.2 1).trans e1), bs, C10g1 (SI_row i.1 hT).1, bs, (i.2.1.1 hle).1]
    refine ⟨fs, gs, ws, n, b, a, Y, hN, Or.inl ⟨_, sk, L, τ', own, eC, EX_refl, K26_Z i.1.1, RMk_le hm (by omega), CV_SI hC i.1, fun h hl => ?_⟩⟩
    obtain ⟨w, σ', e3, rfl, hW⟩ := (q_list (F := F) hl hF hR.2.1 hR.2.2.2.2.1).1 q o n' b' hM
    exact ⟨_, σ', e3, RV_W hR ⟨_, hle, FR_trans (FR_mono (FR_I σ 0 (nI 0)) (by decide) (by decide) (by decide) (by decide)) hW.1.1, hW.1.2⟩, rfl, hW.2⟩
  · refine ⟨fs, gs, ws, n, b, a, Y, hN, Or.inr ⟨15, τ, own, ?_, K26_refl τ, RMk_le hm (by omega), hC, fun h hl => ⟨_, _, (q_list (F := F) hl hF hR.2.1 hR.2.2.2.2.1).2 hM, RV_0 hR (FR_I _ _ _), rfl, rfl⟩⟩⟩
    unfold g_H_list
    rw [c_o (G0 hC.1), bs, e, xb_mk]
end BLB
end
section
/-! the class's rows with their sizes: digits, highest first, copies (steps spelled out by sf/pp.py) -/
/-- how many digits are put from the unit 10 ^ d on -/
def dzN (k : Nat) : Nat → Nat
  | 0 => 1
  | d + 1 => (if 10 ^ (d + 1) ≤ k then 1 else 0) + dzN k d
theorem dzN_w {k : Nat} (hk : k ≤ 99999) : dzN k 9 = wdN k := by
  have e : dzN k 9 = (if 1000000000 ≤ k then 1 else 0) + ((if 100000000 ≤ k then 1 else 0) + ((if 10000000 ≤ k then 1 else 0) + ((if 1000000 ≤ k then 1 else 0) + ((if 100000 ≤ k then 1 else 0) + ((if 10000 ≤ k then 1 else 0) + ((if 1000 ≤ k then 1 else 0) + ((if 100 ≤ k then 1 else 0) + ((if 10 ≤ k then 1 else 0) + 1)))))))) := rfl
  rw [e, if_neg (show ¬ 1000000000 ≤ k by omega), if_neg (show ¬ 100000000 ≤ k by omega), if_neg (show ¬ 10000000 ≤ k by omega), if_neg (show ¬ 1000000 ≤ k by omega), if_neg (show ¬ 100000 ≤ k by omega)]
  unfold wdN
  by_cases c1 : k < 10
  · rw [if_pos c1, if_neg (show ¬ 10000 ≤ k by omega), if_neg (show ¬ 1000 ≤ k by omega), if_neg (show ¬ 100 ≤ k by omega), if_neg (show ¬ 10 ≤ k by omega)]
  · rw [if_neg c1, if_pos (show 10 ≤ k by omega)]
    by_cases c2 : k < 100
    · rw [if_pos c2, if_neg (show ¬ 10000 ≤ k by omega), if_neg (show ¬ 1000 ≤ k by omega), if_neg (show ¬ 100 ≤ k by omega)]
    · rw [if_neg c2, if_pos (show 100 ≤ k by omega)]
      by_cases c3 : k < 1000
      · rw [if_pos c3, if_neg (show ¬ 10000 ≤ k by omega), if_neg (show ¬ 1000 ≤ k by omega)]
      · rw [if_neg c3, if_pos (show 1000 ≤ k by omega)]
        by_cases c4 : k < 10000
        · rw [if_pos c4, if_neg (show ¬ 10000 ≤ k by omega)]
        · rw [if_neg c4, if_pos (show 10000 ≤ k by omega)]
section CDZ
variable {F : Nat} {c : px_CT} {sk : Nat → Nat × Nat × Nat} {L : Nat} {r A n : Nat}
theorem k_putDec_3Z {k : Nat} (hF : 1 < F) (hk : k < 2 ^ 31) : ∀ (d f : Nat) (τ : px_TT) (cc : Nat), d ≤ 9 → d + 1 < f → rowOK sk L τ r A n → rz τ r n cc → ∃ τ', f_Row_putDecimal_3 F c f r (nI k) (nI (10 ^ d)) (cH sk L τ) = some ((), cH sk L τ') ∧ rowOK sk L τ' r A n ∧ frRw r A τ τ' ∧ rz τ' r n (cc + dzN k d) := by
  intro d
  induction d with
  | zero =>
    intro f τ cc hd hf h hz
    obtain ⟨f, rfl⟩ : ∃ x, f = x + 2 := ⟨f - 2, by omega⟩
    have e0 : ∀ τ1, f_Row_putDecimal_32 F c (f_Row_putDecimal_3 F c (f + 1)) r (nI k) (nI (10 ^ 0)) (cH sk L τ1) = some ((), cH sk L τ1) := fun τ1 => by
      unfold f_Row_putDecimal_32 f_Row_putDecimal_3 f_Row_putDecimal_40
      rw [if_pos (by decide)]
    obtain ⟨τ1, a1, a2, a3, a4⟩ := k_putZ (F := F) (c := c) (v := (((nI 48) + ((nI k / (nI (10 ^ 0))) - (nI k / (nI (10 ^ 0))) / (nI 10) * (nI 10))).toInt64)) (k := 1) hF (by decide) h hz
    have e17 : f_Row_putDecimal_17 F c (f_Row_putDecimal_3 F c (f + 1)) r (nI k) (nI (10 ^ 0)) (cH sk L τ) = some ((), cH sk L τ1) := by
      unfold f_Row_putDecimal_17
      rw [show xnzI (nI (10 ^ 0)) = some () from rfl, bs, c_o h.1, bs, a1, xb_mk, e0]
    refine ⟨τ1, ?_, a2, a3, a4⟩
    unfold f_Row_putDecimal_3
    rw [if_neg (by decide), e17, if_pos (show nI (10 ^ 0) = nI 1 from rfl)]
    split
    · rfl
    · rfl
  | succ d ih =>
    intro f τ cc hd hf h hz
    obtain ⟨f, rfl⟩ : ∃ x, f = x + 1 := ⟨f - 1, by omega⟩
    have hp : 10 ^ (d + 1) ≤ 10 ^ 9 := Nat.pow_le_pow_right (by decide) hd
    have hpos : 0 < 10 ^ (d + 1) := Nat.pow_pos (by decide)
    have hp10 : 10 ≤ 10 ^ (d + 1) := by
      rw [Nat.pow_succ]
      have := Nat.pow_pos (a := 10) (n := d) (by decide)
      omega
    have ed : nI (10 ^ (d + 1)) / nI 10 = nI (10 ^ d) := by rw [pk_div (by omega) (by decide) (by decide), Nat.pow_succ, Nat.mul_div_cancel _ (by decide)]
    have e32 : ∀ (τ1 : px_TT) (c1 : Nat), rowOK sk L τ1 r A n → rz τ1 r n c1 → ∃ τ', f_Row_putDecimal_32 F c (f_Row_putDecimal_3 F c f) r (nI k) (nI (10 ^ (d + 1))) (cH sk L τ1) = some ((), cH sk L τ') ∧ rowOK sk L τ' r A n ∧ frRw r A τ1 τ' ∧ rz τ' r n (c1 + dzN k d) := fun τ1 c1 h1 z1 => by
      unfold f_Row_putDecimal_32
      rw [ed]
      exact ih f τ1 c1 (by omega) (by omega) h1 z1
    unfold f_Row_putDecimal_3 dzN
    rw [if_neg (show ¬ nI (10 ^ (d + 1)) ≤ 0 from nI_ge (a := 0) hpos (by omega))]
    by_cases c1 : 10 ^ (d + 1) ≤ k
    · rw [if_pos (nI_le c1 hk), if_pos c1]
      obtain ⟨τ1, a1, a2, a3, a4⟩ := k_putZ (F := F) (c := c) (v := (((nI 48) + ((nI k / (nI (10 ^ (d + 1)))) - (nI k / (nI (10 ^ (d + 1)))) / (nI 10) * (nI 10))).toInt64)) (k := 1) hF (by decide) h hz
      obtain ⟨τ2, b1, b2, b3, b4⟩ := e32 τ1 (cc + 1) a2 a4
      refine ⟨τ2, ?_, b2, frRw_trans a3 b3, by rw [← Nat.add_assoc]; exact b4⟩
      unfold f_Row_putDecimal_17
      have e0 : xnzI (nI (10 ^ (d + 1))) = some () := by
        unfold xnzI
        rw [if_neg (fun q => by have := (nI_eq (by omega) (by decide)).mp (show nI (10 ^ (d + 1)) = nI 0 from q); omega)]
      rw [e0, bs, c_o h.1, bs, a1, xb_mk]
      exact b1
    · rw [if_neg (nI_ge (by omega) (by omega)), if_neg (fun q => by have := (nI_eq (by omega) (by decide)).mp q; omega), if_neg c1, Nat.zero_add]
      exact e32 τ cc h hz
theorem k_putDecZ {τ : px_TT} {k cc : Nat} (hF : 16 < F) (hk : k ≤ 99999) (h : rowOK sk L τ r A n) (hz : rz τ r n cc) : ∃ τ', f_Row_putDecimal F c r (nI k) (cH sk L τ) = some ((), cH sk L τ') ∧ rowOK sk L τ' r A n ∧ frRw r A τ τ' ∧ rz τ' r n (cc + wdN k) := by
  rw [← dzN_w hk]
  exact k_putDec_3Z (by omega) (by omega) 9 F τ cc (Nat.le_refl _) (by omega) h hz
theorem k_putHigh_3Z {v : Int32} (hF : 1 < F) : ∀ (d f : Nat) (τ : px_TT) (cc : Nat), d ≤ 4 → d < f → rowOK sk L τ r A n → rz τ r n cc → ∃ τ', f_Row_putHighestFirst_3 F c f r v (nI (8 * d) - nI 8) (cH sk L τ) = some ((), cH sk L τ') ∧ rowOK sk L τ' r A n ∧ frRw r A τ τ' ∧ rz τ' r n (cc + d) := by
  intro d
  induction d with
  | zero =>
    intro f τ cc hd hf h hz
    obtain ⟨f, rfl⟩ : ∃ x, f = x + 1 := ⟨f - 1, by omega⟩
    refine ⟨τ, ?_, h, frRw_refl, hz⟩
    unfold f_Row_putHighestFirst_3 f_Row_putHighestFirst_22
    rw [if_pos (by decide)]
  | succ d ih =>
    intro f τ cc hd hf h hz
    obtain ⟨f, rfl⟩ : ∃ x, f = x + 1 := ⟨f - 1, by omega⟩
    have e4 : nI (8 * (d + 1)) - nI 8 = nI (8 * d) := by rw [pk_sub (by omega), show 8 * (d + 1) - 8 = 8 * d by omega]
    have em : nI (8 * d) + Int32.ofInt (-8) = nI (8 * d) - nI 8 := by rw [Int32.sub_eq_add_neg]; rfl
    rw [e4, show cc + (d + 1) = cc + 1 + d by omega]
    obtain ⟨τ1, a1, a2, a3, a4⟩ := k_putZ (F := F) (c := c) (v := (((v.toUInt32 >>> ((nI (8 * d)).toUInt32 &&& Int32.toUInt32 31)).toInt32).toInt64)) (k := 1) hF (by decide) h hz
    obtain ⟨τ2, b1, b2, b3, b4⟩ := ih f τ1 (cc + 1) (by omega) (by omega) a2 a4
    refine ⟨τ2, ?_, b2, frRw_trans a3 b3, b4⟩
    unfold f_Row_putHighestFirst_3 f_Row_putHighestFirst_22
    rw [if_neg (show ¬ nI (8 * d) < 0 from nI_pos (by omega)), c_o h.1, bs, a1, xb_mk, em]
    exact b1
theorem k_putHighZ {τ : px_TT} {v : Int32} {cc : Nat} (hF : 16 < F) (h : rowOK sk L τ r A n) (hz : rz τ r n cc) : ∃ τ', f_Row_putHighestFirst F c r v (cH sk L τ) = some ((), cH sk L τ') ∧ rowOK sk L τ' r A n ∧ frRw r A τ τ' ∧ rz τ' r n (cc + 4) := k_putHigh_3Z (by omega) 4 F τ cc (Nat.le_refl _) (by omega) h hz
theorem k_copyZ {τ : px_TT} {S N q m cc : Nat} (hS : ar sk L 0 N S) (hN : N ≤ 65536) (hB : ∀ k, isB (eI τ S k)) (hqm : q + m ≤ N) (h : rowOK sk L τ r A n) (hz : rz τ r n cc) : ∃ τ', f_Row_copy F c r S (nI q) (nI m) (cH sk L τ) = some ((), cH sk L τ') ∧ rowOK sk L τ' r A n ∧ frRw r A τ τ' ∧ rz τ' r n (cc + m) := by
  obtain ⟨z, hzn, ez⟩ := h.2.2.2.2.1
  have hn := h.2.2.1
  have hzc : cc ≤ n → z = cc := fun w => rz_z hz hn hzn ez w
  unfold f_Row_copy f_Row_copy_16
  rw [if_neg (nI_pos (by omega)), if_neg (nI_pos (by omega)), c_l hS (by decide), bs, if_pos ((sub_le31 (by omega) (by omega) (by omega)).mpr hqm), C10r0 h.1 h.2.2.2.1, bs, c_l h.2.1 (by decide), bs, C10g1 h.1, bs, ez]
  by_cases c6 : z + m ≤ n
  · refine ⟨tI (vI τ A (va_cpy (eI τ S) (eI τ A) q z m)) r 1 (nI (z + m)), ?_, rowOK_1 (rowOK_v h (cpy_B hB h.2.2.2.2.2.2)) c6, frRw_trans frRw_v frRw_1, rz_s hz hzc c6⟩
    rw [if_pos ((sub_le31 (by omega) (by omega) (by omega)).mpr c6), bs, bs, c_cpy h.2.1 hS hB (by omega) (by omega) (by omega) hqm c6, bs, C10g1 h.1, bs]
    show ((xpI _ 10 1 r (fI τ r 1 + nI m)).bind _) = _
    rw [ez, nI_add, C10p1 h.1, bs]
  · refine ⟨tI τ r 2 (bI true), ?_, rowOK_2 h, frRw_2, fun w => ?_, fun _ => tI_at⟩
    · rw [if_neg (fun w => c6 ((sub_le31 (by omega) (by omega) (by omega)).mp w)), show (nI 1 : Int32) = bI true from rfl, C10z2 h.1, bs]
    · have e := hzc (by omega)
      omega
end CDZ
section SZD
variable {F : Nat} {c : px_CT} {sk : Nat → Nat × Nat × Nat} {L : Nat} {zb : Option Nat} {τ0 τ τ' : px_TT} {r A n cc k : Nat}
theorem sz_dec (hF : 65540 < F) (hr : TRw r A n) (hk : k ≤ 99999) (hI : SZ zb sk L τ0 r n cc τ) : Sf sk L (SZ zb sk L τ0 r n (cc + wdN k)) Any (f_Row_putDecimal F c r (nI k) (cH sk L τ)) := sz_Rw hI.1 hI.2.2 hr (k_putDecZ (by omega) hk (SI_row hI.1 hr) hI.2.1)
theorem sz_high {v : Int32} (hF : 65540 < F) (hr : TRw r A n) (hI : SZ zb sk L τ0 r n cc τ) : Sf sk L (SZ zb sk L τ0 r n (cc + 4)) Any (f_Row_putHighestFirst F c r v (cH sk L τ)) := sz_Rw hI.1 hI.2.2 hr (k_putHighZ (by omega) (SI_row hI.1 hr) hI.2.1)
end SZD
end
section
/-! the reference packs: what it answers (steps spelled out by sf/pp.py) -/
/-- what pack answers: N names of L letters, objects of Z bytes -/
def pkA (N L Z : Nat) : Int32 := if 68 + Z + (4 + 4 * N + L + (4 + 4 * N + L) % 2) ≤ 8192 then nI (68 + Z + (4 + 4 * N + L + (4 + 4 * N + L) % 2)) else Int32.ofInt (-1)
section QPW
variable {F m : Nat} {h : px_H} {σ0 σ : px_S} {c o n M T i : Nat} {D : Nat → Bool} {A E : Nat → Nat} {I : px_S → Prop} {V : Int32 → Prop}
theorem qx_pk339 {k272 : Nat → Int32 → Int32 → Int32 → Int32 → Int32 → px_H → Option (Int32 × px_H)} {k293 : Nat → Int32 → Int32 → Int32 → Int32 → Int32 → Int32 → Int32 → px_H → Option (Int32 × px_H)} {k p5 p7 q6 : Nat} (hm : m ≤ h.length) (hP : PKo F m h (gA σ0 6) o n M D A E) (h1 : 1 ≤ k) (hk : k < M) (hD : D k = true) (hq : q6 ≤ 65536) (hK : ∀ σ, OWi σ0 σ c → Sm m h I V (k293 m (nI T) (nI p5) (nI q6) (nI p7) (nI i) (nI o) (nI (k + 1)) (mh m h σ))) : ∀ (d j f p6 : Nat) (σ : px_S), j + d = E k → d < f → p6 + d + 1 = q6 → OWi σ0 σ c → Sm m h I V (f_M_pack_339 F k272 k293 f m (nI T) (nI p5) (nI p6) (nI p7) (nI i) (nI o) (nI k) (nI j) (mh m h σ)) := by
  obtain ⟨e1, e2, e3⟩ := (hP.2.2.2 k h1 hk).2 hD
  intro d
  induction d with
  | zero =>
    intro j f p6 σ hj hf hp hI
    obtain ⟨f, rfl⟩ : ∃ y, f = y + 1 := ⟨f - 1, by omega⟩
    unfold f_M_pack_339 f_M_pack_375 f_M_pack_378
    rw [e_o hm, bs, (e3 σ (OWi_6 hI)).2, xb_mk, if_pos (nI_le (by omega) (by omega)), nI_add, nI_add]
    obtain rfl : p6 + 1 = q6 := by omega
    exact hK σ hI
  | succ d ih =>
    intro j f p6 σ hj hf hp hI
    obtain ⟨f, rfl⟩ : ∃ y, f = y + 1 := ⟨f - 1, by omega⟩
    unfold f_M_pack_339
    rw [e_o hm, bs, (e3 σ (OWi_6 hI)).2, xb_mk, if_neg (nI_ge (by omega) (by omega)), Mr3 hm, bs, Mr6 hm, bs, Ma6 hm (by omega), bs, nI_add, nI_add]
    exact sm_w3 hm hI (by omega) (fun σ hi => ih (j + 1) f (p6 + 1) σ (by omega) (by omega) (by omega) hi)
theorem qx_pk293 {k272 : Nat → Int32 → Int32 → Int32 → Int32 → Int32 → px_H → Option (Int32 × px_H)} {P5 P6 p7 : Nat} (hm : m ≤ h.length) (hF : 65540 < F) (hP : PKo F m h (gA σ0 6) o n M D A E) (hq5 : P5 + 4 * sumT (pkN D) (pkM M) ≤ 65536) (hq6 : P6 + sumT (pkL D A E) (pkM M) ≤ 65536) (hK : ∀ σ, OWi σ0 σ c → Sm m h I V (f_M_pack_384 F k272 m (nI T) (nI (P5 + 4 * sumT (pkN D) (pkM M))) (nI (P6 + sumT (pkL D A E) (pkM M))) (nI p7) (nI i) (nI o) (mh m h σ))) : ∀ (d k f : Nat) (σ : px_S), k + d = pkM M → 1 ≤ k → d < f → OWi σ0 σ c → Sm m h I V (f_M_pack_293 F k272 f m (nI T) (nI (P5 + 4 * sumT (pkN D) k)) (nI (P6 + sumT (pkL D A E) k)) (nI p7) (nI i) (nI o) (nI k) (mh m h σ)) := by
  obtain ⟨m1, m2, m3⟩ := pkM_1 M
  have hM := hP.1
  have hMx : pkM M ≤ 64 := by unfold pkM; split <;> omega
  intro d
  induction d with
  | zero =>
    intro k f σ hk h1 hf hI
    obtain ⟨f, rfl⟩ : ∃ y, f = y + 1 := ⟨f - 1, by omega⟩
    obtain rfl : k = pkM M := by omega
    unfold f_M_pack_293
    rw [e_o hm, bs, hP.2.2.1 σ (OWi_6 hI), xb_mk, if_pos (nI_le (by omega) (by omega))]
    exact hK σ hI
  | succ d ih =>
    intro k f σ hk h1 hf hI
    obtain ⟨f, rfl⟩ : ∃ y, f = y + 1 := ⟨f - 1, by omega⟩
    have hkM := m3 k h1 (by omega)
    obtain ⟨r1, r2⟩ := hP.2.2.2 k h1 hkM
    have s5 := sumT_le (f := pkN D) (show k + 1 ≤ pkM M by omega)
    have s6 := sumT_le (f := pkL D A E) (show k + 1 ≤ pkM M by omega)
    have e5 : sumT (pkN D) (k + 1) = sumT (pkN D) k + pkN D k := rfl
    have e6 : sumT (pkL D A E) (k + 1) = sumT (pkL D A E) k + pkL D A E k := rfl
    have go := fun σ hi => ih (k + 1) f σ (by omega) (by omega) (by omega) hi
    rw [e5, e6] at go
    rw [e5] at s5
    rw [e6] at s6
    unfold f_M_pack_293
    rw [e_o hm, bs, hP.2.2.1 σ (OWi_6 hI), xb_mk, if_neg (nI_ge (by omega) (by omega)), e_o hm, bs, r1 σ (OWi_6 hI), xb_mk]
    cases hD : D k with
    | false =>
      rw [if_pos (show bI false = 0 from rfl)]
      unfold f_M_pack_378
      rw [nI_add]
      rw [pkN_f hD, pkL_f hD] at go
      exact go σ hI
    | true =>
      rw [if_neg (show ¬ bI true = 0 by decide)]
      obtain ⟨a1, a2, a3⟩ := r2 hD
      rw [pkN_t h1 hD, pkL_t h1 hD] at go
      rw [pkN_t h1 hD] at s5
      rw [pkL_t h1 hD] at s6
      generalize sumT (pkN D) k = S5 at *
      generalize sumT (pkL D A E) k = S6 at *
      generalize sumT (pkN D) (pkM M) = U5 at *
      generalize sumT (pkL D A E) (pkM M) = U6 at *
      unfold f_M_highFirst
      refine sm_o hm (fun _ => sm_x (sm_high (F := F) (p := P5 + 4 * S5) hm (by omega) 4 0 F σ rfl (by omega) hI) (fun _ σ _ hi => ?_))
      rw [e_o hm, bs, (a3 σ (OWi_6 hi)).1, xb_mk, nI_add]
      refine qx_pk339 (k := k) (q6 := P6 + (S6 + (E k - A k + 1))) hm hP h1 hkM hD (by omega) ?_ (E k - A k) (A k) F (P6 + S6) σ (by omega) (by omega) (by omega) hi
      rw [show P5 + 4 * S5 + 4 = P5 + 4 * (S5 + 1) by omega]
      exact go
theorem qx_pk435 {k272 : Nat → Int32 → Int32 → Int32 → Int32 → Int32 → px_H → Option (Int32 × px_H)} {p5 p6 p7 : Nat} (hm : m ≤ h.length) (hF : 65540 < F) (hi7 : i < 64) (e129 : gA σ0 129 i = nI n) (hon : o + n ≤ 65536) (hp : p7 + pkZ n ≤ 65536) (hK : ∀ σ, OWi σ0 σ c → Sm m h I V (k272 m (nI T) (nI p5) (nI p6) (nI (p7 + pkZ n)) (nI (i + 1)) (mh m h σ))) : ∀ (d j f : Nat) (σ : px_S), j + d = n → d < f → OWi σ0 σ c → Sm m h I V (f_M_pack_435 F k272 f m (nI T) (nI p5) (nI p6) (nI p7) (nI i) (nI o) (nI j) (mh m h σ)) := by
  have hz : pkZ n = 60 + n + n % 2 := rfl
  rw [hz] at hp hK
  intro d
  induction d with
  | zero =>
    intro j f σ hj hf hI
    obtain ⟨f, rfl⟩ : ∃ y, f = y + 1 := ⟨f - 1, by omega⟩
    have g : gA σ 129 i = nI n := by rw [hI.1.2.2.1 129 (by decide)]; exact e129
    unfold f_M_pack_435 f_M_pack_476 f_M_pack_525
    rw [Mr129 hm, bs, Ma129 hm (by omega), bs, g, if_pos (nI_le (by omega) (by omega)), bs, Ma129 hm (by omega), bs, bs, Ma129 hm (by omega), bs, bs, Ma129 hm (by omega), bs, g, nI_m2 (by omega), nI_add, nI_add, nI_add, nI_add]
    refine sm_i (fun _ => ?_) (fun _ => hK σ hI)
    rw [Mr3 hm, bs, pk_sub (by omega)]
    exact sm_w3 hm hI (by omega) hK
  | succ d ih =>
    intro j f σ hj hf hI
    obtain ⟨f, rfl⟩ : ∃ y, f = y + 1 := ⟨f - 1, by omega⟩
    have g : gA σ 129 i = nI n := by rw [hI.1.2.2.1 129 (by decide)]; exact e129
    unfold f_M_pack_435
    rw [Mr129 hm, bs, Ma129 hm (by omega), bs, g, if_neg (nI_ge (by omega) (by omega)), Mr3 hm, bs, Mr6 hm, bs, nI_add, Ma6 hm (by omega), bs, nI_add, nI_add, nI_add]
    exact sm_w3 hm hI (by omega) (fun σ hi => ih _ _ _ (by omega) (by omega) hi)
theorem qx_pk384 {k272 : Nat → Int32 → Int32 → Int32 → Int32 → Int32 → px_H → Option (Int32 × px_H)} {p5 p6 p7 : Nat} (hm : m ≤ h.length) (hF : 65540 < F) (hi7 : i < 64) (e129 : gA σ0 129 i = nI n) (hon : o + n ≤ 65536) (hp : p7 + pkZ n ≤ 65536) (hK : ∀ σ, OWi σ0 σ c → Sm m h I V (k272 m (nI T) (nI p5) (nI p6) (nI (p7 + pkZ n)) (nI (i + 1)) (mh m h σ))) (hI : OWi σ0 σ c) : Sm m h I V (f_M_pack_384 F k272 m (nI T) (nI p5) (nI p6) (nI p7) (nI i) (nI o) (mh m h σ)) := by
  have hz : pkZ n = 60 + n + n % 2 := rfl
  have g : gA σ 129 i = nI n := by rw [hI.1.2.2.1 129 (by decide)]; exact e129
  unfold f_M_pack_384 f_M_ahead
  rw [Mr129 hm, bs, Ma129 hm (by omega), bs, g]
  refine sm_o hm (fun _ => sm_x (sm_ahead_2 (F := F) (p := p7) (v := n) hm hF (by omega) (by omega) 58 0 F σ rfl (by omega) hI) (fun _ σ _ hi => ?_))
  rw [Mr3 hm, bs]
  refine sm_w3 hm hi (by omega) (fun σ hi => ?_)
  rw [Mr3 hm, bs, nI_add]
  refine sm_w3 hm hi (by omega) (fun σ hi => ?_)
  rw [Mr3 hm, bs, nI_add]
  refine sm_w3 hm hi (by omega) (fun σ hi => ?_)
  exact qx_pk435 hm hF hi7 e129 hon hp hK n 0 F σ (Nat.zero_add _) (by omega) hi
end QPW
section QPX
variable {F m : Nat} {h : px_H} {σ0 σ : px_S} {cc c T : Nat} {of nf Mf : Nat → Nat} {Df : Nat → Nat → Bool} {Af Ef : Nat → Nat → Nat}
theorem qx_pk272 {P5 P6 P7 : Nat} (hm : m ≤ h.length) (hF : 65540 < F) (hP : PKs F m h σ0 c of nf Mf Df Af Ef) (hcc : cc ≤ 65536) (h5 : P5 + 4 * sumT (pkNN Mf Df) c ≤ 65536) (h6 : P6 + sumT (pkLL Mf Df Af Ef) c ≤ 65536) (h7 : P7 + sumT (pkZZ nf) c ≤ 65536) : ∀ (d i f : Nat) (σ : px_S), i + d = c → d < f → OWi σ0 σ cc → Sm m h (OWe σ0) (fun v => v = nI T) (f_M_pack_272 F f m (nI T) (nI (P5 + 4 * sumT (pkNN Mf Df) i)) (nI (P6 + sumT (pkLL Mf Df Af Ef) i)) (nI (P7 + sumT (pkZZ nf) i)) (nI i) (mh m h σ)) := by
  obtain ⟨hc7, e127, hO⟩ := hP
  intro d
  induction d with
  | zero =>
    intro i f σ hi hf hI
    obtain ⟨f, rfl⟩ : ∃ y, f = y + 1 := ⟨f - 1, by omega⟩
    unfold f_M_pack_272 f_M_pack_531
    rw [Mg127 hm, bs, hI.1.1 127 (by decide), e127, if_pos (nI_le (by omega) (by omega))]
    exact sm_r rfl ⟨cc, hcc, hI⟩
  | succ d ih =>
    intro i f σ hi hf hI
    obtain ⟨f, rfl⟩ : ∃ y, f = y + 1 := ⟨f - 1, by omega⟩
    obtain ⟨e128, e129, hPo⟩ := hO i (by omega)
    have s5 := sumT_le (f := pkNN Mf Df) (show i + 1 ≤ c by omega)
    have s6 := sumT_le (f := pkLL Mf Df Af Ef) (show i + 1 ≤ c by omega)
    have s7 := sumT_le (f := pkZZ nf) (show i + 1 ≤ c by omega)
    have e5 : sumT (pkNN Mf Df) (i + 1) = sumT (pkNN Mf Df) i + sumT (pkN (Df i)) (pkM (Mf i)) := rfl
    have e6 : sumT (pkLL Mf Df Af Ef) (i + 1) = sumT (pkLL Mf Df Af Ef) i + sumT (pkL (Df i) (Af i) (Ef i)) (pkM (Mf i)) := rfl
    have e7 : sumT (pkZZ nf) (i + 1) = sumT (pkZZ nf) i + pkZ (nf i) := rfl
    have go := fun σ hi => ih (i + 1) f σ (by omega) (by omega) hi
    rw [e5, e6, e7] at go
    rw [e5] at s5
    rw [e6] at s6
    rw [e7] at s7
    unfold f_M_pack_272
    rw [Mg127 hm, bs, hI.1.1 127 (by decide), e127, if_neg (nI_ge (by omega) (by omega)), Mr128 hm, bs, Ma128 hm (by omega), bs, hI.1.2.2.1 128 (by decide), e128]
    generalize sumT (pkNN Mf Df) i = S5 at *
    generalize sumT (pkLL Mf Df Af Ef) i = S6 at *
    generalize sumT (pkZZ nf) i = S7 at *
    generalize sumT (pkNN Mf Df) c = U5 at *
    generalize sumT (pkLL Mf Df Af Ef) c = U6 at *
    generalize sumT (pkZZ nf) c = U7 at *
    have hM := hPo.1
    obtain ⟨m1, m2, m3⟩ := pkM_1 (Mf i)
    have hMx : pkM (Mf i) ≤ 64 := by unfold pkM; split <;> omega
    have z0 : sumT (pkN (Df i)) 1 = 0 := rfl
    have z1 : sumT (pkL (Df i) (Af i) (Ef i)) 1 = 0 := rfl
    have w := qx_pk293 (σ0 := σ0) (c := cc) (T := T) (i := i) (I := OWe σ0) (V := fun v => v = nI T) (k272 := f_M_pack_272 F f) (P5 := P5 + 4 * S5) (P6 := P6 + S6) (p7 := P7 + S7) hm hF hPo (by omega) (by omega) (fun σ hi => qx_pk384 hm hF (by omega) e129 hPo.2.1 (by omega) (fun σ hi => by
      have g := go σ hi
      rw [show P5 + 4 * (S5 + sumT (pkN (Df i)) (pkM (Mf i))) = P5 + 4 * S5 + 4 * sumT (pkN (Df i)) (pkM (Mf i)) by omega, ← Nat.add_assoc P6, ← Nat.add_assoc P7] at g
      exact g) hi) (pkM (Mf i) - 1) 1 F σ (by omega) (by omega) (by omega) hI
    rw [z0, z1] at w
    exact w
theorem qx_pk269 {N L Z a4 : Nat} (hm : m ≤ h.length) (hF : 65540 < F) (hP : PKs F m h σ0 c of nf Mf Df Af Ef) (hcc : cc ≤ 65536) (eN : N = sumT (pkNN Mf Df) c) (eL : L = sumT (pkLL Mf Df Af Ef) c) (eZ : Z = sumT (pkZZ nf) c) (e4 : a4 = 4 + 4 * N + L) (hT : 68 + Z + (a4 + a4 % 2) ≤ 8192) (hI : OWi σ0 σ cc) : Sm m h (OWe σ0) (fun v => v = nI T) (f_M_pack_269 F m (nI T) (nI 72) (nI (72 + 4 * N)) (nI (68 + a4 + a4 % 2)) (mh m h σ)) := by
  have hc := hP.1
  unfold f_M_pack_269
  exact qx_pk272 (P5 := 72) (P6 := 72 + 4 * N) (P7 := 68 + a4 + a4 % 2) hm hF hP hcc (by rw [← eN]; omega) (by rw [← eL]; omega) (by rw [← eZ]; omega) c 0 F σ (Nat.zero_add _) (by omega) hI
theorem qx_pk187 {N L Z a4 : Nat} (hm : m ≤ h.length) (hF : 65540 < F) (hP : PKs F m h σ0 c of nf Mf Df Af Ef) (eN : N = sumT (pkNN Mf Df) c) (eL : L = sumT (pkLL Mf Df Af Ef) c) (eZ : Z = sumT (pkZZ nf) c) (e4 : a4 = 4 + 4 * N + L) (eT : T = 68 + Z + (a4 + a4 % 2)) (hT : T ≤ 8192) (hI : OWi σ0 σ cc) : Sm m h (OWe σ0) (fun v => v = nI T) (f_M_pack_187 F m (nI N) (nI T) (nI a4) (mh m h σ)) := by
  have fin : ∀ σ, OWi σ0 σ T → Sm m h (OWe σ0) (fun v => v = nI T) (f_M_pack_269 F m (nI T) (nI 72) (nI (72 + 4 * N)) (nI (68 + a4 + a4 % 2)) (mh m h σ)) := fun σ hi => qx_pk269 hm hF hP (by omega) eN eL eZ e4 (by omega) hi
  unfold f_M_pack_187
  refine sm_p4 hm hI (fun σ hi => ?_)
  obtain ⟨σ', e, w1, w2⟩ := q_put (F := F) (σ := σ) (at0 := 0) (n := 8) (v := (738142165265366049 : Int64)) hm (by omega) (by decide) hi.2.2
  have hi' : OWi σ0 σ' T := ⟨FR_trans hi.1 (FR_mono w1 (by decide) (by decide) (by decide) (by decide)), (w1.1 4 List.not_mem_nil).trans hi.2.1, w2⟩
  refine sm_o hm (fun _ => ?_)
  rw [e, xb_mk]
  unfold f_M_ahead f_M_highFirst
  refine sm_o hm (fun _ => sm_x (sm_ahead_2 (F := F) (p := 8) (v := a4) hm hF (by omega) (by omega) 58 0 F σ' rfl (by omega) hi') (fun _ σ _ hi => ?_))
  rw [Mr3 hm, bs]
  refine sm_w3 hm hi (by omega) (fun σ hi => ?_)
  refine sm_o hm (fun _ => sm_x (sm_high (F := F) (p := 68) hm (by omega) 4 0 F σ rfl (by omega) hi) (fun _ σ _ hi => ?_))
  rw [nI_m2 (by omega), nI_add, nI_add, show nI 4 * nI N = nI (4 * N) from (Int32.ofNat_mul _ _).symm, nI_add]
  refine sm_i (fun _ => ?_) (fun _ => fin σ hi)
  rw [Mr3 hm, bs, pk_sub (by omega)]
  exact sm_w3 hm hi (by omega) fin
theorem qx_pk167 {N L Z a4 : Nat} (hm : m ≤ h.length) (hF : 65540 < F) (hP : PKs F m h σ0 c of nf Mf Df Af Ef) (eN : N = sumT (pkNN Mf Df) c) (eL : L = sumT (pkLL Mf Df Af Ef) c) (eZ : Z = sumT (pkZZ nf) c) (e4 : a4 = 4 + 4 * N + L) (eT : T = 68 + Z + (a4 + a4 % 2)) (hT : T ≤ 8192) : ∀ (d j f : Nat) (σ : px_S), j + d = T → d < f → OWi σ0 σ cc → Sm m h (OWe σ0) (fun v => v = nI T) (f_M_pack_167 F f m (nI N) (nI T) (nI a4) (nI j) (mh m h σ)) := by
  intro d
  induction d with
  | zero =>
    intro j f σ hj hf hI
    obtain ⟨f, rfl⟩ : ∃ y, f = y + 1 := ⟨f - 1, by omega⟩
    unfold f_M_pack_167
    rw [if_pos (nI_le (by omega) (by omega))]
    exact qx_pk187 hm hF hP eN eL eZ e4 eT hT hI
  | succ d ih =>
    intro j f σ hj hf hI
    obtain ⟨f, rfl⟩ : ∃ y, f = y + 1 := ⟨f - 1, by omega⟩
    unfold f_M_pack_167
    rw [if_neg (nI_ge (by omega) (by omega)), Mr3 hm, bs, nI_add]
    exact sm_w3 hm hI (by omega) (fun σ hi => ih _ _ _ (by omega) (by omega) hi)
theorem qx_pk136 (hm : m ≤ h.length) (hF : 65540 < F) (hP : PKs F m h σ0 c of nf Mf Df Af Ef) (hcc : cc ≤ 65536) (hI : OWi σ0 σ cc) : Sm m h (OWe σ0) (fun v => v = pkA (sumT (pkNN Mf Df) c) (sumT (pkLL Mf Df Af Ef) c) (sumT (pkZZ nf) c)) (f_M_pack_136 F m (nI (sumT (pkNN Mf Df) c)) (nI (sumT (pkLL Mf Df Af Ef) c)) (nI (68 + sumT (pkZZ nf) c)) (mh m h σ)) := by
  obtain ⟨b1, b2, b3⟩ := pk_bnd hP
  have key : ∀ N L Z, N = sumT (pkNN Mf Df) c → L = sumT (pkLL Mf Df Af Ef) c → Z = sumT (pkZZ nf) c → Sm m h (OWe σ0) (fun v => v = pkA N L Z) (f_M_pack_136 F m (nI N) (nI L) (nI (68 + Z)) (mh m h σ)) := fun N L Z eN eL eZ => by
    rw [← eN] at b1
    rw [← eL] at b2
    rw [← eZ] at b3
    unfold f_M_pack_136 pkA
    rw [show nI 4 * nI N = nI (4 * N) from (Int32.ofNat_mul _ _).symm, nI_add, nI_add, nI_m2 (by omega), nI_add, nI_add]
    by_cases hT : 68 + Z + (4 + 4 * N + L + (4 + 4 * N + L) % 2) ≤ 8192
    · rw [if_pos (nI_le hT (by decide)), if_pos hT]
      exact qx_pk167 hm hF hP eN eL eZ rfl rfl hT _ 0 F σ (Nat.zero_add _) (by omega) hI
    · rw [if_neg (nI_ge (a := 8192) (by omega) (by omega)), if_neg hT]
      exact sm_r rfl ⟨cc, hcc, hI⟩
  exact key _ _ _ rfl rfl rfl
end QPX
section QPY
variable {F m : Nat} {h : px_H} {σ0 σ : px_S} {cc c T i o n M : Nat} {of nf Mf : Nat → Nat} {Df : Nat → Nat → Bool} {Af Ef : Nat → Nat → Nat} {D : Nat → Bool} {A E : Nat → Nat} {I : px_S → Prop} {V : Int32 → Prop} {fs : px_FS}
theorem qx_pk51 {k30 : Nat → Int32 → Int32 → Int32 → Int32 → px_H → Option (Int32 × px_H)} {N L S : Nat} (hm : m ≤ h.length) (hP : PKo F m h (gA σ 6) o n M D A E) (hi7 : i < 64) (e129 : gA σ 129 i = nI n) (hK : Sm m h I V (k30 m (nI (N + sumT (pkN D) (pkM M))) (nI (L + sumT (pkL D A E) (pkM M))) (nI (S + pkZ n)) (nI (i + 1)) (mh m h σ))) : ∀ (d k f : Nat), k + d = pkM M → 1 ≤ k → d < f → Sm m h I V (f_M_pack_51 F k30 f m (nI (N + sumT (pkN D) k)) (nI (L + sumT (pkL D A E) k)) (nI S) (nI i) (nI o) (nI k) (mh m h σ)) := by
  obtain ⟨m1, m2, m3⟩ := pkM_1 M
  have hM := hP.1
  have hon := hP.2.1
  have hMx : pkM M ≤ 64 := by unfold pkM; split <;> omega
  intro d
  induction d with
  | zero =>
    intro k f hk h1 hf
    obtain ⟨f, rfl⟩ : ∃ y, f = y + 1 := ⟨f - 1, by omega⟩
    obtain rfl : k = pkM M := by omega
    have hz : pkZ n = 60 + n + n % 2 := rfl
    rw [hz] at hK
    unfold f_M_pack_51 f_M_pack_107
    rw [e_o hm, bs, hP.2.2.1 σ rfl, xb_mk, if_pos (nI_le (by omega) (by omega)), Mr129 hm, bs, Ma129 hm (by omega), bs, bs, Ma129 hm (by omega), bs, e129, nI_m2 (by omega), nI_add, nI_add, nI_add, nI_add]
    exact hK
  | succ d ih =>
    intro k f hk h1 hf
    obtain ⟨f, rfl⟩ : ∃ y, f = y + 1 := ⟨f - 1, by omega⟩
    have hkM := m3 k h1 (by omega)
    obtain ⟨r1, r2⟩ := hP.2.2.2 k h1 hkM
    have e5 : sumT (pkN D) (k + 1) = sumT (pkN D) k + pkN D k := rfl
    have e6 : sumT (pkL D A E) (k + 1) = sumT (pkL D A E) k + pkL D A E k := rfl
    have go := ih (k + 1) f (by omega) (by omega) (by omega)
    rw [e5, e6] at go
    unfold f_M_pack_51 f_M_pack_101
    rw [e_o hm, bs, hP.2.2.1 σ rfl, xb_mk, if_neg (nI_ge (by omega) (by omega)), e_o hm, bs, r1 σ rfl, xb_mk]
    cases hD : D k with
    | false =>
      rw [if_pos (show bI false = 0 from rfl), nI_add]
      rw [pkN_f hD, pkL_f hD] at go
      exact go
    | true =>
      rw [if_neg (show ¬ bI true = 0 by decide)]
      obtain ⟨a1, a2, a3⟩ := r2 hD
      rw [pkN_t h1 hD, pkL_t h1 hD] at go
      rw [e_o hm, bs, (a3 σ rfl).2, xb_mk, e_o hm, bs, (a3 σ rfl).1, xb_mk, pk_sub (by omega), nI_add, nI_add, nI_add, nI_add, Nat.add_assoc, Nat.add_assoc]
      exact go
theorem qx_pk30 (hm : m ≤ h.length) (hF : 65540 < F) (hP : PKs F m h σ c of nf Mf Df Af Ef) (ho : OUo σ) : ∀ (d i f : Nat), i + d = c → d < f → Sm m h (OWe σ) (fun v => v = pkA (sumT (pkNN Mf Df) c) (sumT (pkLL Mf Df Af Ef) c) (sumT (pkZZ nf) c)) (f_M_pack_30 F f m (nI (sumT (pkNN Mf Df) i)) (nI (sumT (pkLL Mf Df Af Ef) i)) (nI (68 + sumT (pkZZ nf) i)) (nI i) (mh m h σ)) := by
  have hP' := hP
  obtain ⟨hc7, e127, hO⟩ := hP
  intro d
  induction d with
  | zero =>
    intro i f hi hf
    obtain ⟨f, rfl⟩ : ∃ y, f = y + 1 := ⟨f - 1, by omega⟩
    obtain rfl : i = c := by omega
    obtain ⟨cc, hcc, hI⟩ := OWe_0 ho (FR_refl σ)
    unfold f_M_pack_30
    rw [Mg127 hm, bs, e127, if_pos (nI_le (by omega) (by omega))]
    exact qx_pk136 hm hF hP' hcc hI
  | succ d ih =>
    intro i f hi hf
    obtain ⟨f, rfl⟩ : ∃ y, f = y + 1 := ⟨f - 1, by omega⟩
    obtain ⟨e128, e129, hPo⟩ := hO i (by omega)
    have e5 : sumT (pkNN Mf Df) (i + 1) = sumT (pkNN Mf Df) i + sumT (pkN (Df i)) (pkM (Mf i)) := rfl
    have e6 : sumT (pkLL Mf Df Af Ef) (i + 1) = sumT (pkLL Mf Df Af Ef) i + sumT (pkL (Df i) (Af i) (Ef i)) (pkM (Mf i)) := rfl
    have e7 : sumT (pkZZ nf) (i + 1) = sumT (pkZZ nf) i + pkZ (nf i) := rfl
    have go := ih (i + 1) f (by omega) (by omega)
    rw [e5, e6, e7, ← Nat.add_assoc] at go
    unfold f_M_pack_30
    rw [Mg127 hm, bs, e127, if_neg (nI_ge (by omega) (by omega)), Mr128 hm, bs, Ma128 hm (by omega), bs, e128]
    have hM := hPo.1
    obtain ⟨m1, m2, m3⟩ := pkM_1 (Mf i)
    have hMx : pkM (Mf i) ≤ 64 := by unfold pkM; split <;> omega
    have z0 : sumT (pkN (Df i)) 1 = 0 := rfl
    have z1 : sumT (pkL (Df i) (Af i) (Ef i)) 1 = 0 := rfl
    have w := qx_pk51 (i := i) (I := OWe σ) (k30 := f_M_pack_30 F f) (N := sumT (pkNN Mf Df) i) (L := sumT (pkLL Mf Df Af Ef) i) (S := 68 + sumT (pkZZ nf) i) hm hPo (by omega) e129 go (pkM (Mf i) - 1) 1 F (by omega) (by omega) (by omega)
    rw [z0, z1] at w
    exact w
end QPY
end
section
/-! the reference packs: which objects, what is answered (steps spelled out by sf/pp.py) -/
/-- the q-th place has an object -/
def isOb (fs : px_FS) (q : Nat) : Bool := match obAt fs q with
  | none => false
  | some y => !y.2.2.2
def obV (fs : px_FS) (q : Nat) : Nat × Nat × (Nat → Nat) × Bool := (obAt fs q).getD (0, 0, (fun _ => 0), false)
/-- the objects ahead of the e-th place, in order -/
def obL (fs : px_FS) : Nat → List Nat
  | 0 => []
  | e + 1 => if isOb fs e = true then obL fs e ++ [e] else obL fs e
theorem isOb_t {fs : px_FS} {q : Nat} (h : isOb fs q = true) : ∃ o n b, obAt fs q = some (o, n, b, false) ∧ obV fs q = (o, n, b, false) := by
  unfold isOb at h
  unfold obV
  cases e : obAt fs q with
  | none => rw [e] at h; cases h
  | some y =>
    obtain ⟨o, n, b, z⟩ := y
    rw [e] at h
    cases z with
    | true => cases h
    | false => exact ⟨o, n, b, rfl, rfl⟩
theorem isOb_o {fs : px_FS} {q o n : Nat} {b : Nat → Nat} {z : Bool} (h : obAt fs q = some (o, n, b, z)) : isOb fs q = !z := by
  unfold isOb
  rw [h]
theorem isOb_n {fs : px_FS} {q : Nat} (h : obAt fs q = none) : isOb fs q = false := by
  unfold isOb
  rw [h]
theorem obL_len (fs : px_FS) : ∀ e, (obL fs e).length ≤ e := by
  intro e
  induction e with
  | zero => exact Nat.le_refl _
  | succ e ih =>
    unfold obL
    split
    · rw [List.length_append, List.length_singleton]; omega
    · omega
theorem obL_ext {fs : px_FS} {a : Nat} : ∀ d, (∀ q, a ≤ q → q < a + d → isOb fs q = false) → obL fs (a + d) = obL fs a := by
  intro d
  induction d with
  | zero => intro _; rfl
  | succ d ih =>
    intro h
    have e : obL fs (a + (d + 1)) = if isOb fs (a + d) = true then obL fs (a + d) ++ [a + d] else obL fs (a + d) := rfl
    rw [e, h (a + d) (by omega) (by omega), if_neg (by decide)]
    exact ih (fun q h1 h2 => h q h1 (by omega))
theorem obL_ob (fs : px_FS) : ∀ e (i q : Nat), (obL fs e)[i]? = some q → isOb fs q = true ∧ q < e := by
  intro e
  induction e with
  | zero => intro i q h; cases h
  | succ e ih =>
    intro i q h
    unfold obL at h
    split at h
    · rename_i hb
      rw [List.getElem?_append] at h
      split at h
      · have w := ih i q h
        exact ⟨w.1, by omega⟩
      · rw [List.getElem?_singleton] at h
        split at h
        · injection h with h
          subst h
          exact ⟨hb, by omega⟩
        · cases h
    · have w := ih i q h
      exact ⟨w.1, by omega⟩
/-- a sum over a list -/
theorem sumT_map (g : Nat → Nat) : ∀ qs : List Nat, sumT (fun i => g (qs.getD i 0)) qs.length = (qs.map g).sum := by
  intro qs
  have key : ∀ e, e ≤ qs.length → sumT (fun i => g (qs.getD i 0)) e = ((qs.take e).map g).sum := by
    intro e
    induction e with
    | zero => intro _; rfl
    | succ e ih =>
      intro he
      have e1 : sumT (fun i => g (qs.getD i 0)) (e + 1) = sumT (fun i => g (qs.getD i 0)) e + g (qs.getD e 0) := rfl
      have hq : qs[e]? = some qs[e] := List.getElem?_eq_getElem (by omega)
      have e2 : qs.getD e 0 = qs[e] := by
        rw [List.getD_eq_getElem?_getD, hq]
        rfl
      have e3 : List.take (e + 1) qs = List.take e qs ++ [qs[e]] := by
        rw [List.take_succ, hq]
        rfl
      rw [e1, ih (by omega), e2, e3, List.map_append, List.sum_append]
      show _ = _ + (g qs[e] + 0)
      rw [Nat.add_zero]
  rw [key qs.length (Nat.le_refl _), List.take_length]
/-- the objects are found -/
def FOx (fs : px_FS) (σ0 σ : px_S) (qs : List Nat) : Prop := FR [0, 127] [] [128, 129] [] σ0 σ ∧ gI σ 127 = nI qs.length ∧ ∀ i q, qs[i]? = some q → gA σ 128 i = nI (obV fs q).1 ∧ gA σ 129 i = nI (obV fs q).2.1
section QFO
variable {F m : Nat} {h : px_H} {σ0 σ : px_S} {fs : px_FS} {qs : List Nat}
theorem FOx_R (hr : RF σ0 fs) (hI : FOx fs σ0 σ qs) : RF σ fs := RF_FR hr hI.1 (by decide) (by decide)
theorem FOx_1 {o n q : Nat} {b : Nat → Nat} (hI : FOx fs σ0 σ qs) (hob : obAt fs q = some (o, n, b, false)) : FOx fs σ0 (sI (sA (sA σ 128 (upd (gA σ 128) qs.length (nI o))) 129 (upd (gA σ 129) qs.length (nI n))) 127 (nI (qs.length + 1))) (qs ++ [q]) := by
  obtain ⟨hf, ec, ht⟩ := hI
  refine ⟨FR_trans (FR_trans (FR_trans hf (FR_mono (FR_A _ _ _) (by decide) (by decide) (by decide) (by decide))) (FR_mono (FR_A _ _ _) (by decide) (by decide) (by decide) (by decide))) (FR_mono (FR_I _ _ _) (by decide) (by decide) (by decide) (by decide)), by rw [gI_sI, if_pos rfl, List.length_append, List.length_singleton], fun i q' hq' => ?_⟩
  have eV : obV fs q = (o, n, b, false) := by
    unfold obV
    rw [hob]
    rfl
  simp only [gA_sI, gA_sA]
  rw [List.getElem?_append] at hq'
  split at hq'
  · rename_i hi
    obtain ⟨e2, e3⟩ := ht i q' hq'
    have e : i ≠ qs.length := by omega
    exact ⟨by simp [upd, e, e2], by simp [upd, e, e3]⟩
  · rename_i hi
    rw [List.getElem?_singleton] at hq'
    split at hq'
    · rename_i h0
      injection hq' with hq'
      subst hq'
      have e : i = qs.length := by omega
      subst e
      rw [eV]
      exact ⟨by simp [upd], by simp [upd]⟩
    · cases hq'
theorem qx_fo_17 {k7 : Nat → Int32 → px_H → Option (Unit × px_H)} {i : Nat} {l : List (Nat × Nat × Bool)} {x : Nat × (Nat → Nat)} (hm : m ≤ h.length) (hr : RF σ0 fs) (hi : i < fs.length) (hx : fs[i]? = some x) (hlm : fMem x.2 x.1 = some l) (hl : l.length ≤ 8) (el : gA σ0 8 i = nI l.length) (hK : ∀ σ, FOx fs σ0 σ (obL fs (8 * (i + 1))) → Sm m h (fun σ' => FOx fs σ0 σ' (obL fs 64)) Any (k7 m (nI (i + 1)) (mh m h σ))) : ∀ (d k f : Nat) (σ : px_S), k + d = l.length → d < f → FOx fs σ0 σ (obL fs (8 * i + k)) → Sm m h (fun σ' => FOx fs σ0 σ' (obL fs 64)) Any (f_M_findObjects_17 F k7 f m (nI i) (nI k) (mh m h σ)) := by
  have h8 := hr.2.1
  have i8 : i < 8 := by omega
  intro d
  induction d with
  | zero =>
    intro k f σ hk hf hI
    obtain ⟨f, rfl⟩ : ∃ y, f = y + 1 := ⟨f - 1, by omega⟩
    have g8 : gA σ 8 = gA σ0 8 := hI.1.2.2.1 8 (by decide)
    unfold f_M_findObjects_17 f_M_findObjects_100
    rw [Mr8 hm, bs, Ma8 hm i8, bs, g8, el, if_pos (nI_le (by omega) (by omega)), nI_add]
    refine hK σ ?_
    have e := obL_ext (fs := fs) (a := 8 * i + k) (8 - k) (fun q h1 h2 => by
      obtain ⟨k', hk', rfl⟩ : ∃ k', k' < 8 ∧ q = 8 * i + k' := ⟨q - 8 * i, by omega, by omega⟩
      refine isOb_n ?_
      rw [obAt_none hr hx hlm hk', List.getElem?_eq_none (by omega)]
      rfl)
    rw [show 8 * i + k + (8 - k) = 8 * (i + 1) by omega] at e
    rw [e]
    exact hI
  | succ d ih =>
    intro k f σ hk hf hI
    obtain ⟨f, rfl⟩ : ∃ y, f = y + 1 := ⟨f - 1, by omega⟩
    have g8 : gA σ 8 = gA σ0 8 := hI.1.2.2.1 8 (by decide)
    have hq : 8 * i + k < 64 := by omega
    have hR := FOx_R hr hI
    have hlen := obL_len fs (8 * i + k)
    obtain ⟨o, n, b, sk, hob⟩ := mem_ob (k := k) hR hi ⟨l.length, by rw [g8]; exact el, hl, by omega⟩
    obtain ⟨q1, q2, q3, q4, q5, q6, q7⟩ := RF_ob hR hob
    have eL : obL fs (8 * i + (k + 1)) = if isOb fs (8 * i + k) = true then obL fs (8 * i + k) ++ [8 * i + k] else obL fs (8 * i + k) := rfl
    unfold f_M_findObjects_17 f_M_findObjects_94
    rw [Mr8 hm, bs, Ma8 hm i8, bs, g8, el, if_neg (nI_ge (by omega) (by omega)), Mr12 hm, bs, ix8, Ma12 hm hq, bs, q4, nI_add]
    cases sk with
    | true =>
      rw [if_neg (show ¬ bI true = 0 by decide)]
      refine ih _ _ _ (by omega) (by omega) ?_
      rw [eL, isOb_o hob, if_neg (by decide)]
      exact hI
    | false =>
      rw [if_pos (show bI false = 0 from rfl), Mr128 hm, bs, Mg127 hm, bs, hI.2.1, Mr9 hm, bs, Ma9 hm hq, bs, q2, Ms128 hm (by omega), bs, Mr129 hm, bs, Mg127 hm, bs, gI_sA, hI.2.1, Mr10 hm, bs, Ma10 hm hq, bs, gA_sA, if_neg (show ¬ 10 = 128 by decide), q3, Ms129 hm (by omega), bs, Mg127 hm, bs, gI_sA, gI_sA, hI.2.1, nI_add, Mp127 hm, bs]
      refine ih _ _ _ (by omega) (by omega) ?_
      rw [eL, isOb_o hob, if_pos (show (!false) = true from rfl)]
      exact FOx_1 hI hob
theorem qx_fo_7 (hm : m ≤ h.length) (hF : 65540 < F) (hr : RF σ0 fs) : ∀ (d i f : Nat) (σ : px_S), i + d = fs.length → d < f → FOx fs σ0 σ (obL fs (8 * i)) → Sm m h (fun σ' => FOx fs σ0 σ' (obL fs 64)) Any (f_M_findObjects_7 F f m (nI i) (mh m h σ)) := by
  have h8 := hr.2.1
  intro d
  induction d with
  | zero =>
    intro i f σ hi hf hI
    obtain ⟨f, rfl⟩ : ∃ y, f = y + 1 := ⟨f - 1, by omega⟩
    unfold f_M_findObjects_7 f_M_findObjects_106
    rw [Mg5 hm, bs, (FOx_R hr hI).1, if_pos (nI_le (by omega) (by omega))]
    refine sm_r any ?_
    have e := obL_ext (fs := fs) (a := 8 * i) (64 - 8 * i) (fun q h1 h2 => by
      refine isOb_n ?_
      unfold obAt
      rw [List.getElem?_eq_none (by omega)])
    rw [show 8 * i + (64 - 8 * i) = 64 by omega] at e
    rw [e]
    exact hI
  | succ d ih =>
    intro i f σ hi hf hI
    obtain ⟨f, rfl⟩ : ∃ y, f = y + 1 := ⟨f - 1, by omega⟩
    have hil : i < fs.length := by omega
    obtain ⟨x, hx⟩ : ∃ x, fs[i]? = some x := ⟨_, List.getElem?_eq_getElem hil⟩
    obtain ⟨_, _, _, _, l, hl, _⟩ := hr.2.2.2 i x hx
    obtain ⟨y1, y2, y3, _⟩ := RF_row hr hx hl
    unfold f_M_findObjects_7
    rw [Mg5 hm, bs, (FOx_R hr hI).1, if_neg (nI_ge (by omega) (by omega))]
    exact qx_fo_17 hm hr hil hx hl y2 y1 (fun σ hI => ih _ _ _ (by omega) (by omega) hI) l.length 0 F σ (Nat.zero_add _) (by omega) hI
theorem qx_fo (hm : m ≤ h.length) (hF : 65540 < F) (hr : RF σ0 fs) : Sm m h (fun σ' => FOx fs σ0 σ' (obL fs 64)) Any (f_M_findObjects F m (mh m h σ0)) := by
  unfold f_M_findObjects
  rw [Mp127 hm, bs]
  exact qx_fo_7 hm hF hr fs.length 0 F _ (Nat.zero_add _) (by have := hr.2.1; omega) ⟨FR_mono (FR_I _ _ _) (by decide) (by decide) (by decide) (by decide), by rw [gI_sI, if_pos rfl]; rfl, fun i q hi => by cases hi⟩
/-- names, letters, bytes of the q-th object -/
def pkD (b : Nat → Nat) (k : Nat) : Bool := decide (¬ (yB b k = 0 ∨ yW b k = 0))
def pkLb (b : Nat → Nat) (k : Nat) : Nat := if k = 0 then 0 else if pkD b k = true then yL b k + 1 else 0
def pn1 (fs : px_FS) (q : Nat) : Nat := sumT (pkN (pkD (obV fs q).2.2.1)) (pkM (oM (obV fs q).2.2.1))
def pl1 (fs : px_FS) (q : Nat) : Nat := sumT (pkLb (obV fs q).2.2.1) (pkM (oM (obV fs q).2.2.1))
def pz1 (fs : px_FS) (q : Nat) : Nat := pkZ (obV fs q).2.1
/-- what pack answers -/
def pkR (fs : px_FS) : Int32 := if (obL fs 64).length ≤ 7 then pkA ((obL fs 64).map (pn1 fs)).sum ((obL fs 64).map (pl1 fs)).sum ((obL fs 64).map (pz1 fs)).sum else Int32.ofInt (-1)
theorem pkLb_e (b : Nat → Nat) (o p : Nat) : pkL (pkD b) (fun k => o + (p + yN b k)) (fun k => o + (p + yN b k) + yL b k) = pkLb b := by
  funext k
  unfold pkL pkLb
  by_cases c0 : k = 0
  · rw [if_pos c0, if_pos c0]
  · rw [if_neg c0, if_neg c0]
    by_cases c1 : pkD b k = true
    · rw [if_pos c1, if_pos c1, Nat.add_sub_cancel_left]
    · rw [if_neg c1, if_neg c1]
theorem q_pack (hm : m ≤ h.length) (hF : 65540 < F) (hr : RF σ fs) (ho : OUo σ) : Sm m h (PKe σ) (fun v => v = pkR fs) (f_M_pack F m (mh m h σ)) := by
  have hr1 : RF (sI σ 0 (nI 0)) fs := RF_0 hr (FR_I _ _ _)
  unfold f_M_pack pkR
  rw [Mp0 hm, bs, e_o hm, bs]
  refine sm_x (qx_fo hm hF hr1) (fun _ σ1 _ hI => ?_)
  have ho1 : OUo σ1 := OUo_FR (OUo_FR ho (FR_I σ 0 (nI 0)) (by decide) (by decide)) hI.1 (by decide) (by decide)
  have fr1 : FR [0, 4, 127] [] [3, 128, 129] [] σ σ1 := FR_trans (FR_mono (FR_I σ 0 (nI 0)) (by decide) (by decide) (by decide) (by decide)) (FR_mono hI.1 (by decide) (by decide) (by decide) (by decide))
  have hlen := obL_len fs 64
  have hob := obL_ob fs 64
  rw [Mg127 hm, bs, hI.2.1]
  generalize hqs : obL fs 64 = qs at *
  by_cases c7 : qs.length ≤ 7
  · rw [if_pos (nI_le c7 (by decide)), if_pos c7]
    have hR := FOx_R hr1 hI
    have hP : PKs F m h σ1 qs.length (fun i => (obV fs (qs.getD i 0)).1) (fun i => (obV fs (qs.getD i 0)).2.1) (fun i => oM (obV fs (qs.getD i 0)).2.2.1) (fun i => pkD (obV fs (qs.getD i 0)).2.2.1) (fun i k => (obV fs (qs.getD i 0)).1 + (oP (obV fs (qs.getD i 0)).2.2.1 (oX (obV fs (qs.getD i 0)).2.2.1) + yN (obV fs (qs.getD i 0)).2.2.1 k)) (fun i k => (obV fs (qs.getD i 0)).1 + (oP (obV fs (qs.getD i 0)).2.2.1 (oX (obV fs (qs.getD i 0)).2.2.1) + yN (obV fs (qs.getD i 0)).2.2.1 k) + yL (obV fs (qs.getD i 0)).2.2.1 k) := by
      refine ⟨c7, hI.2.1, fun i hi => ?_⟩
      have hq : qs[i]? = some qs[i] := List.getElem?_eq_getElem hi
      have e2 : qs.getD i 0 = qs[i] := by
        rw [List.getD_eq_getElem?_getD, hq]
        rfl
      dsimp only
      rw [e2]
      obtain ⟨g1, g2⟩ := hI.2.2 i qs[i] hq
      obtain ⟨o, n, b, eo, eV⟩ := isOb_t (hob i qs[i] hq).1
      obtain ⟨_, _, _, _, q5, q6, q7⟩ := RF_ob hR eo
      rw [eV] at g1 g2 ⊢
      exact ⟨g1, g2, PKo_of hm (by omega) hR.2.2.1 q5 q6 (q7 rfl)⟩
    have w := qx_pk30 hm hF hP ho1 qs.length 0 F (Nat.zero_add _) (by omega)
    have s1 : sumT (pkNN (fun i => oM (obV fs (qs.getD i 0)).2.2.1) (fun i => pkD (obV fs (qs.getD i 0)).2.2.1)) qs.length = (qs.map (pn1 fs)).sum := sumT_map (pn1 fs) qs
    have s2 : sumT (pkLL (fun i => oM (obV fs (qs.getD i 0)).2.2.1) (fun i => pkD (obV fs (qs.getD i 0)).2.2.1) (fun i k => (obV fs (qs.getD i 0)).1 + (oP (obV fs (qs.getD i 0)).2.2.1 (oX (obV fs (qs.getD i 0)).2.2.1) + yN (obV fs (qs.getD i 0)).2.2.1 k)) (fun i k => (obV fs (qs.getD i 0)).1 + (oP (obV fs (qs.getD i 0)).2.2.1 (oX (obV fs (qs.getD i 0)).2.2.1) + yN (obV fs (qs.getD i 0)).2.2.1 k) + yL (obV fs (qs.getD i 0)).2.2.1 k)) qs.length = (qs.map (pl1 fs)).sum := by
      rw [← sumT_map (pl1 fs) qs]
      congr 1
      funext i
      unfold pkLL pl1
      rw [pkLb_e]
    have s3 : sumT (pkZZ (fun i => (obV fs (qs.getD i 0)).2.1)) qs.length = (qs.map (pz1 fs)).sum := sumT_map (pz1 fs) qs
    rw [s1, s2, s3] at w
    refine sm_wI (I1 := OWe σ1) w (fun σ2 w => ?_)
    obtain ⟨cc, hcc, hW⟩ := w
    exact ⟨FR_trans fr1 (FR_mono hW.1 (by decide) (by decide) (by decide) (by decide)), ⟨cc, hcc, hW.2.1⟩, hW.2.2⟩
  · rw [if_neg (nI_ge (a := 7) (by omega) (by omega)), if_neg c7]
    exact sm_r rfl ⟨fr1, ho1⟩
end QFO
end
section
/-! pack of the class: what it counts (steps spelled out by sf/pp.py) -/
section CPK
variable {F : Nat} {c : px_CT} {sk : Nat → Nat × Nat × Nat} {L : Nat} {own : Nat → Nat × Nat} {τ0 τ : px_TT} {fs : List (Nat × (Nat → Nat))} {gs : List (List Nat × Int64)} {ws : List (List Nat)} {n : Nat} {b : Nat → Nat} {a : Int32} {Y : px_Y} {q o n' r A : Nat} {b' : Nat → Nat}
theorem k_isObject (hS : GS sk L) (hf : CF sk L τ fs) (hq : q < 64) : f_Scribe_isObject F c (some (10 + 2 * q)) (cH sk L τ) = some (bI (isOb fs q), cH sk L τ) := by
  unfold f_Scribe_isObject f_Scribe_isObject_16 f_Scribe_isObject_21
  rw [bs, C7g4 (G_of hS hq), bs, bs]
  cases hob : obAt fs q with
  | none =>
    rw [CF_no hf hob hq, isOb_n hob, if_neg (by decide), if_neg (by decide)]
    exact xz_b false _
  | some y =>
    obtain ⟨o, n, b, z⟩ := y
    obtain ⟨_, ⟨x, hx, e4⟩, _⟩ := CF_ob hf hob
    rw [e4, isOb_o hob]
    cases z with
    | true =>
      rw [obAt_z hob hx, if_neg (by decide), if_neg (by decide)]
      exact xz_b false _
    | false =>
      cases isAr x.2 x.1 with
      | true =>
        rw [if_neg (by decide), if_pos (show nI (mkd true false) = nI 2 from rfl)]
        exact xz_b true _
      | false =>
        rw [if_pos (show nI (mkd false false) = nI 1 from rfl)]
        exact xz_b true _
/-- a symbol that is packed -/
theorem z_def {j : Nat} (hF : 65540 < F) (hC : CV sk L own τ0 fs gs ws n b a Y) (hob : obAt fs q = some (o, n', b', false)) (hj1 : 1 ≤ j) (hj : j < oM b') (hI : SI none sk L τ0 τ) : f_ObjectFile_isDefining F c (10 + 2 * q) (nI j) (cH sk L τ) = some (bI (pkD b' j), cH sk L τ) := by
  have hCt := CV_SI hC hI
  obtain ⟨h64, _, e5, h6, h7, hd⟩ := CF_ob hCt.2.2.2.1 hob
  have hD := hd rfl
  have he : eObj b' n' = 0 := by
    have w := hD.2.2
    rw [e5] at w
    exact w
  have hy := (eObj_0 he).2.1 j hj1 hj
  have hw := yOK_W hy
  have h24 := (eObj_0 he).1.1.2.1.2
  have hb : yB b' j < 16 := by
    by_cases e : yB b' j = 0
    · omega
    · have := (yOK_n hy e).1
      omega
  have k := k_isDefining (F := F) (c := c) (j := j) hD.1 (by omega) hj1 (by rw [e5]; exact hj) (by rw [e5]; exact hb) (by rw [e5]; omega)
  rw [e5] at k
  exact k
theorem z_pk38 {J : px_TT → Prop} {V : Int32 → Prop} {k11 : Nat → Nat → Nat → Int32 → Int32 → Int32 → Int32 → px_H → Option (Int32 × px_H)} {a3 a6 : Int32} {N Lt : Nat} (hF : 65540 < F) (hC : CV sk L own τ0 fs gs ws n b a Y) (hob : obAt fs q = some (o, n', b', false)) (hK : ∀ τ, SI none sk L τ0 τ → (∀ k, fN τ 0 k = fN τ0 0 k) → Sf sk L J V (k11 1713 r 9 a3 (nI (N + sumT (pkN (pkD b')) (pkM (oM b')))) (nI (Lt + sumT (pkLb b') (pkM (oM b')))) (a6 + nI 1) (cH sk L τ))) : ∀ (d j f : Nat) (τ : px_TT), j + d = pkM (oM b') → 1 ≤ j → d < f → SI none sk L τ0 τ → (∀ k, fN τ 0 k = fN τ0 0 k) → Sf sk L J V (f_Scribe_writePacked_38 F c k11 f 1713 r 9 a3 (nI (N + sumT (pkN (pkD b')) j)) (nI (Lt + sumT (pkLb b') j)) a6 (some (10 + 2 * q)) (nI j) (cH sk L τ)) := by
  have h0 := (CV_S4 hC).1.1.1
  have o13 := G1713 hC.1
  have o47 := G147 hC.1
  have o95 : ob sk L 5 1695 := GS_o hC.1 (by decide) (by decide)
  have hM64 : oM b' ≤ 64 := by
    obtain ⟨_, _, e5, _, _, hd⟩ := CF_ob hC.2.2.2.1 hob
    have w := (hd rfl).2.2
    rw [e5] at w
    exact w2_M (eObj_0 w).1
  have hMx : pkM (oM b') ≤ 64 := by unfold pkM; split <;> omega
  obtain ⟨m1, m2, m3⟩ := pkM_1 (oM b')
  intro d
  induction d with
  | zero =>
    intro j f τ hj h1 hf hI hN
    obtain ⟨f, rfl⟩ : ∃ y, f = y + 1 := ⟨f - 1, by omega⟩
    obtain rfl : j = pkM (oM b') := by omega
    have hCt := CV_SI hC hI
    obtain ⟨_, _, e5, _, _, hd⟩ := CF_ob hCt.2.2.2.1 hob
    have hs := (hd rfl).1
    have k5 := hs.2.1.2.1
    rw [e5] at k5
    unfold f_Scribe_writePacked_38 f_Scribe_writePacked_105
    rw [bs, C7g11 hs.1.1.1.1, bs, k5, if_pos (nI_le (by omega) (by omega))]
    exact hK τ hI hN
  | succ d ih =>
    intro j f τ hj h1 hf hI hN
    obtain ⟨f, rfl⟩ : ∃ y, f = y + 1 := ⟨f - 1, by omega⟩
    have hjM := m3 j h1 (by omega)
    obtain ⟨o1, k5, k1, _, _, P, e4, hn⟩ := z_sym (F := F) (c := c) hF hC hob h1 hjM hI
    have kd := z_def (F := F) (c := c) hF hC hob h1 hjM hI
    have e5 : sumT (pkN (pkD b')) (j + 1) = sumT (pkN (pkD b')) j + pkN (pkD b') j := rfl
    have e6 : sumT (pkLb b') (j + 1) = sumT (pkLb b') j + pkLb b' j := rfl
    have go := fun τ hI hN => ih (j + 1) f τ (by omega) (by omega) (by omega) hI hN
    rw [e5, e6] at go
    unfold f_Scribe_writePacked_38 f_Scribe_writePacked_105 f_Scribe_writePacked_99
    rw [bs, C7g11 o1, bs, k5, if_neg (nI_ge (by omega) (by omega)), c_o o1, bs, kd, xb_mk]
    cases hD : pkD b' j with
    | false =>
      rw [if_pos (show bI false = 0 from rfl), nI_add]
      rw [pkN_f hD, show pkLb b' j = 0 by unfold pkLb; rw [if_neg (by omega), if_neg (by rw [hD]; decide)]] at go
      exact go τ hI hN
    | true =>
      have hB : yB b' j ≠ 0 := fun w => (of_decide_eq_true hD) (Or.inl w)
      obtain ⟨⟨y1, y2⟩, τ5, e5', f5, l5⟩ := hn hB
      have hR := GR_Z h0.2.1 hI.1
      have i5 := SI_N hI f5 (Or.inr rfl)
      have hR5 := GR_Z h0.2.1 i5.1
      rw [if_neg (show ¬ bI true = 0 by decide)]
      rw [pkN_t h1 hD, show pkLb b' j = yL b' j + 1 by unfold pkLb; rw [if_neg (by omega), if_pos hD], ← Nat.add_assoc, ← Nat.add_assoc Lt] at go
      rw [C11r0 o13 (GR_r (v := 147) hR (by decide)), bs, C3r11 o47 (GR_r (v := 1695) hR (by decide)), bs, C11r2 o13 (GR_r (v := 7) hR (by decide)), bs, c_o o1, bs, e4, xb_mk, c_o o95, bs, e5', xb_mk, C11r0 o13 (GR_r (v := 147) hR5 (by decide)), bs, C3r11 o47 (GR_r (v := 1695) hR5 (by decide)), bs, C5g3 o95, bs, l5, nI_add, nI_add, nI_add, nI_add]
      exact go τ5 i5 (fun k => (f5.2.2.1 0 k).trans (hN k))
theorem obL_t {i : Nat} (h : isOb fs i = true) : obL fs (i + 1) = obL fs i ++ [i] := by
  have e : obL fs (i + 1) = if isOb fs i = true then obL fs i ++ [i] else obL fs i := rfl
  rw [e, if_pos h]
theorem obL_f {i : Nat} (h : isOb fs i = false) : obL fs (i + 1) = obL fs i := by
  have e : obL fs (i + 1) = if isOb fs i = true then obL fs i ++ [i] else obL fs i := rfl
  rw [e, if_neg (by rw [h]; decide)]
theorem sum_1 (g : Nat → Nat) (l : List Nat) (i : Nat) : ((l ++ [i]).map g).sum = (l.map g).sum + g i := by
  rw [List.map_append, List.sum_append]
  show _ + (g i + 0) = _
  rw [Nat.add_zero]
/-- the class counts objects, names, letters -/
theorem z_pk11 {J : px_TT → Prop} {V : Int32 → Prop} (hF : 65540 < F) (hC : CV sk L own τ0 fs gs ws n b a Y) (hT : ∀ τ, SI none sk L τ0 τ → (∀ k, fN τ 0 k = fN τ0 0 k) → Sf sk L J V (f_Scribe_writePacked_111 F c 1713 r 9 (nI (obL fs 64).length) (nI ((obL fs 64).map (pn1 fs)).sum) (nI ((obL fs 64).map (pl1 fs)).sum) (cH sk L τ))) : ∀ (d i f : Nat) (τ : px_TT), i + d = 64 → d < f → SI none sk L τ0 τ → (∀ k, fN τ 0 k = fN τ0 0 k) → Sf sk L J V (f_Scribe_writePacked_11 F c f 1713 r 9 (nI (obL fs i).length) (nI ((obL fs i).map (pn1 fs)).sum) (nI ((obL fs i).map (pl1 fs)).sum) (nI i) (cH sk L τ)) := by
  intro d
  induction d with
  | zero =>
    intro i f τ hi hf hI hN
    obtain ⟨f, rfl⟩ : ∃ y, f = y + 1 := ⟨f - 1, by omega⟩
    obtain rfl : i = 64 := by omega
    unfold f_Scribe_writePacked_11
    rw [c_l (G9 hC.1) (by decide), bs, if_pos (nI_le (Nat.le_refl _) (by decide))]
    exact hT τ hI hN
  | succ d ih =>
    intro i f τ hi hf hI hN
    obtain ⟨f, rfl⟩ : ∃ y, f = y + 1 := ⟨f - 1, by omega⟩
    have hi64 : i < 64 := by omega
    have hCt := CV_SI hC hI
    have go := fun τ hI hN => ih (i + 1) f τ (by omega) (by omega) hI hN
    unfold f_Scribe_writePacked_11
    rw [c_l (G9 hC.1) (by decide), bs, if_neg (nI_ge hi64 (by decide)), c_aN (G9 hC.1) (Or.inl rfl) (by decide) hi64, bs, (hCt.2.1.2.1 _ hi64).2.2.1, k_isObject hC.1 hCt.2.2.2.1 hi64, xb_mk]
    cases hob : isOb fs i with
    | false =>
      rw [if_pos (show bI false = 0 from rfl)]
      unfold f_Scribe_writePacked_105
      rw [nI_add]
      rw [obL_f hob] at go
      exact go τ hI hN
    | true =>
      obtain ⟨o, n', b', eo, eV⟩ := isOb_t hob
      rw [if_neg (show ¬ bI true = 0 by decide), nI_add]
      rw [obL_t hob, sum_1, sum_1, List.length_append, List.length_singleton] at go
      have p1 : pn1 fs i = sumT (pkN (pkD b')) (pkM (oM b')) := by unfold pn1; rw [eV]
      have p2 : pl1 fs i = sumT (pkLb b') (pkM (oM b')) := by unfold pl1; rw [eV]
      rw [p1, p2] at go
      obtain ⟨m1, m2, m3⟩ := pkM_1 (oM b')
      have hM64 : oM b' ≤ 64 := by
        obtain ⟨_, _, e5, _, _, hd⟩ := CF_ob hC.2.2.2.1 eo
        have w := (hd rfl).2.2
        rw [e5] at w
        exact w2_M (eObj_0 w).1
      have hMx : pkM (oM b') ≤ 64 := by unfold pkM; split <;> omega
      have z0 : sumT (pkN (pkD b')) 1 = 0 := rfl
      have z1 : sumT (pkLb b') 1 = 0 := rfl
      have w := z_pk38 (F := F) (c := c) (r := r) (J := J) (V := V) (k11 := f_Scribe_writePacked_11 F c f) (a3 := nI ((obL fs i).length + 1)) (a6 := nI i) (N := ((obL fs i).map (pn1 fs)).sum) (Lt := ((obL fs i).map (pl1 fs)).sum) hF hC eo (fun τ hI hN => by rw [nI_add]; exact go τ hI hN) (pkM (oM b') - 1) 1 F τ (by omega) (Nat.le_refl _) (by omega) hI hN
      rw [z0, z1, Nat.add_zero, Nat.add_zero] at w
      exact w
end CPK
end
section
/-! pack of the class: what stands ahead of a member, with sizes (steps spelled out by sf/pp.py) -/
theorem wdN_c (v : Nat) : 1 ≤ wdN v ∧ wdN v ≤ 5 := by
  unfold wdN
  split
  · omega
  · split
    · omega
    · split
      · omega
      · split <;> omega
section CAH
variable {F : Nat} {c : px_CT} {sk : Nat → Nat × Nat × Nat} {L : Nat} {zb : Option Nat} {τ0 τ : px_TT} {r A n cc k p v : Nat}
theorem sz_fillp {j d : Nat} {w : Int32} (hF : 65540 < F) (hr : TRw r A n) (hd : 1 ≤ d) (hp : p ≤ 65536) (hj : j ≤ 64) (hcc : cc ≤ n → p + j = cc + d) (hI : SZ zb sk L τ0 r n cc τ) : Sf sk L (SZ zb sk L τ0 r n (cc + d)) Any (f_Row_fillTo F c r ((nI p + nI j).toInt64) w (cH sk L τ)) := by
  rw [nI_add, nI_l (by omega)]
  exact sz_Rw hI.1 hI.2.2 hr (k_fillToZ (by omega) (by omega) (SI_row hI.1 hr) hI.2.1 hd hcc)
theorem sz_ahead (hF : 65540 < F) (hr : TRw r A n) (hk : 1 ≤ k) (hk3 : k ≤ 3) (hp : p ≤ 65536) (hv : v ≤ 99999) (hcc : cc ≤ n → p + k = cc) (hI : SZ zb sk L τ0 r n cc τ) : Sf sk L (SZ zb sk L τ0 r n (cc + (60 - k))) Any (f_Scribe_writeAhead F c r (nI v) (nI p) (cH sk L τ)) := by
  have orr := (SI_row hI.1 hr).1
  have hb := wdN_c v
  unfold f_Scribe_writeAhead
  rw [c_o orr, bs]
  refine sz_x (sz_fillp (d := 48 - k) hF hr (by omega) hp (by decide) (fun w => by have := hcc w; omega) hI) (fun _ τ1 _ i1 => ?_)
  rw [c_o orr, bs]
  refine sz_x (sz_dec hF hr hv i1) (fun _ τ2 _ i2 => ?_)
  rw [c_o orr, bs]
  refine sz_x (sz_fillp (p := p) (d := 10 - wdN v) hF hr (by omega) hp (by decide) (fun w => by have := hcc (by omega); omega) i2) (fun _ τ3 _ i3 => ?_)
  rw [c_o orr, bs]
  refine sz_x (sz_put hF hr (by decide) i3) (fun _ τ4 _ i4 => ?_)
  rw [show cc + (60 - k) = cc + (48 - k) + wdN v + (10 - wdN v) + 2 by omega]
  exact sf_r any i4
end CAH
end
section
/-! the class packs: the index and the objects, with sizes (steps spelled out by sf/pp.py) -/
section SZE
variable {F : Nat} {c : px_CT} {sk : Nat → Nat × Nat × Nat} {L : Nat} {zb : Option Nat} {τ0 τ τ' : px_TT} {r A n cc k : Nat}
theorem sz_copy {S N q m : Nat} (hr : TRw r A n) (hS : ar sk L 0 N S) (hN : N ≤ 65536) (hB : ∀ k, isB (eI τ S k)) (hqm : q + m ≤ N) (hI : SZ zb sk L τ0 r n cc τ) : Sf sk L (SZ zb sk L τ0 r n (cc + m)) Any (f_Row_copy F c r S (nI q) (nI m) (cH sk L τ)) := sz_Rw hI.1 hI.2.2 hr (k_copyZ hS hN hB hqm (SI_row hI.1 hr) hI.2.1)
theorem k_putAll_2Z {j m : Nat} {l : List Nat} (hj : j < pg_nc) (hkB : ki_B (c j).1 = true) (hkv : kv c j l) (hl : l.length = m) (hm : m < 2 ^ 30) (hF : 1 < F) : ∀ (d i f : Nat) (τ : px_TT) (cc : Nat), i + d = m → d < f → rowOK sk L τ r A n → rz τ r n cc → ∃ τ', f_Row_putAll_2 F c f r j (nI i) (cH sk L τ) = some ((), cH sk L τ') ∧ rowOK sk L τ' r A n ∧ frRw r A τ τ' ∧ rz τ' r n (cc + d) := by
  intro d
  induction d with
  | zero =>
    intro i f τ cc hi hf h hz
    obtain ⟨f, rfl⟩ : ∃ x, f = x + 1 := ⟨f - 1, by omega⟩
    refine ⟨τ, ?_, h, frRw_refl, hz⟩
    unfold f_Row_putAll_2 f_Row_putAll_23
    rw [xkl_at hkv hj, bs, hl, if_pos (nI_le (by omega) (by omega))]
  | succ d ih =>
    intro i f τ cc hi hf h hz
    obtain ⟨f, rfl⟩ : ∃ x, f = x + 1 := ⟨f - 1, by omega⟩
    obtain ⟨τ1, a1, a2, a3, a4⟩ := k_putZ (F := F) (c := c) (v := (nI (l.getD i 0)).toInt64) (k := 1) hF (by decide) h hz
    obtain ⟨τ', g1, g2, g3, g4⟩ := ih (i + 1) f τ1 (cc + 1) (by omega) (by omega) a2 a4
    refine ⟨τ', ?_, g2, frRw_trans a3 g3, by rw [show cc + (d + 1) = cc + 1 + d by omega]; exact g4⟩
    unfold f_Row_putAll_2
    rw [xkl_at hkv hj, bs, hl, if_neg (nI_ge (by omega) (by omega)), xkB_at hkv hj hkB (by omega) (by omega), bs, c_o h.1, bs, a1, xb_mk, nI_add]
    exact g1
theorem sz_putAr (hK : KT c) (hF : 65540 < F) (hr : TRw r A n) (hI : SZ zb sk L τ0 r n cc τ) : Sf sk L (SZ zb sk L τ0 r n (cc + 8)) Any (f_Row_putAll F c r 1 (cH sk L τ)) := sz_Rw hI.1 hI.2.2 hr (k_putAll_2Z (by decide) hK.1.1 hK.1.2 rfl (by decide) (by omega) 8 0 F τ cc rfl (by omega) (SI_row hI.1 hr) hI.2.1)
end SZE
theorem nI_od (v : Nat) (hv : v < 2 ^ 31) : nI v &&& nI 1 = nI (v % 2) := pk_andN (by omega) 1 (by decide)
section CPV
variable {F : Nat} {c : px_CT} {sk : Nat → Nat × Nat × Nat} {L : Nat} {own : Nat → Nat × Nat} {τ0 τ : px_TT} {fs : List (Nat × (Nat → Nat))} {gs : List (List Nat × Int64)} {ws : List (List Nat)} {n : Nat} {b : Nat → Nat} {a : Int32} {Y : px_Y} {q o n' r A cc : Nat} {b' : Nat → Nat}
theorem z_isO (hC : CV sk L own τ0 fs gs ws n b a Y) (hq : q < 64) (hI : SI none sk L τ0 τ) : f_Scribe_isObject F c (some (10 + 2 * q)) (cH sk L τ) = some (bI (isOb fs q), cH sk L τ) := k_isObject hC.1 (CV_SI hC hI).2.2.2.1 hq
theorem z_ob56 (hC : CV sk L own τ0 fs gs ws n b a Y) (hob : obAt fs q = some (o, n', b', false)) (hI : SI none sk L τ0 τ) : q < 64 ∧ ob sk L 7 (10 + 2 * q) ∧ fI τ (10 + 2 * q) 5 = nI (bsO fs q) ∧ fI τ (10 + 2 * q) 6 = nI n' ∧ bsO fs q + n' ≤ 65536 ∧ (∀ k, isB (eI τ 8 k)) ∧ fI τ (10 + 2 * q) 11 = nI (oM b') := by
  obtain ⟨h64, _, e5, _, _, hd⟩ := CF_ob (CV_SI hC hI).2.2.2.1 hob
  have hD := (hd rfl).1
  obtain ⟨h1, _, _, _, _, h6, h7, h8, h9, h10⟩ := hD.1.1.1
  have h11 := hD.2.1.2.1
  rw [e5] at h11
  exact ⟨h64, h1, h7, h8, h9, h10, h11⟩
theorem z_M (hC : CV sk L own τ0 fs gs ws n b a Y) (hob : obAt fs q = some (o, n', b', false)) : pkM (oM b') ≤ 64 := by
  have hM64 : oM b' ≤ 64 := by
    obtain ⟨_, _, e5, _, _, hd⟩ := CF_ob hC.2.2.2.1 hob
    have w := (hd rfl).2.2
    rw [e5] at w
    exact w2_M (eObj_0 w).1
  unfold pkM
  split <;> omega
/-- an object's names in the index: where -/
theorem z_wi70 {J : px_TT → Prop} {k54 : Nat → Nat → Nat → Int32 → Int32 → Int32 → px_H → Option (Unit × px_H)} {a5 a6 : Int32} (hF : 65540 < F) (hC : CV sk L own τ0 fs gs ws n b a Y) (hob : obAt fs q = some (o, n', b', false)) (hr : TRw r A 65536) (hK : ∀ a6 τ, SZ none sk L τ0 r 65536 (cc + 4 * sumT (pkN (pkD b')) (pkM (oM b'))) τ → Sf sk L J Any (k54 1713 r 9 a5 a6 (nI (q + 1)) (cH sk L τ))) : ∀ (d j f : Nat) (τ : px_TT), j + d = pkM (oM b') → 1 ≤ j → d < f → SZ none sk L τ0 r 65536 (cc + 4 * sumT (pkN (pkD b')) j) τ → Sf sk L J Any (f_Scribe_writeIndex_70 F c k54 f 1713 r 9 a5 a6 (nI q) (some (10 + 2 * q)) (nI j) (cH sk L τ)) := by
  have hMx := z_M hC hob
  obtain ⟨m1, m2, m3⟩ := pkM_1 (oM b')
  have ht : isOb fs q = true := isOb_o hob
  intro d
  induction d with
  | zero =>
    intro j f τ hj h1 hf hI
    obtain ⟨f, rfl⟩ : ∃ y, f = y + 1 := ⟨f - 1, by omega⟩
    obtain rfl : j = pkM (oM b') := by omega
    obtain ⟨h64, o1, _, k6, _, _, k5⟩ := z_ob56 hC hob hI.1
    unfold f_Scribe_writeIndex_70 f_Scribe_writeIndex_110 f_Scribe_writeIndex_140
    rw [z_isO hC h64 hI.1, ht, xb_mk, if_neg (show ¬ bI true = 0 by decide), bs, C7g11 o1, bs, k5, if_pos (nI_le (by omega) (by omega)), z_isO hC h64 hI.1, ht, xb_mk, if_neg (show ¬ bI true = 0 by decide), bs, C7g6 o1, bs, bs, nI_add q 1]
    exact hK _ τ hI
  | succ d ih =>
    intro j f τ hj h1 hf hI
    obtain ⟨f, rfl⟩ : ∃ y, f = y + 1 := ⟨f - 1, by omega⟩
    have hjM := m3 j h1 (by omega)
    obtain ⟨h64, o1, _, k6, _, _, k5⟩ := z_ob56 hC hob hI.1
    have kd := z_def (F := F) (c := c) hF hC hob h1 hjM hI.1
    have e5 : sumT (pkN (pkD b')) (j + 1) = sumT (pkN (pkD b')) j + pkN (pkD b') j := rfl
    have go := fun τ hI => ih (j + 1) f τ (by omega) (by omega) (by omega) hI
    rw [e5] at go
    have orr := (SI_row hI.1 hr).1
    unfold f_Scribe_writeIndex_70 f_Scribe_writeIndex_104
    rw [z_isO hC h64 hI.1, ht, xb_mk, if_neg (show ¬ bI true = 0 by decide), bs, C7g11 o1, bs, k5, if_neg (nI_ge (by omega) (by omega)), c_o o1, bs, kd, xb_mk]
    cases hD : pkD b' j with
    | false =>
      rw [if_pos (show bI false = 0 from rfl), nI_add]
      rw [pkN_f hD] at go
      exact go τ hI
    | true =>
      rw [if_neg (show ¬ bI true = 0 by decide), c_o orr, bs]
      rw [pkN_t h1 hD, Nat.mul_add, ← Nat.add_assoc] at go
      refine sz_x (sz_high hF hr hI) (fun _ τ1 _ i1 => ?_)
      rw [nI_add]
      exact go τ1 i1
/-- no object there -/
theorem z_wi70n {J : px_TT → Prop} {k54 : Nat → Nat → Nat → Int32 → Int32 → Int32 → px_H → Option (Unit × px_H)} {a5 a6 : Int32} {f j : Nat} (hf : 0 < f) (hC : CV sk L own τ0 fs gs ws n b a Y) (hq : q < 64) (hn : isOb fs q = false) (hI : SI none sk L τ0 τ) (hK : ∀ a6, Sf sk L J Any (k54 1713 r 9 a5 a6 (nI (q + 1)) (cH sk L τ))) : Sf sk L J Any (f_Scribe_writeIndex_70 F c k54 f 1713 r 9 a5 a6 (nI q) (some (10 + 2 * q)) (nI j) (cH sk L τ)) := by
  obtain ⟨f, rfl⟩ : ∃ y, f = y + 1 := ⟨f - 1, by omega⟩
  unfold f_Scribe_writeIndex_70 f_Scribe_writeIndex_110 f_Scribe_writeIndex_140
  rw [z_isO hC hq hI, hn, xb_mk, if_pos (show bI false = 0 from rfl), z_isO hC hq hI, hn, xb_mk, if_pos (show bI false = 0 from rfl), nI_add q 1]
  exact hK _
theorem z_wi54 {J : px_TT → Prop} {a5 : Int32} (hF : 65540 < F) (hC : CV sk L own τ0 fs gs ws n b a Y) (hr : TRw r A 65536) (hT : ∀ τ, SZ none sk L τ0 r 65536 (cc + 4 * ((obL fs 64).map (pn1 fs)).sum) τ → Sf sk L J Any (f_Scribe_writeIndex_149 F c 1713 r 9 a5 (cH sk L τ))) : ∀ (d i f : Nat) (a6 : Int32) (τ : px_TT), i + d = 64 → d < f → SZ none sk L τ0 r 65536 (cc + 4 * ((obL fs i).map (pn1 fs)).sum) τ → Sf sk L J Any (f_Scribe_writeIndex_54 F c f 1713 r 9 a5 a6 (nI i) (cH sk L τ)) := by
  intro d
  induction d with
  | zero =>
    intro i f a6 τ hi hf hI
    obtain ⟨f, rfl⟩ : ∃ y, f = y + 1 := ⟨f - 1, by omega⟩
    obtain rfl : i = 64 := by omega
    unfold f_Scribe_writeIndex_54
    rw [c_l (G9 hC.1) (by decide), bs, if_pos (nI_le (Nat.le_refl _) (by decide))]
    exact hT τ hI
  | succ d ih =>
    intro i f a6 τ hi hf hI
    obtain ⟨f, rfl⟩ : ∃ y, f = y + 1 := ⟨f - 1, by omega⟩
    have hi64 : i < 64 := by omega
    have hCt := CV_SI hC hI.1
    have go := fun a6 τ hI => ih (i + 1) f a6 τ (by omega) (by omega) hI
    unfold f_Scribe_writeIndex_54
    rw [c_l (G9 hC.1) (by decide), bs, if_neg (nI_ge hi64 (by decide)), c_aN (G9 hC.1) (Or.inl rfl) (by decide) hi64, bs, (hCt.2.1.2.1 _ hi64).2.2.1]
    cases hob : isOb fs i with
    | false =>
      rw [obL_f hob] at go
      exact z_wi70n (by omega) hC hi64 hob hI.1 (fun a6 => go a6 τ hI)
    | true =>
      obtain ⟨o, n', b', eo, eV⟩ := isOb_t hob
      rw [obL_t hob, sum_1] at go
      have p1 : pn1 fs i = sumT (pkN (pkD b')) (pkM (oM b')) := by unfold pn1; rw [eV]
      rw [p1, Nat.mul_add, ← Nat.add_assoc] at go
      obtain ⟨m1, m2, m3⟩ := pkM_1 (oM b')
      have hMx := z_M hC eo
      have z0 : sumT (pkN (pkD b')) 1 = 0 := rfl
      refine z_wi70 (cc := cc + 4 * ((obL fs i).map (pn1 fs)).sum) hF hC eo hr go (pkM (oM b') - 1) 1 F τ (by omega) (Nat.le_refl _) (by omega) ?_
      rw [z0]
      exact hI
/-- an object's names in the index: their letters -/
theorem z_wi168 {J : px_TT → Prop} {k152 : Nat → Nat → Nat → Int32 → Int32 → px_H → Option (Unit × px_H)} {a5 : Int32} (hF : 65540 < F) (hC : CV sk L own τ0 fs gs ws n b a Y) (hob : obAt fs q = some (o, n', b', false)) (hr : TRw r A 65536) (hK : ∀ τ, SZ none sk L τ0 r 65536 (cc + sumT (pkLb b') (pkM (oM b'))) τ → Sf sk L J Any (k152 1713 r 9 a5 (nI (q + 1)) (cH sk L τ))) : ∀ (d j f : Nat) (τ : px_TT), j + d = pkM (oM b') → 1 ≤ j → d < f → SZ none sk L τ0 r 65536 (cc + sumT (pkLb b') j) τ → Sf sk L J Any (f_Scribe_writeIndex_168 F c k152 f 1713 r 9 a5 (nI q) (some (10 + 2 * q)) (nI j) (cH sk L τ)) := by
  have h0 := (CV_S4 hC).1.1.1
  have o13 := G1713 hC.1
  have o47 := G147 hC.1
  have o95 : ob sk L 5 1695 := GS_o hC.1 (by decide) (by decide)
  have hrne : r ≠ 1695 := by
    unfold TRw at hr
    omega
  have hMx := z_M hC hob
  obtain ⟨m1, m2, m3⟩ := pkM_1 (oM b')
  have ht : isOb fs q = true := isOb_o hob
  intro d
  induction d with
  | zero =>
    intro j f τ hj h1 hf hI
    obtain ⟨f, rfl⟩ : ∃ y, f = y + 1 := ⟨f - 1, by omega⟩
    obtain rfl : j = pkM (oM b') := by omega
    obtain ⟨h64, o1, _, k6, _, _, k5⟩ := z_ob56 hC hob hI.1
    unfold f_Scribe_writeIndex_168 f_Scribe_writeIndex_240
    rw [z_isO hC h64 hI.1, ht, xb_mk, if_neg (show ¬ bI true = 0 by decide), bs, C7g11 o1, bs, k5, if_pos (nI_le (by omega) (by omega)), nI_add q 1]
    exact hK τ hI
  | succ d ih =>
    intro j f τ hj h1 hf hI
    obtain ⟨f, rfl⟩ : ∃ y, f = y + 1 := ⟨f - 1, by omega⟩
    have hjM := m3 j h1 (by omega)
    obtain ⟨h64, o1, _, _, _, _, k5⟩ := z_ob56 hC hob hI.1
    obtain ⟨_, _, _, _, _, P, e4, hn⟩ := z_sym (F := F) (c := c) hF hC hob h1 hjM hI.1
    have kd := z_def (F := F) (c := c) hF hC hob h1 hjM hI.1
    have e5 : sumT (pkLb b') (j + 1) = sumT (pkLb b') j + pkLb b' j := rfl
    have go := fun τ hI => ih (j + 1) f τ (by omega) (by omega) (by omega) hI
    rw [e5] at go
    have orr := (SI_row hI.1 hr).1
    unfold f_Scribe_writeIndex_168 f_Scribe_writeIndex_234
    rw [z_isO hC h64 hI.1, ht, xb_mk, if_neg (show ¬ bI true = 0 by decide), bs, C7g11 o1, bs, k5, if_neg (nI_ge (by omega) (by omega)), c_o o1, bs, kd, xb_mk]
    cases hD : pkD b' j with
    | false =>
      rw [if_pos (show bI false = 0 from rfl), nI_add]
      rw [show pkLb b' j = 0 by unfold pkLb; rw [if_neg (by omega), if_neg (by rw [hD]; decide)]] at go
      exact go τ hI
    | true =>
      have hB : yB b' j ≠ 0 := fun w => (of_decide_eq_true hD) (Or.inl w)
      obtain ⟨⟨y1, y2⟩, τ5, e5', f5, l5⟩ := hn hB
      have hR := GR_Z h0.2.1 hI.1.1
      have i5 : SZ none sk L τ0 r 65536 (cc + sumT (pkLb b') j) τ5 := ⟨SI_N hI.1 f5 (Or.inr rfl), rz_fr hI.2.1 (fun k => f5.1 r k (Or.inl hrne)), fun k => (f5.2.2.1 0 k).trans (hI.2.2 k)⟩
      have hR5 := GR_Z h0.2.1 i5.1.1
      rw [if_neg (show ¬ bI true = 0 by decide)]
      rw [show pkLb b' j = yL b' j + 1 by unfold pkLb; rw [if_neg (by omega), if_pos hD], ← Nat.add_assoc, ← Nat.add_assoc] at go
      rw [C11r0 o13 (GR_r (v := 147) hR (by decide)), bs, C3r11 o47 (GR_r (v := 1695) hR (by decide)), bs, C11r2 o13 (GR_r (v := 7) hR (by decide)), bs, c_o o1, bs, e4, xb_mk, c_o o95, bs, e5', xb_mk, C11r0 o13 (GR_r (v := 147) hR5 (by decide)), bs, C3r11 o47 (GR_r (v := 1695) hR5 (by decide)), bs, c_o o95, bs]
      refine sz_x (sz_wto hF hr o95 (Ne.symm hrne) (by omega) l5 i5) (fun _ τ6 _ i6 => ?_)
      rw [c_o orr, bs]
      refine sz_x (sz_put hF hr (by decide) i6) (fun _ τ7 _ i7 => ?_)
      rw [nI_add]
      exact go τ7 i7
theorem z_wi168n {J : px_TT → Prop} {k152 : Nat → Nat → Nat → Int32 → Int32 → px_H → Option (Unit × px_H)} {a5 : Int32} {f j : Nat} (hf : 0 < f) (hC : CV sk L own τ0 fs gs ws n b a Y) (hq : q < 64) (hn : isOb fs q = false) (hI : SI none sk L τ0 τ) (hK : Sf sk L J Any (k152 1713 r 9 a5 (nI (q + 1)) (cH sk L τ))) : Sf sk L J Any (f_Scribe_writeIndex_168 F c k152 f 1713 r 9 a5 (nI q) (some (10 + 2 * q)) (nI j) (cH sk L τ)) := by
  obtain ⟨f, rfl⟩ : ∃ y, f = y + 1 := ⟨f - 1, by omega⟩
  unfold f_Scribe_writeIndex_168 f_Scribe_writeIndex_240
  rw [z_isO hC hq hI, hn, xb_mk, if_pos (show bI false = 0 from rfl), nI_add q 1]
  exact hK
theorem z_wi152 {v : Nat} (hF : 65540 < F) (hv : v < 2 ^ 31) (hC : CV sk L own τ0 fs gs ws n b a Y) (hr : TRw r A 65536) : ∀ (d i f : Nat) (τ : px_TT), i + d = 64 → d < f → SZ none sk L τ0 r 65536 (cc + ((obL fs i).map (pl1 fs)).sum) τ → Sf sk L (SZ none sk L τ0 r 65536 (cc + ((obL fs 64).map (pl1 fs)).sum + v % 2)) Any (f_Scribe_writeIndex_152 F c f 1713 r 9 (nI v) (nI i) (cH sk L τ)) := by
  intro d
  induction d with
  | zero =>
    intro i f τ hi hf hI
    obtain ⟨f, rfl⟩ : ∃ y, f = y + 1 := ⟨f - 1, by omega⟩
    obtain rfl : i = 64 := by omega
    have orr := (SI_row hI.1 hr).1
    unfold f_Scribe_writeIndex_152 f_Scribe_writeIndex_246 f_Scribe_writeIndex_262
    rw [c_l (G9 hC.1) (by decide), bs, if_pos (nI_le (Nat.le_refl _) (by decide)), nI_od v hv]
    by_cases c2 : v % 2 = 1
    · rw [if_pos (by rw [c2]), c_o orr, bs, c2]
      exact sz_x (sz_put hF hr (by decide) hI) (fun _ τ7 _ i7 => sf_r any i7)
    · rw [if_neg (fun w => c2 ((nI_eq (by omega) (by decide)).mp w)), show v % 2 = 0 by omega, Nat.add_zero]
      exact sf_r any hI
  | succ d ih =>
    intro i f τ hi hf hI
    obtain ⟨f, rfl⟩ : ∃ y, f = y + 1 := ⟨f - 1, by omega⟩
    have hi64 : i < 64 := by omega
    have hCt := CV_SI hC hI.1
    have go := fun τ hI => ih (i + 1) f τ (by omega) (by omega) hI
    unfold f_Scribe_writeIndex_152
    rw [c_l (G9 hC.1) (by decide), bs, if_neg (nI_ge hi64 (by decide)), c_aN (G9 hC.1) (Or.inl rfl) (by decide) hi64, bs, (hCt.2.1.2.1 _ hi64).2.2.1]
    cases hob : isOb fs i with
    | false =>
      rw [obL_f hob] at go
      exact z_wi168n (by omega) hC hi64 hob hI.1 (go τ hI)
    | true =>
      obtain ⟨o, n', b', eo, eV⟩ := isOb_t hob
      rw [obL_t hob, sum_1] at go
      have p1 : pl1 fs i = sumT (pkLb b') (pkM (oM b')) := by unfold pl1; rw [eV]
      rw [p1, ← Nat.add_assoc] at go
      obtain ⟨m1, m2, m3⟩ := pkM_1 (oM b')
      have hMx := z_M hC eo
      have z0 : sumT (pkLb b') 1 = 0 := rfl
      refine z_wi168 (cc := cc + ((obL fs i).map (pl1 fs)).sum) hF hC eo hr go (pkM (oM b') - 1) 1 F τ (by omega) (Nat.le_refl _) (by omega) ?_
      rw [z0]
      exact hI
/-- the index -/
theorem z_index {N Lt : Nat} (hF : 65540 < F) (hC : CV sk L own τ0 fs gs ws n b a Y) (hr : TRw r A 65536) (eN' : ((obL fs 64).map (pn1 fs)).sum = N) (eL' : ((obL fs 64).map (pl1 fs)).sum = Lt) (hv : 4 + 4 * N + Lt ≤ 99999) (hI : SZ none sk L τ0 r 65536 8 τ) : Sf sk L (SZ none sk L τ0 r 65536 (68 + (4 + 4 * N + Lt + (4 + 4 * N + Lt) % 2))) Any (f_Scribe_writeIndex F c 1713 r 9 (nI N) (nI Lt) (cH sk L τ)) := by
  have orr := (SI_row hI.1 hr).1
  have em : nI 4 * nI N = nI (4 * N) := (Int32.ofNat_mul 4 N).symm
  unfold f_Scribe_writeIndex
  rw [em, nI_add, nI_add, c_o orr, bs]
  refine sz_x (sz_put hF hr (by decide) hI) (fun _ τ1 _ i1 => ?_)
  rw [C10g1 orr, bs, (i1.2.1.1 (by decide)).1, show nI (8 + 1) - nI 1 = nI 8 from rfl]
  refine sz_x (sz_ahead (k := 1) (p := 8) hF hr (by decide) (by decide) (by decide) hv (fun _ => rfl) i1) (fun _ τ2 _ i2 => ?_)
  rw [c_o orr, bs]
  refine sz_x (sz_high hF hr i2) (fun _ τ3 _ i3 => ?_)
  rw [C10g1 orr, bs]
  have o0 : ((obL fs 0).map (pn1 fs)).sum = 0 := rfl
  have o1 : ((obL fs 0).map (pl1 fs)).sum = 0 := rfl
  refine z_wi54 (cc := 72) hF hC hr (fun τ4 i4 => ?_) 64 0 F _ τ3 rfl (by omega) (by rw [o0]; exact i3)
  unfold f_Scribe_writeIndex_149
  rw [eN'] at i4
  have w := z_wi152 (cc := 72 + 4 * N) (v := 4 + 4 * N + Lt) (c := c) hF (by omega) hC hr 64 0 F τ4 rfl (by omega) (by rw [o1]; exact i4)
  rw [eL', show 72 + 4 * N + Lt + (4 + 4 * N + Lt) % 2 = 68 + (4 + 4 * N + Lt + (4 + 4 * N + Lt) % 2) by omega] at w
  exact w
/-- the objects -/
theorem z_wo5 (hF : 65540 < F) (hC : CV sk L own τ0 fs gs ws n b a Y) (hr : TRw r A 65536) : ∀ (d i f : Nat) (a3 : Int32) (τ : px_TT), i + d = 64 → d < f → SZ none sk L τ0 r 65536 (cc + ((obL fs i).map (pz1 fs)).sum) τ → Sf sk L (SZ none sk L τ0 r 65536 (cc + ((obL fs 64).map (pz1 fs)).sum)) Any (f_Scribe_writeObjects_5 F c f 1713 r 9 a3 (nI i) (cH sk L τ)) := by
  have h0 := (CV_S4 hC).1.1.1
  have o13 := G1713 hC.1
  intro d
  induction d with
  | zero =>
    intro i f a3 τ hi hf hI
    obtain ⟨f, rfl⟩ : ∃ y, f = y + 1 := ⟨f - 1, by omega⟩
    obtain rfl : i = 64 := by omega
    unfold f_Scribe_writeObjects_5 f_Scribe_writeObjects_118
    rw [c_l (G9 hC.1) (by decide), bs, if_pos (nI_le (Nat.le_refl _) (by decide))]
    exact sf_r any hI
  | succ d ih =>
    intro i f a3 τ hi hf hI
    obtain ⟨f, rfl⟩ : ∃ y, f = y + 1 := ⟨f - 1, by omega⟩
    have hi64 : i < 64 := by omega
    have hCt := CV_SI hC hI.1
    have go := fun a3 τ hI => ih (i + 1) f a3 τ (by omega) (by omega) hI
    have orr := (SI_row hI.1 hr).1
    unfold f_Scribe_writeObjects_5 f_Scribe_writeObjects_109 f_Scribe_writeObjects_112
    rw [c_l (G9 hC.1) (by decide), bs, if_neg (nI_ge hi64 (by decide)), c_aN (G9 hC.1) (Or.inl rfl) (by decide) hi64, bs, (hCt.2.1.2.1 _ hi64).2.2.1, z_isO hC hi64 hI.1, xb_mk]
    cases hob : isOb fs i with
    | false =>
      rw [obL_f hob] at go
      rw [if_pos (show bI false = 0 from rfl), nI_add i 1]
      exact go a3 τ hI
    | true =>
      obtain ⟨o, n', b', eo, eV⟩ := isOb_t hob
      rw [obL_t hob, sum_1] at go
      have p1 : pz1 fs i = 60 + n' + n' % 2 := by unfold pz1; rw [eV]; rfl
      rw [p1] at go
      have hsz := (SI_row hI.1 hr).2.2.2.2.1
      generalize hcc : cc + ((obL fs i).map (pz1 fs)).sum = c0 at *
      have go' : ∀ (a3 : Int32) (τ : px_TT), SZ none sk L τ0 r 65536 (c0 + 60 + n' + n' % 2) τ → Sf sk L (SZ none sk L τ0 r 65536 (cc + ((obL fs 64).map (pz1 fs)).sum)) Any (f_Scribe_writeObjects_5 F c f 1713 r 9 a3 (nI (i + 1)) (cH sk L τ)) := fun a3 τ w => go a3 τ (by rw [← Nat.add_assoc, hcc, ← Nat.add_assoc, ← Nat.add_assoc]; exact w)
      obtain ⟨z, hz, ez⟩ := hsz
      rw [if_neg (show ¬ bI true = 0 by decide), C10g1 orr, bs, c_o orr, bs]
      refine sz_x (sz_put hF hr (by decide) hI) (fun _ τ1 _ i1 => ?_)
      rw [c_o orr, bs]
      refine sz_x (sz_put hF hr (by decide) i1) (fun _ τ2 _ i2 => ?_)
      rw [c_o orr, bs]
      refine sz_x (sz_put hF hr (by decide) i2) (fun _ τ3 _ i3 => ?_)
      obtain ⟨_, q1, _, q6, q9, _, _⟩ := z_ob56 hC eo i3.1
      rw [bs, C7g6 q1, bs, q6, ez]
      refine sz_x (sz_ahead (k := 3) (p := z) hF hr (by decide) (by decide) hz (by omega) (fun w => by have e := rz_z hI.2.1 (Nat.le_refl _) hz ez (by omega); omega) i3) (fun _ τ4 _ i4 => ?_)
      obtain ⟨_, _, s5, s6, _, s8, _⟩ := z_ob56 hC eo i4.1
      have hR4 : GR τ4 := GR_Z h0.2.1 i4.1.1
      rw [C11r2 o13 (GR_r (v := 7) hR4 (by decide)), bs, C10r0 (G7 hC.1) (R7_0 hR4), bs, C7g5 q1, bs, s5, C7g6 q1, bs, s6, c_o orr, bs]
      refine sz_x (sz_copy hr (G8 hC.1) (Nat.le_refl _) s8 q9 i4) (fun _ τ5 _ i5 => ?_)
      obtain ⟨_, _, _, s6', _, _, _⟩ := z_ob56 hC eo i5.1
      rw [show c0 + 1 + 1 + 1 + (60 - 3) + n' = c0 + 60 + n' by omega] at i5
      rw [C7g6 q1, bs, s6', nI_od n' (by omega)]
      by_cases c2 : n' % 2 = 1
      · rw [if_pos (by rw [c2]), c_o orr, bs]
        refine sz_x (sz_put hF hr (by decide) i5) (fun _ τ6 _ i6 => ?_)
        rw [nI_add i 1]
        exact go' _ τ6 (by rw [c2]; exact i6)
      · rw [if_neg (fun w => c2 ((nI_eq (by omega) (by decide)).mp w)), nI_add i 1]
        exact go' _ τ5 (by rw [show n' % 2 = 0 by omega]; exact i5)
end CPV
end
section
/-! pack of the class and of the reference: the same answer (steps spelled out by sf/pp.py) -/
theorem sum_bK (g : Nat → Nat) (K : Nat) : ∀ l : List Nat, (∀ q, q ∈ l → g q ≤ K) → (l.map g).sum ≤ K * l.length := by
  intro l
  induction l with
  | nil => intro _; exact Nat.zero_le _
  | cons x l ih =>
    intro h
    have h1 := h x (List.mem_cons_self ..)
    have h2 := ih (fun q hq => h q (List.mem_cons_of_mem _ hq))
    rw [List.map_cons, List.sum_cons, List.length_cons, Nat.mul_add]
    omega
theorem sumT_bK (g : Nat → Nat) (K : Nat) : ∀ M, (∀ j, j < M → g j ≤ K) → sumT g M ≤ K * M := by
  intro M
  induction M with
  | zero => intro _; exact Nat.zero_le _
  | succ M ih =>
    intro h
    have h1 := h M (by omega)
    have h2 := ih (fun j hj => h j (by omega))
    have e : sumT g (M + 1) = sumT g M + g M := rfl
    rw [e, Nat.mul_add]
    omega
/-- how many bytes a pack has -/
def pkT (fs : px_FS) : Nat := 68 + ((obL fs 64).map (pz1 fs)).sum + (4 + 4 * ((obL fs 64).map (pn1 fs)).sum + ((obL fs 64).map (pl1 fs)).sum + (4 + 4 * ((obL fs 64).map (pn1 fs)).sum + ((obL fs 64).map (pl1 fs)).sum) % 2)
def pkO (fs : px_FS) : Bool := decide ((obL fs 64).length ≤ 7) && decide (pkT fs ≤ 8192)
theorem pkR_e (fs : px_FS) : pkR fs = if pkO fs = true then nI (pkT fs) else Int32.ofInt (-1) := by
  unfold pkR pkO pkA
  by_cases c1 : (obL fs 64).length ≤ 7
  · rw [if_pos c1, decide_eq_true c1, Bool.true_and]
    show (if pkT fs ≤ 8192 then nI (pkT fs) else Int32.ofInt (-1)) = _
    by_cases c2 : pkT fs ≤ 8192
    · rw [if_pos c2, if_pos (decide_eq_true c2)]
    · rw [if_neg c2, if_neg (by rw [decide_eq_false c2]; decide)]
  · rw [if_neg c1, decide_eq_false c1, Bool.false_and, if_neg (by decide)]
section BPK
variable {F : Nat} {c : px_CT} {sk : Nat → Nat × Nat × Nat} {L : Nat} {own : Nat → Nat × Nat} {τ0 τ : px_TT} {fs : List (Nat × (Nat → Nat))} {gs : List (List Nat × Int64)} {ws : List (List Nat)} {n : Nat} {b : Nat → Nat} {a : Int32} {Y : px_Y} {q r A : Nat}
theorem z_pnl (c : px_CT) (hF : 65540 < F) (hC : CV sk L own τ0 fs gs ws n b a Y) (hob : isOb fs q = true) : pn1 fs q ≤ 64 ∧ pl1 fs q ≤ 1344 := by
  obtain ⟨o, n', b', eo, eV⟩ := isOb_t hob
  have hMx := z_M hC eo
  obtain ⟨m1, m2, m3⟩ := pkM_1 (oM b')
  unfold pn1 pl1
  rw [eV]
  dsimp only
  refine ⟨Nat.le_trans (sumT_bK _ 1 _ (fun j _ => ?_)) (by omega), Nat.le_trans (sumT_bK _ 21 _ (fun j hj => ?_)) (by omega)⟩
  · unfold pkN
    split
    · omega
    · split <;> omega
  · unfold pkLb
    by_cases c0 : j = 0
    · rw [if_pos c0]; exact Nat.zero_le _
    · rw [if_neg c0]
      by_cases c1 : pkD b' j = true
      · have hB : yB b' j ≠ 0 := fun w => (of_decide_eq_true c1) (Or.inl w)
        obtain ⟨_, _, _, _, _, P, _, hn⟩ := z_sym (F := F) (c := c) (j := j) hF hC eo (by omega) (m3 j (by omega) hj) (SI_self hC)
        obtain ⟨⟨_, y2⟩, _⟩ := hn hB
        rw [if_pos c1]
        omega
      · rw [if_neg c1]; exact Nat.zero_le _
theorem z_pv (c : px_CT) (hF : 65540 < F) (hC : CV sk L own τ0 fs gs ws n b a Y) (c7 : (obL fs 64).length ≤ 7) : 4 + 4 * ((obL fs 64).map (pn1 fs)).sum + ((obL fs 64).map (pl1 fs)).sum ≤ 99999 := by
  have hm : ∀ q, q ∈ obL fs 64 → isOb fs q = true := fun q hq => by
    obtain ⟨i, hi⟩ := List.getElem?_of_mem hq
    exact (obL_ob fs 64 i q hi).1
  have h1 := sum_bK (pn1 fs) 64 (obL fs 64) (fun q hq => (z_pnl c hF hC (hm q hq)).1)
  have h2 := sum_bK (pl1 fs) 1344 (obL fs 64) (fun q hq => (z_pnl c hF hC (hm q hq)).2)
  omega
theorem z_wp111 (hK : KT c) (hF : 65540 < F) (hC : CV sk L own τ0 fs gs ws n b a Y) (hr : TRw r A 65536) (hI : SI none sk L τ0 τ) (hN : ∀ k, fN τ 0 k = fN τ0 0 k) : Sf sk L (fun τ => SI none sk L τ0 τ ∧ (∀ k, fN τ 0 k = fN τ0 0 k) ∧ (pkO fs = true → fI τ r 1 = nI (pkT fs))) (fun v => v = bI (pkO fs)) (f_Scribe_writePacked_111 F c 1713 r 9 (nI (obL fs 64).length) (nI ((obL fs 64).map (pn1 fs)).sum) (nI ((obL fs 64).map (pl1 fs)).sum) (cH sk L τ)) := by
  have orr := (SI_row hI hr).1
  have o13 := G1713 hC.1
  have hlen := obL_len fs 64
  unfold f_Scribe_writePacked_111 f_Scribe_writePacked_167 f_Scribe_writePacked_168
  by_cases c7 : (obL fs 64).length ≤ 7
  · rw [if_pos (nI_le c7 (by decide)), c_o orr, bs]
    refine sz_x (sz_clear hI hN hr) (fun _ τ1 _ i1 => ?_)
    rw [c_o orr, bs]
    refine sz_x (sz_putAr hK hF hr i1) (fun _ τ2 _ i2 => ?_)
    rw [c_o o13, bs]
    refine sz_x (z_index hF hC hr rfl rfl (z_pv c hF hC c7) i2) (fun _ τ3 _ i3 => ?_)
    rw [c_o o13, bs]
    have o1 : ((obL fs 0).map (pz1 fs)).sum = 0 := rfl
    unfold f_Scribe_writeObjects
    refine sz_x (z_wo5 hF hC hr 64 0 F (nI 0) τ3 rfl (by omega) (by rw [o1]; exact i3)) (fun _ τ4 _ i4 => ?_)
    have eT : 68 + (4 + 4 * ((obL fs 64).map (pn1 fs)).sum + ((obL fs 64).map (pl1 fs)).sum + (4 + 4 * ((obL fs 64).map (pn1 fs)).sum + ((obL fs 64).map (pl1 fs)).sum) % 2) + ((obL fs 64).map (pz1 fs)).sum = pkT fs := by unfold pkT; omega
    have i4 : SZ none sk L τ0 r 65536 (pkT fs) τ4 := by rw [← eT]; exact i4
    have eO : pkO fs = decide (pkT fs ≤ 8192) := by unfold pkO; rw [decide_eq_true c7, Bool.true_and]
    rw [eO, C10g2 orr, bs]
    by_cases cT : pkT fs ≤ 65536
    · obtain ⟨s1, s2⟩ := i4.2.1.1 cT
      rw [s2, if_pos (show bI false = 0 from rfl), C10g1 orr, bs, s1]
      by_cases c8 : pkT fs ≤ 8192
      · rw [if_neg (fun w => by have := (nI_ltI (by omega) (by omega)).mp w; omega), decide_eq_true c8]
        exact ⟨_, τ4, xz_b true _, rfl, i4.1, i4.2.2, fun _ => s1⟩
      · rw [if_pos ((nI_ltI (by omega) (by omega)).mpr (by omega)), decide_eq_false c8]
        exact ⟨_, τ4, xz_b false _, rfl, i4.1, i4.2.2, fun w => by cases w⟩
    · rw [i4.2.1.2 (by omega), if_neg (show ¬ bI true = 0 by decide), decide_eq_false (by omega)]
      exact ⟨_, τ4, xz_b false _, rfl, i4.1, i4.2.2, fun w => by cases w⟩
  · have eO : pkO fs = false := by unfold pkO; rw [decide_eq_false c7, Bool.false_and]
    rw [if_neg (nI_ge (a := 7) (by omega) (by omega)), eO]
    exact ⟨_, τ, rfl, rfl, hI, hN, fun w => by cases w⟩
theorem CV_rd (hC : CV sk L own τ fs gs ws n b a Y) : ∃ rd A, TRw rd A 65536 ∧ fN τ 0 2 = some rd := by
  obtain ⟨ro, rd, hc, _, e1⟩ := (SI_self hC).2.2.1.1
  rcases hc with ⟨_, rfl⟩ | ⟨_, rfl⟩
  · exact ⟨5, 6, Or.inr (Or.inl ⟨rfl, rfl, rfl⟩), e1⟩
  · exact ⟨3, 4, Or.inl ⟨rfl, rfl, rfl⟩, e1⟩
/-- what is published has the draft's size -/
theorem z_publish (hC : CV sk L own τ0 fs gs ws n b a Y) (hI : SI none sk L τ0 τ) (h2 : fN τ 0 2 = some r) (orr : ob sk L 10 r) : ∃ τ', f_H_publishDraft F c 0 (cH sk L τ) = some (fI τ r 1, cH sk L τ') ∧ SI none sk L τ0 τ' := by
  obtain ⟨v, τ', e, _, i⟩ := sf_publish (F := F) (c := c) (CV_S4 hC).1.1.1 hI
  refine ⟨τ', ?_, i⟩
  rw [e]
  obtain ⟨ro, rd, hc, e1, e2⟩ := hI.2.2.1.1
  have er : rd = r := by rw [e2] at h2; injection h2
  subst er
  have o0 := G0 hC.1
  unfold f_H_publishDraft at e
  have x1 : fN (tN (tN τ 0 1 (some rd)) 0 2 (some ro)) 0 1 = some rd := by
    rw [fN_tN, if_neg (by omega), fN_tN, if_pos ⟨rfl, rfl⟩]
  rw [C0r1 o0 e1, bs, C0r2 o0 e2, bs, C0v1 o0, bs, C0v2 o0, bs, C0r1 o0 x1, bs, C10g1 orr, bs] at e
  injection e with e
  injection e with e _
  rw [← e]
  rfl
/-- pack of the class, pack of the reference -/
theorem Bx_pack {σ : px_S} {k N : Nat} (hK : KT c) (hF : 65540 < F) (hC : CV sk L own τ fs gs ws n b a Y) (hR : RV σ fs gs ws n b a Y) (hm : RMk sk L (k + 210)) (hN : n + (fs.map Prod.fst).sum ≤ N) : BT (fun (v w : Int32) _ => v = w) (fun _ _ => False) sk L τ k N (f_H_pack F c 0 (cH sk L τ)) none (fun h => f_M_pack F 1726 (mh 1726 h σ)) := by
  obtain ⟨rd, A, hT, e2⟩ := CV_rd hC
  have orr := (SI_row (SI_self hC) hT).1
  have w := z_pk11 (F := F) (c := c) (r := rd) hF hC (fun τ hI hN => z_wp111 hK hF hC hT hI hN) 64 0 F τ rfl (by omega) (SI_self hC) (fun _ => rfl)
  obtain ⟨v, τ1, e1, hv, i1, n1, s1⟩ := w
  have e1' : f_Scribe_writePacked F c 1713 rd 9 (cH sk L τ) = some (v, cH sk L τ1) := e1
  have key : ∃ τ2, f_H_pack F c 0 (cH sk L τ) = some (pkR fs, cH sk L τ2) ∧ SI none sk L τ τ2 := by
    unfold f_H_pack
    rw [C0r15 (G0 hC.1) (GR_r (v := 1713) hC.2.1 (by decide)), bs, C0r2 (G0 hC.1) e2, bs, C0r4 (G0 hC.1) (R0_4 hC.2.1), bs, c_o (G1713 hC.1), bs, e1', xb_mk, hv, pkR_e]
    cases hO : pkO fs with
    | false => exact ⟨τ1, by rw [if_pos (show bI false = 0 from rfl), if_neg (by decide)], i1⟩
    | true =>
      obtain ⟨τ2, e3, i2⟩ := z_publish (F := F) (c := c) hC i1 ((n1 2).trans e2) orr
      exact ⟨τ2, by rw [if_neg (show ¬ bI true = 0 by decide), if_pos rfl, c_o (G0 hC.1), bs, e3, xb_mk, s1 hO], i2⟩
  obtain ⟨τ2, eC, i2⟩ := key
  refine ⟨fs, gs, ws, n, b, a, Y, hN, Or.inl ⟨_, sk, L, τ2, own, eC, EX_refl, K26_Z i2.1, RMk_le hm (by omega), CV_SI hC i2, fun h hl => ?_⟩⟩
  obtain ⟨w, σ', e3, hw, f, ho⟩ := q_pack (F := F) hl hF hR.2.1 hR.2.2.2.2.1
  exact ⟨w, σ', e3, RV_out hR (FR_mono f (by decide) (by decide) (by decide) (by decide)) ho, hw.symm⟩
end BPK
end
section
/-! taken, section, place: class and reference answer alike (steps spelled out by sf/pp.py) -/
section RTK
variable {F m : Nat} {h : px_H} {σ : px_S} {fs : px_FS} {a : Int32} {Y : px_Y}
/-- is there a member (a1, a2), as the reference asks -/
theorem MBR_c {a1 a2 : Int32} (hr : RF σ fs) : ((a1 < 0 ∨ (¬ a1 < 0 ∧ nI fs.length ≤ a1) ∨ (¬ a1 < 0 ∧ ¬ nI fs.length ≤ a1 ∧ a2 < 0)) ∧ ∀ q o n b z, ¬ MBR fs a1 a2 q o n b z) ∨ ∃ i k l, (¬ a1 < 0 ∧ ¬ nI fs.length ≤ a1 ∧ ¬ a2 < 0) ∧ i < fs.length ∧ a1 = nI i ∧ a2 = nI k ∧ k < 2 ^ 31 ∧ gA σ 8 i = nI l ∧ l ≤ 8 ∧ ((k < l ∧ ∃ o n b z, MBR fs a1 a2 (8 * i + k) o n b z) ∨ (l ≤ k ∧ ∀ q o n b z, ¬ MBR fs a1 a2 q o n b z)) := by
  have h8 := hr.2.1
  by_cases c1 : a1 < 0
  · refine Or.inl ⟨Or.inl c1, fun q o n b z ⟨i', k', q1, q2, q3, _⟩ => ?_⟩
    rw [q3] at c1
    exact nI_n0 (by omega) c1
  by_cases c2 : nI fs.length ≤ a1
  · refine Or.inl ⟨Or.inr (Or.inl ⟨c1, c2⟩), fun q o n b z ⟨i', k', q1, q2, q3, _⟩ => ?_⟩
    rw [q3] at c2
    exact nI_ge (by omega) (by omega) c2
  by_cases c3 : a2 < 0
  · refine Or.inl ⟨Or.inr (Or.inr ⟨c1, c2, c3⟩), fun q o n b z ⟨i', k', q1, q2, q3, q4, _⟩ => ?_⟩
    rw [q4] at c3
    exact nI_n0 (by omega) c3
  obtain ⟨i, hi, e1⟩ := ixG c1 c2 (Nat.le_refl _)
  obtain ⟨k, hk, e2⟩ := nI_of c3
  obtain ⟨x, hx⟩ : ∃ x, fs[i]? = some x := ⟨_, List.getElem?_eq_getElem hi⟩
  obtain ⟨_, _, _, _, l, hl, _⟩ := hr.2.2.2 i x hx
  obtain ⟨y1, y2, y3, _⟩ := RF_row hr hx hl
  refine Or.inr ⟨i, k, l.length, ⟨c1, c2, c3⟩, hi, e1, e2, hk, y1, y2, ?_⟩
  rcases Nat.lt_or_ge k l.length with hkl | hkl
  · have eob := obAt_none hr hx hl (show k < 8 by omega)
    rw [List.getElem?_eq_getElem hkl] at eob
    exact Or.inl ⟨hkl, _, _, _, _, i, k, hi, by omega, e1, e2, rfl, eob⟩
  · refine Or.inr ⟨hkl, fun q o n b z ⟨i', k', q1, q2, q3, q4, q5, q6⟩ => ?_⟩
    have e3 : i = i' := (nI_eq (by omega) (by omega)).mp (e1.symm.trans q3)
    have e4 : k = k' := (nI_eq (by omega) (by omega)).mp (e2.symm.trans q4)
    have eob := obAt_none hr hx hl (show k < 8 by omega)
    rw [List.getElem?_eq_none hkl, e3, e4, ← q5, q6] at eob
    cases eob
theorem MBR_q {a1 a2 : Int32} {q o n : Nat} {b : Nat → Nat} {z : Bool} (h8 : fs.length ≤ 8) (hM : MBR fs a1 a2 q o n b z) {i k : Nat} (e1 : a1 = nI i) (e2 : a2 = nI k) (hi : i < 2 ^ 31) (hk : k < 2 ^ 31) : q = 8 * i + k := by
  obtain ⟨i', k', q1, q2, q3, q4, q5, _⟩ := hM
  have e3 : i = i' := (nI_eq hi (by omega)).mp (e1.symm.trans q3)
  have e4 : k = k' := (nI_eq hk (by omega)).mp (e2.symm.trans q4)
  omega
theorem q_taken {a1 a2 : Int32} (hm : m ≤ h.length) (hr : RF σ fs) (hX : RXo σ fs a Y) : (∀ q o n b z, MBR fs a1 a2 q o n b z → f_M_taken F m a1 a2 (mh m h σ) = some (bI (Y.1.1 q), mh m h (sI σ 0 (nI 0)))) ∧ ((∀ q o n b z, ¬ MBR fs a1 a2 q o n b z) → f_M_taken F m a1 a2 (mh m h σ) = some (nI 0, mh m h (sI σ 0 (nI 1)))) := by
  have h8 := hr.2.1
  have th1 : f_M_throwing F m (nI 1) (nI 0) (mh m h σ) = some (nI 1, mh m h (sI σ 0 (nI 1))) := q_throwing hm true false
  have th0 : f_M_throwing F m (nI 0) (nI 0) (mh m h σ) = some (nI 0, mh m h (sI σ 0 (nI 0))) := q_throwing hm false false
  have bad : f_M_taken_27 F m a1 a2 m (mh m h σ) = some (nI 0, mh m h (sI σ 0 (nI 1))) := by
    unfold f_M_taken_27 f_M_taken_32
    rw [e_o hm, bs, th1, xb_mk, if_neg (by decide)]
  rcases MBR_c (a1 := a1) (a2 := a2) hr with ⟨hc, hM⟩ | ⟨i, k, l, ⟨c1, c2, c3⟩, hi, e1, e2, hk, y1, hl8, hw⟩
  · refine ⟨fun q o n b z w => absurd w (hM q o n b z), fun _ => ?_⟩
    unfold f_M_taken
    rcases hc with c1 | ⟨c1, c2⟩ | ⟨c1, c2, c3⟩
    · rw [if_pos c1, bad]
    · rw [if_neg c1, Mg5 hm, bs, hr.1, if_pos c2, bad]
    · rw [if_neg c1, Mg5 hm, bs, hr.1, if_neg c2, if_pos c3, bad]
  · have head : f_M_taken F m a1 a2 (mh m h σ) = if a2 < nI l then f_M_taken_32 F m a1 a2 m (nI 0) (mh m h σ) else f_M_taken_27 F m a1 a2 m (mh m h σ) := by
      unfold f_M_taken
      rw [if_neg c1, Mg5 hm, bs, hr.1, if_neg c2, if_neg c3, Mr8 hm, bs, e1, Ma8 hm (by omega), bs, y1]
    rcases hw with ⟨hkl, o0, n0, b0, z0, hM0⟩ | ⟨hkl, hM⟩
    · refine ⟨fun q o n b z hM => ?_, fun w => absurd hM0 (w _ _ _ _ _)⟩
      have eq := MBR_q h8 hM e1 e2 (by omega) hk
      subst eq
      obtain ⟨⟨_, nms, _, hx⟩, _⟩ := hX
      obtain ⟨x, y, x1, x2, x3, _⟩ := hx (8 * i + k) (by omega)
      rw [show (8 * i + k) / 8 = i by omega] at x1
      rw [head, if_pos (by rw [e2]; exact nI_lt hkl (by omega))]
      unfold f_M_taken_32 f_M_taken_68 f_M_taken_69
      rw [e_o hm, bs, th0, xb_mk, if_pos (show (nI 0 : Int32) = 0 from rfl), Mr19 hm, bs, e1, e2, Ma19 hm (by omega), bs, gA_sI, x1, ← x3]
      cases x with
      | false =>
        rw [if_pos (show bI false = 0 from rfl)]
        exact xz_b false _
      | true =>
        rw [if_neg (show ¬ bI true = 0 by decide), Mr18 hm, bs, ix8, Ma18 hm (by omega), bs, gA_sI, x2]
        cases y with
        | false =>
          rw [if_pos (show bI false = 0 from rfl)]
          exact xz_b false _
        | true =>
          rw [if_neg (show ¬ bI true = 0 by decide)]
          exact xz_b true _
    · refine ⟨fun q o n b z w => absurd w (hM q o n b z), fun _ => ?_⟩
      rw [head, if_neg (by rw [e2]; exact nI_nlt hkl hk), bad]
/-- a section of the layout, as the reference has it -/
theorem q_sec0 {x y : Int32} (hm : m ≤ h.length) (h13 : gI σ 13 = a) (ha : ¬ a = 0) : f_M_section F m x y (mh m h σ) = some (nI 0, mh m h (sI σ 0 (nI 1))) := by
  have t11 : f_M_throwing F m (nI 1) (nI 1) (mh m h σ) = some (nI 1, mh m h (sI σ 0 (nI 1))) := q_throwing hm true true
  have t10 : f_M_throwing F m (nI 1) (nI 0) (mh m h σ) = some (nI 1, mh m h (sI σ 0 (nI 1))) := q_throwing hm true false
  have b1 : ∀ s2, (s2 = nI 0 ∨ s2 = nI 1) → f_M_section_39 F m x y m (nI 1) s2 (mh m h σ) = some (nI 0, mh m h (sI σ 0 (nI 1))) := fun s2 hs => by
    unfold f_M_section_39
    rcases hs with rfl | rfl
    · rw [e_o hm, bs, t10, xb_mk, if_neg (by decide)]
    · rw [e_o hm, bs, t11, xb_mk, if_neg (by decide)]
  have e34 : f_M_section_34 F m x y m (nI 1) (mh m h σ) = some (nI 0, mh m h (sI σ 0 (nI 1))) := b1 _ (Or.inr rfl)
  unfold f_M_section f_M_section_13
  rw [Mg13 hm, bs, h13, if_neg ha, e34, Mg50 hm, bs, b1 _ (Or.inl rfl)]
  repeat' split
  all_goals rfl
theorem q_pla0 {x : Int32} (hm : m ≤ h.length) (h13 : gI σ 13 = a) (ha : ¬ a = 0) : f_M_place F m x (mh m h σ) = some (lN 0, mh m h (sI σ 0 (nI 1))) := by
  have t11 : f_M_throwing F m (nI 1) (nI 1) (mh m h σ) = some (nI 1, mh m h (sI σ 0 (nI 1))) := q_throwing hm true true
  have t10 : f_M_throwing F m (nI 1) (nI 0) (mh m h σ) = some (nI 1, mh m h (sI σ 0 (nI 1))) := q_throwing hm true false
  have b1 : ∀ s2, (s2 = nI 0 ∨ s2 = nI 1) → f_M_place_30 F m x m (nI 1) s2 (mh m h σ) = some (lN 0, mh m h (sI σ 0 (nI 1))) := fun s2 hs => by
    unfold f_M_place_30
    rcases hs with rfl | rfl
    · rw [e_o hm, bs, t10, xb_mk, if_neg (by decide)]
    · rw [e_o hm, bs, t11, xb_mk, if_neg (by decide)]
  have e25 : f_M_place_25 F m x m (nI 1) (mh m h σ) = some (lN 0, mh m h (sI σ 0 (nI 1))) := b1 _ (Or.inr rfl)
  unfold f_M_place f_M_place_13
  rw [Mg13 hm, bs, h13, if_neg ha, e25, Mg50 hm, bs, b1 _ (Or.inl rfl)]
  repeat' split
  all_goals rfl
theorem q_section {x y : Int32} (hm : m ≤ h.length) (h13 : gI σ 13 = a) (hX : RXo σ fs a Y) (hlen : Y.2.2.1.length ≤ 1536) : (¬ a = 0 → f_M_section F m x y (mh m h σ) = some (nI 0, mh m h (sI σ 0 (nI 1)))) ∧ (a = 0 → (x < 0 ∨ nI Y.2.2.1.length ≤ x ∨ y < 0 ∨ ¬ y ≤ nI 4) → f_M_section F m x y (mh m h σ) = some (nI 0, mh m h (sI σ 0 (nI 2)))) ∧ (a = 0 → ∀ (i : Nat) (p : Nat × Nat × Nat × Nat × Nat × Nat), Y.2.2.1[i]? = some p → x = nI i → ∀ w, w ≤ 4 → y = nI w → f_M_section F m x y (mh m h σ) = some (nI (if w = 0 then p.1 else if w = 1 then p.2.1 else if w = 2 then p.2.2.1 else if w = 3 then p.2.2.2.1 else p.2.2.2.2.1), mh m h (sI σ 0 (nI 0)))) := by
  have t11 : f_M_throwing F m (nI 1) (nI 1) (mh m h σ) = some (nI 1, mh m h (sI σ 0 (nI 1))) := q_throwing hm true true
  have t10 : f_M_throwing F m (nI 1) (nI 0) (mh m h σ) = some (nI 1, mh m h (sI σ 0 (nI 1))) := q_throwing hm true false
  have t01 : f_M_throwing F m (nI 0) (nI 1) (mh m h σ) = some (nI 1, mh m h (sI σ 0 (nI 2))) := q_throwing hm false true
  have t00 : f_M_throwing F m (nI 0) (nI 0) (mh m h σ) = some (nI 0, mh m h (sI σ 0 (nI 0))) := q_throwing hm false false
  have b1 : ∀ s2, (s2 = nI 0 ∨ s2 = nI 1) → f_M_section_39 F m x y m (nI 1) s2 (mh m h σ) = some (nI 0, mh m h (sI σ 0 (nI 1))) := fun s2 hs => by
    unfold f_M_section_39
    rcases hs with rfl | rfl
    · rw [e_o hm, bs, t10, xb_mk, if_neg (by decide)]
    · rw [e_o hm, bs, t11, xb_mk, if_neg (by decide)]
  have b2 : f_M_section_39 F m x y m (nI 0) (nI 1) (mh m h σ) = some (nI 0, mh m h (sI σ 0 (nI 2))) := by
    unfold f_M_section_39
    rw [e_o hm, bs, t01, xb_mk, if_neg (by decide)]
  refine ⟨fun ha => ?_, fun ha hb => ?_, fun ha i p hp ex w hw ey => ?_⟩
  · have e34 : f_M_section_34 F m x y m (nI 1) (mh m h σ) = some (nI 0, mh m h (sI σ 0 (nI 1))) := b1 _ (Or.inr rfl)
    unfold f_M_section f_M_section_13
    rw [Mg13 hm, bs, h13, if_neg ha, e34, Mg50 hm, bs, b1 _ (Or.inl rfl)]
    repeat' split
    all_goals rfl
  · have e50 := (hX.2 ha).1.1
    unfold f_M_section f_M_section_13 f_M_section_34
    rw [Mg13 hm, bs, h13, if_pos ha, b2, Mg50 hm, bs, e50]
    by_cases c1 : x < 0
    · rw [if_pos c1]
    · rw [if_neg c1]
      by_cases c2 : nI Y.2.2.1.length ≤ x
      · rw [if_pos c2]
      · rw [if_neg c2]
        by_cases c3 : y < 0
        · rw [if_pos c3]
        · rw [if_neg c3, if_neg (((hb.resolve_left c1).resolve_left c2).resolve_left c3)]
  · have hi : i < Y.2.2.1.length := (List.getElem?_eq_some_iff.mp hp).1
    obtain ⟨⟨e50, e5⟩, _⟩ := hX.2 ha
    obtain ⟨p1, p2, p3, p4, p5, p6⟩ := e5 i p hp
    unfold f_M_section f_M_section_13 f_M_section_39 f_M_section_108
    rw [Mg13 hm, bs, h13, if_pos ha, Mg50 hm, bs, e50, ex, ey, if_neg (nI_n0 (by omega)), if_neg (nI_ge hi (by omega)), if_neg (nI_n0 (by omega)), if_pos (nI_le hw (by decide)), e_o hm, bs, t00, xb_mk, if_pos (show (nI 0 : Int32) = 0 from rfl)]
    have hw' : w = 0 ∨ w = 1 ∨ w = 2 ∨ w = 3 ∨ w = 4 := by omega
    rcases hw' with rfl | rfl | rfl | rfl | rfl
    · rw [if_pos (show (nI 0 : Int32) = 0 from rfl), Mr52 hm, bs, Ma52 hm (by omega), bs, gA_sI, p1]
      rfl
    · rw [if_neg (show ¬ (nI 1 : Int32) = 0 by decide), if_pos rfl, Mr53 hm, bs, Ma53 hm (by omega), bs, gA_sI, p2]
      rfl
    · rw [if_neg (show ¬ (nI 2 : Int32) = 0 by decide), if_neg (show ¬ nI 2 = nI 1 by decide), if_pos rfl, Mr54 hm, bs, Ma54 hm (by omega), bs, gA_sI, p3]
      rfl
    · rw [if_neg (show ¬ (nI 3 : Int32) = 0 by decide), if_neg (show ¬ nI 3 = nI 1 by decide), if_neg (show ¬ nI 3 = nI 2 by decide), if_pos rfl, Mr55 hm, bs, Ma55 hm (by omega), bs, gA_sI, p4]
      rfl
    · rw [if_neg (show ¬ (nI 4 : Int32) = 0 by decide), if_neg (show ¬ nI 4 = nI 1 by decide), if_neg (show ¬ nI 4 = nI 2 by decide), if_neg (show ¬ nI 4 = nI 3 by decide), Mr56 hm, bs, Ma56 hm (by omega), bs, gA_sI, p5]
      rfl
theorem q_place {x : Int32} (hm : m ≤ h.length) (h13 : gI σ 13 = a) (hX : RXo σ fs a Y) (hlen : Y.2.2.1.length ≤ 1536) : (¬ a = 0 → f_M_place F m x (mh m h σ) = some (lN 0, mh m h (sI σ 0 (nI 1)))) ∧ (a = 0 → (x < 0 ∨ ¬ x < nI Y.2.2.1.length) → f_M_place F m x (mh m h σ) = some (lN 0, mh m h (sI σ 0 (nI 2)))) ∧ (a = 0 → ∀ (i : Nat) (p : Nat × Nat × Nat × Nat × Nat × Nat), Y.2.2.1[i]? = some p → x = nI i → f_M_place F m x (mh m h σ) = some (lN p.2.2.2.2.2, mh m h (sI σ 0 (nI 0)))) := by
  have t11 : f_M_throwing F m (nI 1) (nI 1) (mh m h σ) = some (nI 1, mh m h (sI σ 0 (nI 1))) := q_throwing hm true true
  have t10 : f_M_throwing F m (nI 1) (nI 0) (mh m h σ) = some (nI 1, mh m h (sI σ 0 (nI 1))) := q_throwing hm true false
  have t01 : f_M_throwing F m (nI 0) (nI 1) (mh m h σ) = some (nI 1, mh m h (sI σ 0 (nI 2))) := q_throwing hm false true
  have t00 : f_M_throwing F m (nI 0) (nI 0) (mh m h σ) = some (nI 0, mh m h (sI σ 0 (nI 0))) := q_throwing hm false false
  have b1 : ∀ s2, (s2 = nI 0 ∨ s2 = nI 1) → f_M_place_30 F m x m (nI 1) s2 (mh m h σ) = some (lN 0, mh m h (sI σ 0 (nI 1))) := fun s2 hs => by
    unfold f_M_place_30
    rcases hs with rfl | rfl
    · rw [e_o hm, bs, t10, xb_mk, if_neg (by decide)]
    · rw [e_o hm, bs, t11, xb_mk, if_neg (by decide)]
  have b2 : f_M_place_30 F m x m (nI 0) (nI 1) (mh m h σ) = some (lN 0, mh m h (sI σ 0 (nI 2))) := by
    unfold f_M_place_30
    rw [e_o hm, bs, t01, xb_mk, if_neg (by decide)]
  refine ⟨fun ha => ?_, fun ha hb => ?_, fun ha i p hp ex => ?_⟩
  · have e25 : f_M_place_25 F m x m (nI 1) (mh m h σ) = some (lN 0, mh m h (sI σ 0 (nI 1))) := b1 _ (Or.inr rfl)
    unfold f_M_place f_M_place_13
    rw [Mg13 hm, bs, h13, if_neg ha, e25, Mg50 hm, bs, b1 _ (Or.inl rfl)]
    repeat' split
    all_goals rfl
  · have e50 := (hX.2 ha).1.1
    unfold f_M_place f_M_place_13 f_M_place_25
    rw [Mg13 hm, bs, h13, if_pos ha, b2, Mg50 hm, bs, e50]
    by_cases c1 : x < 0
    · rw [if_pos c1]
    · rw [if_neg c1, if_neg (hb.resolve_left c1)]
  · have hi : i < Y.2.2.1.length := (List.getElem?_eq_some_iff.mp hp).1
    obtain ⟨⟨e50, e5⟩, _⟩ := hX.2 ha
    obtain ⟨p1, p2, p3, p4, p5, p6⟩ := e5 i p hp
    unfold f_M_place f_M_place_13 f_M_place_30
    rw [Mg13 hm, bs, h13, if_pos ha, Mg50 hm, bs, e50, ex, if_neg (nI_n0 (by omega)), if_pos (nI_lt hi (by omega)), e_o hm, bs, t00, xb_mk, if_pos (show (nI 0 : Int32) = 0 from rfl), Mr57 hm, bs, Ma57 hm (by omega), bs, gB_sI, p6]
end RTK
section BTK
variable {F : Nat} {c : px_CT} {sk : Nat → Nat × Nat × Nat} {L : Nat} {own : Nat → Nat × Nat} {τ : px_TT} {σ : px_S} {fs : List (Nat × (Nat → Nat))} {gs : List (List Nat × Int64)} {ws : List (List Nat)} {n : Nat} {b : Nat → Nat} {a : Int32} {Y : px_Y} {k N : Nat}
theorem CV_X (hC : CV sk L own τ fs gs ws n b a Y) : CXo sk L τ fs a Y := hC.2.2.2.2.2.2.2.2.1.1
theorem RV_X (hR : RV σ fs gs ws n b a Y) : RXo σ fs a Y := hR.2.2.2.2.2.2.2.1.2.2.2.1
theorem Bx_taken {x y : Int32} (hC : CV sk L own τ fs gs ws n b a Y) (hR : RV σ fs gs ws n b a Y) (hm : RMk sk L (k + 210)) (hN : n + (fs.map Prod.fst).sum ≤ N) : BT RnI (fun ci σ => ci = 15 ∧ gI σ 0 = nI 1) sk L τ k N (f_H_taken F c 0 x y (cH sk L τ)) (g_H_taken F c 0 x y (cH sk L τ)) (fun h => f_M_taken F 1726 x y (mh 1726 h σ)) := by
  rcases k_memAt (F := F) (c := c) (i := x) (k := y) hC with ⟨q, o, n', b', z, hM, e⟩ | ⟨hM, e⟩
  · have hob : obAt fs q = some (o, n', b', z) := by
      obtain ⟨_, _, _, _, _, _, _, h⟩ := hM
      exact h
    have h64 := (CF_ob hC.2.2.2.1 hob).1
    have h15 := ((CV_X hC).1 q h64).1
    have eC : f_H_taken F c 0 x y (cH sk L τ) = some (bI (Y.1.1 q), cH sk L τ) := by
      unfold f_H_taken
      rw [c_o (G0 hC.1), bs, e, xb_mk]
      dsimp only
      rw [C7g15 (G_of hC.1 h64), bs, h15]
      exact xz_b _ _
    exact ⟨fs, gs, ws, n, b, a, Y, hN, Or.inl ⟨_, sk, L, τ, own, eC, EX_refl, K26_refl τ, RMk_le hm (by omega), hC, fun h hl => ⟨_, _, (q_taken hl hR.2.1 (RV_X hR)).1 q o n' b' z hM, RV_0 hR (FR_I _ _ _), rfl, rfl⟩⟩⟩
  · refine ⟨fs, gs, ws, n, b, a, Y, hN, Or.inr ⟨15, τ, own, ?_, K26_refl τ, RMk_le hm (by omega), hC, fun h hl => ⟨_, _, (q_taken hl hR.2.1 (RV_X hR)).2 hM, RV_0 hR (FR_I _ _ _), rfl, rfl⟩⟩⟩
    unfold g_H_taken
    rw [c_o (G0 hC.1), bs, e, xb_mk]
/-- the class's part at a place of the order -/
theorem z_part {i : Nat} {p : Nat × Nat × Nat × Nat × Nat × Nat} (hC : CV sk L own τ fs gs ws n b a Y) (ha : a = 0) (hp : Y.2.2.1[i]? = some p) : ∃ x, x < 1536 ∧ eN τ 1701 i = some (152 + x) ∧ f_Layout_partAt F c 1700 (nI i) (cH sk L τ) = some (some (152 + x), cH sk L τ) ∧ fI τ (152 + x) 1 = nI p.1 ∧ fI τ (152 + x) 2 = nI p.2.1 ∧ fI τ (152 + x) 3 = nI p.2.2.1 ∧ fI τ (152 + x) 4 = nI p.2.2.2.1 ∧ fI τ (152 + x) 5 = nI p.2.2.2.2.1 ∧ fJ τ (152 + x) 11 = lN p.2.2.2.2.2 := by
  obtain ⟨⟨e11, hlen, hps⟩, _⟩ := (CV_X hC).2 ha
  obtain ⟨_, x, x1, x2, x3⟩ := hps i p hp
  obtain ⟨ll, l1, l2, l3⟩ := hC.2.2.2.2.2.2.2.1.2.2.2.1.2
  have el : ll.length = Y.2.2.1.length := (nI_eq (by omega) (by omega)).mp (l3.1.symm.trans e11)
  have hi : i < Y.2.2.1.length := (List.getElem?_eq_some_iff.mp hp).1
  have hx : ll[i]? = some ll[i] := List.getElem?_eq_getElem (by omega)
  have ex := (l3.2 i _ hx).symm.trans x2
  have ex : 152 + ll[i] = 152 + x := Option.some.inj ex
  have ex : ll[i] = x := by omega
  rw [ex] at hx
  exact ⟨x, x1, x2, k_partAt hC.1 hC.2.1 l3 l1 hx, x3⟩
theorem Bx_section {x y : Int32} (hC : CV sk L own τ fs gs ws n b a Y) (hR : RV σ fs gs ws n b a Y) (hm : RMk sk L (k + 210)) (hN : n + (fs.map Prod.fst).sum ≤ N) : BT RnI (fun ci σ => (ci = 14 ∧ gI σ 0 = nI 1) ∨ (ci = 15 ∧ gI σ 0 = nI 2)) sk L τ k N (f_H_section F c 0 x y (cH sk L τ)) (g_H_section F c 0 x y (cH sk L τ)) (fun h => f_M_section F 1726 x y (mh 1726 h σ)) := by
  have o0 := G0 hC.1
  have r11 := C0r11 (τ := τ) o0 (GR_r (v := 147) hC.2.1 (by decide))
  have r13 := C0r13 (τ := τ) o0 (GR_r (v := 1700) hC.2.1 (by decide))
  have g11 := C2g11 (τ := τ) (a := 1700) (GS_o hC.1 (by decide) (by decide))
  have g18 := C3g18 (τ := τ) (G147 hC.1)
  have o17 : ob sk L 2 1700 := GS_o hC.1 (by decide) (by decide)
  have ea : fI τ 147 18 = a := hC.2.2.2.2.2.2.2.2.2.2
  have h13 : gI σ 13 = a := hR.2.2.2.2.2.2.2.2.1
  by_cases c0 : a = 0
  · obtain ⟨⟨e11, hlen, hps⟩, _⟩ := (CV_X hC).2 c0
    have bad : g_H_section F c 0 x y (cH sk L τ) = some (15, cH sk L τ) → (x < 0 ∨ nI Y.2.2.1.length ≤ x ∨ y < 0 ∨ ¬ y ≤ nI 4) → BT RnI (fun ci σ => (ci = 14 ∧ gI σ 0 = nI 1) ∨ (ci = 15 ∧ gI σ 0 = nI 2)) sk L τ k N (f_H_section F c 0 x y (cH sk L τ)) (g_H_section F c 0 x y (cH sk L τ)) (fun h => f_M_section F 1726 x y (mh 1726 h σ)) := fun hg hb =>
      ⟨fs, gs, ws, n, b, a, Y, hN, Or.inr ⟨15, τ, own, hg, K26_refl τ, RMk_le hm (by omega), hC, fun h hl => ⟨_, _, (q_section hl h13 (RV_X hR) hlen).2.1 c0 hb, RV_0 hR (FR_I _ _ _), Or.inr ⟨rfl, rfl⟩⟩⟩⟩
    by_cases c1 : x < 0
    · exact bad (by unfold g_H_section g_H_section_44; rw [r11, bs, g18, bs, ea, if_pos c0, if_pos c1]) (Or.inl c1)
    · by_cases c2 : nI Y.2.2.1.length ≤ x
      · exact bad (by unfold g_H_section g_H_section_44; rw [r11, bs, g18, bs, ea, if_pos c0, if_neg c1, r13, bs, g11, bs, e11, if_pos c2]) (Or.inr (Or.inl c2))
      · by_cases c3 : y < 0
        · exact bad (by unfold g_H_section g_H_section_44; rw [r11, bs, g18, bs, ea, if_pos c0, if_neg c1, r13, bs, g11, bs, e11, if_neg c2, if_pos c3]) (Or.inr (Or.inr (Or.inl c3)))
        · by_cases c4 : y ≤ nI 4
          · obtain ⟨i, hi, ex⟩ := ixG c1 c2 (Nat.le_refl _)
            have hp : Y.2.2.1[i]? = some Y.2.2.1[i] := List.getElem?_eq_getElem hi
            obtain ⟨w, hw, ey⟩ : ∃ w, w ≤ 4 ∧ y = nI w := by
              obtain ⟨w, hw, e⟩ := nI_of c3
              refine ⟨w, ?_, e⟩
              rw [e] at c4
              exact (nI_leI hw (by decide)).mp c4
            obtain ⟨x', x1, _, e6, f1, f2, f3, f4, f5, _⟩ := z_part (F := F) (c := c) hC c0 hp
            have oP := G_part hC.1 x1
            have eC : f_H_section F c 0 x y (cH sk L τ) = some (nI (if w = 0 then Y.2.2.1[i].1 else if w = 1 then Y.2.2.1[i].2.1 else if w = 2 then Y.2.2.1[i].2.2.1 else if w = 3 then Y.2.2.1[i].2.2.2.1 else Y.2.2.1[i].2.2.2.2.1), cH sk L τ) := by
              unfold f_H_section
              rw [r11, bs, g18, bs, ea, if_pos c0, if_neg c1, r13, bs, g11, bs, e11, if_neg c2, if_neg c3, if_pos c4, bs, c_o o17, bs, ex, e6, xb_mk, ey]
              have hw' : w = 0 ∨ w = 1 ∨ w = 2 ∨ w = 3 ∨ w = 4 := by omega
              rcases hw' with rfl | rfl | rfl | rfl | rfl
              · rw [if_pos rfl, bs, C8g1 oP, bs, f1]
                rfl
              · rw [if_neg (show ¬ nI 1 = nI 0 by decide), if_pos rfl, bs, C8g2 oP, bs, f2]
                rfl
              · rw [if_neg (show ¬ nI 2 = nI 0 by decide), if_neg (show ¬ nI 2 = nI 1 by decide), if_pos rfl, bs, C8g3 oP, bs, f3]
                rfl
              · rw [if_neg (show ¬ nI 3 = nI 0 by decide), if_neg (show ¬ nI 3 = nI 1 by decide), if_neg (show ¬ nI 3 = nI 2 by decide), if_pos rfl, bs, C8g4 oP, bs, f4]
                rfl
              · rw [if_neg (show ¬ nI 4 = nI 0 by decide), if_neg (show ¬ nI 4 = nI 1 by decide), if_neg (show ¬ nI 4 = nI 2 by decide), if_neg (show ¬ nI 4 = nI 3 by decide), bs, C8g5 oP, bs, f5]
                rfl
            exact ⟨fs, gs, ws, n, b, a, Y, hN, Or.inl ⟨_, sk, L, τ, own, eC, EX_refl, K26_refl τ, RMk_le hm (by omega), hC, fun h hl => ⟨_, _, (q_section hl h13 (RV_X hR) hlen).2.2 c0 i _ hp ex w hw ey, RV_0 hR (FR_I _ _ _), rfl, rfl⟩⟩⟩
          · exact bad (by unfold g_H_section g_H_section_44; rw [r11, bs, g18, bs, ea, if_pos c0, if_neg c1, r13, bs, g11, bs, e11, if_neg c2, if_neg c3, if_neg c4]) (Or.inr (Or.inr (Or.inr c4)))
  · have w0 : ∀ (h : px_H), 1726 ≤ h.length → f_M_section F 1726 x y (mh 1726 h σ) = some (nI 0, mh 1726 h (sI σ 0 (nI 1))) := fun h hl => q_sec0 hl h13 c0
    exact ⟨fs, gs, ws, n, b, a, Y, hN, Or.inr ⟨14, τ, own, by unfold g_H_section; rw [r11, bs, g18, bs, ea, if_neg c0], K26_refl τ, RMk_le hm (by omega), hC, fun h hl => ⟨_, _, w0 h hl, RV_0 hR (FR_I _ _ _), Or.inl ⟨rfl, rfl⟩⟩⟩⟩
theorem Bx_place {x : Int32} (hC : CV sk L own τ fs gs ws n b a Y) (hR : RV σ fs gs ws n b a Y) (hm : RMk sk L (k + 210)) (hN : n + (fs.map Prod.fst).sum ≤ N) : BT RnJ (fun ci σ => (ci = 14 ∧ gI σ 0 = nI 1) ∨ (ci = 15 ∧ gI σ 0 = nI 2)) sk L τ k N (f_H_place F c 0 x (cH sk L τ)) (g_H_place F c 0 x (cH sk L τ)) (fun h => f_M_place F 1726 x (mh 1726 h σ)) := by
  have o0 := G0 hC.1
  have r11 := C0r11 (τ := τ) o0 (GR_r (v := 147) hC.2.1 (by decide))
  have r13 := C0r13 (τ := τ) o0 (GR_r (v := 1700) hC.2.1 (by decide))
  have g11 := C2g11 (τ := τ) (a := 1700) (GS_o hC.1 (by decide) (by decide))
  have g18 := C3g18 (τ := τ) (G147 hC.1)
  have o17 : ob sk L 2 1700 := GS_o hC.1 (by decide) (by decide)
  have ea : fI τ 147 18 = a := hC.2.2.2.2.2.2.2.2.2.2
  have h13 : gI σ 13 = a := hR.2.2.2.2.2.2.2.2.1
  by_cases c0 : a = 0
  · obtain ⟨⟨e11, hlen, hps⟩, _⟩ := (CV_X hC).2 c0
    have bad : g_H_place F c 0 x (cH sk L τ) = some (15, cH sk L τ) → (x < 0 ∨ ¬ x < nI Y.2.2.1.length) → BT RnJ (fun ci σ => (ci = 14 ∧ gI σ 0 = nI 1) ∨ (ci = 15 ∧ gI σ 0 = nI 2)) sk L τ k N (f_H_place F c 0 x (cH sk L τ)) (g_H_place F c 0 x (cH sk L τ)) (fun h => f_M_place F 1726 x (mh 1726 h σ)) := fun hg hb =>
      ⟨fs, gs, ws, n, b, a, Y, hN, Or.inr ⟨15, τ, own, hg, K26_refl τ, RMk_le hm (by omega), hC, fun h hl => ⟨_, _, (q_place hl h13 (RV_X hR) hlen).2.1 c0 hb, RV_0 hR (FR_I _ _ _), Or.inr ⟨rfl, rfl⟩⟩⟩⟩
    by_cases c1 : x < 0
    · exact bad (by unfold g_H_place g_H_place_35; rw [r11, bs, g18, bs, ea, if_pos c0, if_pos c1]) (Or.inl c1)
    · by_cases c2 : x < nI Y.2.2.1.length
      · obtain ⟨i, hi, ex⟩ := ixG (n := Y.2.2.1.length) c1 (Int32.not_le.mpr c2) (Nat.le_refl _)
        have hp : Y.2.2.1[i]? = some Y.2.2.1[i] := List.getElem?_eq_getElem hi
        obtain ⟨x', x1, _, e6, _, _, _, _, _, f6⟩ := z_part (F := F) (c := c) hC c0 hp
        have oP := G_part hC.1 x1
        have eC : f_H_place F c 0 x (cH sk L τ) = some (lN Y.2.2.1[i].2.2.2.2.2, cH sk L τ) := by
          unfold f_H_place
          rw [r11, bs, g18, bs, ea, if_pos c0, if_neg c1, r13, bs, g11, bs, e11, if_pos c2, bs, c_o o17, bs, ex, e6, xb_mk, bs, C8g11 oP, bs, f6]
        exact ⟨fs, gs, ws, n, b, a, Y, hN, Or.inl ⟨_, sk, L, τ, own, eC, EX_refl, K26_refl τ, RMk_le hm (by omega), hC, fun h hl => ⟨_, _, (q_place hl h13 (RV_X hR) hlen).2.2 c0 i _ hp ex, RV_0 hR (FR_I _ _ _), rfl, rfl⟩⟩⟩
      · exact bad (by unfold g_H_place g_H_place_35; rw [r11, bs, g18, bs, ea, if_pos c0, if_neg c1, r13, bs, g11, bs, e11, if_neg c2]) (Or.inr c2)
  · have w0 : ∀ (h : px_H), 1726 ≤ h.length → f_M_place F 1726 x (mh 1726 h σ) = some (lN 0, mh 1726 h (sI σ 0 (nI 1))) := fun h hl => q_pla0 hl h13 c0
    exact ⟨fs, gs, ws, n, b, a, Y, hN, Or.inr ⟨14, τ, own, by unfold g_H_place; rw [r11, bs, g18, bs, ea, if_neg c0], K26_refl τ, RMk_le hm (by omega), hC, fun h hl => ⟨_, _, w0 h hl, RV_0 hR (FR_I _ _ _), Or.inl ⟨rfl, rfl⟩⟩⟩⟩
end BTK
end
