/-! toPool, and one section's strings, of the reference -/
theorem st_len {B : Nat → Nat} {e : Nat} (he : e < 65536) (h0 : B e = 0) : ∀ (d f : Nat), f + d = e → (∀ x, f ≤ x → x < e → B x ≠ 0) → (st B f).length = d := by
  intro d
  induction d with
  | zero => intro f hf _; rw [show f = e by omega, st_0 he h0]; rfl
  | succ d ih =>
    intro f hf hx
    rw [st_n (by omega) (hx f (Nat.le_refl _) (by omega)), List.length_cons, ih (f + 1) (by omega) (fun x h1 h2 => hx x (by omega) h2)]
theorem st_suf {B : Nat → Nat} {e : Nat} (he : e < 65536) : ∀ (d f : Nat), f + d ≤ e → (∀ x, f ≤ x → x < e → B x ≠ 0) → sufB (st B (f + d)) (st B f) = true := by
  intro d
  induction d with
  | zero => intro f _ _; rw [Nat.add_zero]; exact sufB_refl
  | succ d ih =>
    intro f hf hx
    rw [st_n (x := f) (by omega) (hx f (Nat.le_refl _) (by omega))]
    show (decide (st B (f + (d + 1)) = B f :: st B (f + 1)) || sufB (st B (f + (d + 1))) (st B (f + 1))) = true
    rw [show f + (d + 1) = f + 1 + d by omega, ih (f + 1) (by omega) (fun x h1 h2 => hx x (by omega) h2), Bool.or_true]
def peO (B : Nat → Nat) : Nat → List Nat → List Nat → Option Nat
  | _, [], _ => none
  | off, f :: l, u => if sufB u (st B f) = true then some (off + ((st B f).length + 1)) else peO B (off + ((st B f).length + 1)) l u
def psz (B : Nat → Nat) : List Nat → Nat
  | [] => 0
  | f :: l => ((st B f).length + 1) + psz B l
theorem psz_app {B : Nat → Nat} {f : Nat} : ∀ (l : List Nat), psz B (l ++ [f]) = psz B l + ((st B f).length + 1) := by
  intro l
  induction l with
  | nil => show (st B f).length + 1 + 0 = 0 + _; omega
  | cons g l ih => show (st B g).length + 1 + psz B (l ++ [f]) = (st B g).length + 1 + psz B l + _; rw [ih]; omega
theorem peO_app {B : Nat → Nat} {f : Nat} {u : List Nat} : ∀ (l : List Nat) (off : Nat), peO B off (l ++ [f]) u = match peO B off l u with
    | some y => some y
    | none => if sufB u (st B f) = true then some (off + psz B l + ((st B f).length + 1)) else none := by
  intro l
  induction l with
  | nil => intro off; show (if sufB u (st B f) = true then some (off + ((st B f).length + 1)) else none) = (if sufB u (st B f) = true then some (off + 0 + ((st B f).length + 1)) else none); rw [show off + 0 = off from rfl]
  | cons g l ih =>
    intro off
    show (if sufB u (st B g) = true then some (off + ((st B g).length + 1)) else peO B (off + ((st B g).length + 1)) (l ++ [f]) u) = match (if sufB u (st B g) = true then some (off + ((st B g).length + 1)) else peO B (off + ((st B g).length + 1)) l u) with
      | some y => some y
      | none => if sufB u (st B f) = true then some (off + ((st B g).length + 1 + psz B l) + ((st B f).length + 1)) else none
    by_cases c : sufB u (st B g) = true
    · rw [if_pos c, if_pos c]
    · rw [if_neg c, if_neg c, ih, show off + ((st B g).length + 1 + psz B l) = off + ((st B g).length + 1) + psz B l by omega]
theorem peO_some {B : Nat → Nat} {u : List Nat} : ∀ {l : List Nat} {off : Nat}, (peO B off l u).isSome = true ↔ ∃ f, f ∈ l ∧ sufB u (st B f) = true := by
  intro l
  induction l with
  | nil => intro off; exact ⟨fun q => (nomatch q), fun ⟨f, hf, _⟩ => absurd hf List.not_mem_nil⟩
  | cons g l ih =>
    intro off
    show (if sufB u (st B g) = true then some (off + ((st B g).length + 1)) else peO B (off + ((st B g).length + 1)) l u).isSome = true ↔ _
    by_cases c : sufB u (st B g) = true
    · rw [if_pos c]; exact ⟨fun _ => ⟨g, List.mem_cons_self, c⟩, fun _ => rfl⟩
    · rw [if_neg c, ih]
      exact ⟨fun ⟨f, h1, h2⟩ => ⟨f, List.mem_cons_of_mem _ h1, h2⟩, fun ⟨f, h1, h2⟩ => by
        rcases List.mem_cons.mp h1 with e | e
        · rw [e] at h2; exact absurd h2 c
        · exact ⟨f, e, h2⟩⟩
theorem peO_le {B : Nat → Nat} {u : List Nat} {y : Nat} : ∀ {l : List Nat} {off : Nat}, peO B off l u = some y → y ≤ off + psz B l := by
  intro l
  induction l with
  | nil => intro off h; exact nomatch h
  | cons g l ih =>
    intro off h
    have h : (if sufB u (st B g) = true then some (off + ((st B g).length + 1)) else peO B (off + ((st B g).length + 1)) l u) = some y := h
    show y ≤ off + ((st B g).length + 1 + psz B l)
    split at h
    · have := Option.some.inj h; omega
    · have := ih h; omega
/-- the pool, as the reference has it -/
def RPo (σ : px_S) (B : Nat → Nat) (nd : List (List Nat)) (pf : List Nat) : Prop := TR σ nd ∧ RPe σ nd (peO B 0 pf) ∧ gI σ 88 = nI (psz B pf) ∧ ∀ k, isB (gA σ 91 k)
abbrev poA : List Nat := [91, 92, 93, 94, 95]
/-- what is known of the pool -/
def PPl (B : Nat → Nat) : List Nat → List Nat
  | [] => []
  | f :: l => List.range' f ((st B f).length + 1) ++ PPl B l
theorem PPl_len {B : Nat → Nat} : ∀ (l : List Nat), (PPl B l).length = psz B l := by
  intro l
  induction l with
  | nil => rfl
  | cons f l ih => show (List.range' f _ ++ PPl B l).length = _; rw [List.length_append, List.length_range', ih]; rfl
theorem PPl_mem {B : Nat → Nat} {x : Nat} : ∀ {l : List Nat}, x ∈ PPl B l ↔ ∃ f, f ∈ l ∧ f ≤ x ∧ x ≤ f + (st B f).length := by
  intro l
  induction l with
  | nil => exact ⟨fun q => absurd q List.not_mem_nil, fun ⟨f, hf, _⟩ => absurd hf List.not_mem_nil⟩
  | cons g l ih =>
    show x ∈ List.range' g _ ++ PPl B l ↔ _
    rw [List.mem_append, ih, List.mem_range'_1]
    constructor
    · rintro (q | ⟨f, h1, h2⟩)
      · exact ⟨g, List.mem_cons_self, q.1, by omega⟩
      · exact ⟨f, List.mem_cons_of_mem _ h1, h2⟩
    · rintro ⟨f, h1, h2⟩
      rcases List.mem_cons.mp h1 with e | e
      · rw [e] at h2; exact Or.inl ⟨h2.1, by omega⟩
      · exact Or.inr ⟨f, e, h2⟩
theorem PPl_app {B : Nat → Nat} {f : Nat} : ∀ (l : List Nat), PPl B (l ++ [f]) = PPl B l ++ List.range' f ((st B f).length + 1) := by
  intro l
  induction l with
  | nil => show List.range' f _ ++ [] = [] ++ _; rw [List.append_nil]; rfl
  | cons g l ih => show List.range' g _ ++ PPl B (l ++ [f]) = (List.range' g _ ++ PPl B l) ++ _; rw [ih, List.append_assoc]
def noC (nd : List (List Nat)) (s : List Nat) : Prop := ∀ c, c :: s ∉ nd
def PIn (B : Nat → Nat) (nd : List (List Nat)) (pf : List Nat) : Prop := (PPl B pf).Nodup ∧ ∀ f, f ∈ pf → st B f ∈ nd ∧ noC nd (st B f) ∧ ∃ e, e < 65536 ∧ f ≤ e ∧ B e = 0 ∧ ∀ x, f ≤ x → x < e → B x ≠ 0
theorem PIn_sz {B : Nat → Nat} {nd : List (List Nat)} {pf : List Nat} (h : PIn B nd pf) : psz B pf ≤ 65536 := by
  rw [← PPl_len]
  refine nodup_le 0 65536 _ h.1 (fun x hx => ?_)
  obtain ⟨f, h1, h2, h3⟩ := PPl_mem.mp hx
  obtain ⟨e, e1, e2, e3, e4⟩ := (h.2 f h1).2.2
  have := st_len e1 e3 (e - f) f (by omega) e4
  omega
theorem PIn_add {B : Nat → Nat} {nd : List (List Nat)} {pf : List Nat} {f e : Nat} (h : PIn B nd pf) (hcl : ∀ c v, c :: v ∈ nd → v ∈ nd) (he : e < 65536) (hfe : f ≤ e) (h0 : B e = 0) (hx : ∀ x, f ≤ x → x < e → B x ≠ 0) (hin : st B f ∈ nd) (hc : noC nd (st B f)) (hp : peO B 0 pf (st B f) = none) : PIn B nd (pf ++ [f]) := by
  have hl := st_len he h0 (e - f) f (by omega) hx
  refine ⟨?_, fun g hg => ?_⟩
  · rw [PPl_app, List.nodup_append]
    refine ⟨h.1, List.nodup_range', fun a ha b hb eab => ?_⟩
    rw [List.mem_range'_1] at hb
    obtain ⟨f', h1, h2, h3⟩ := PPl_mem.mp ha
    obtain ⟨g1, g2, e', e1, e2, e3, e4⟩ := h.2 f' h1
    have hl' := st_len e1 e3 (e' - f') f' (by omega) e4
    have ee : e = e' := by
      by_cases q : e < e'
      · exact absurd h0 (e4 e (by omega) q)
      · by_cases q2 : e' < e
        · exact absurd e3 (hx e' (by omega) q2)
        · omega
    by_cases q : f' ≤ f
    · have := st_suf (B := B) e1 (f - f') f' (by omega) e4
      rw [show f' + (f - f') = f by omega] at this
      have := (peO_some (off := 0)).mpr ⟨f', h1, this⟩
      rw [hp] at this
      cases this
    · have hs := st_suf (B := B) he (f' - 1 - f) f (by omega) hx
      rw [show f + (f' - 1 - f) = f' - 1 by omega] at hs
      have hn := sufB_nd hcl hin hs
      rw [st_n (by omega) (hx (f' - 1) (by omega) (by omega)), show f' - 1 + 1 = f' by omega] at hn
      exact g2 _ hn
  · rcases List.mem_append.mp hg with hg | hg
    · exact h.2 g hg
    · rw [List.mem_singleton.mp hg]
      exact ⟨hin, hc, e, he, hfe, h0, hx⟩
section MTQ
variable {F m p : Nat} {h : px_H} {B : Nat → Nat}
theorem q_toPool {σ : px_S} {nd : List (List Nat)} {pf : List Nat} {d : Nat} (hm : m ≤ h.length) (hF : 65540 < F) (hb : RB σ B) (hn : ndB B nd) (hr : RPo σ B nd pf) (hI : PIn B nd pf) (hp : p + d < 65536) (h0 : B (p + d) = 0) (hin : st B (frm B p d) ∈ nd) (hc : noC nd (st B (frm B p d))) (hpe : peO B 0 pf (st B (frm B p d)) = none) : ∃ σ', f_M_toPool F m (nI p) (nI (p + d)) (mh m h σ) = some ((), mh m h σ') ∧ RPo σ' B nd (pf ++ [frm B p d]) ∧ PIn B nd (pf ++ [frm B p d]) ∧ FR [88] [] poA [] σ σ' := by
  obtain ⟨ht, hq, h88, h91⟩ := hr
  have hf := frm_le (B := B) (p := p) d
  have hl := st_len hp h0 (p + d - frm B p d) (frm B p d) (by omega) hf.2.2
  have hI2 := PIn_add hI ht.2.2.2.2.1 hp hf.2.1 h0 hf.2.2 hin hc hpe
  have hsz := PIn_sz hI2
  rw [psz_app] at hsz
  have hN : nd.length ≤ 65537 := nodup_img (f := st B) 65537 _ ht.2.2.1 hn
  obtain ⟨σ1, a1, a2, a3, a4⟩ := q_tP_27 (F := F) (h := h) (e := p + d) (fr := frm B p d) hm (p + d + 1 - frm B p d) (frm B p d) F (psz B pf) σ (by omega) (by omega) (by omega) (by omega) h88 h91
  have hb1 := RB_FR hb a4 (by decide)
  have ht1 := TR_FR ht a4 (by decide) (by decide)
  have hq1 : RPe σ1 nd (peO B 0 pf) := ⟨fun k u hu => by rw [a4.2.2.1 94 (by decide)]; exact hq.1 k u hu, hq.2⟩
  have ev : psz B pf + (p + d + 1 - frm B p d) = 0 + psz B pf + ((st B (frm B p d)).length + 1) := by omega
  rw [ev] at a2
  have es0 : st B (p + d) = [] := st_0 hp h0
  have epe : peO B 0 (pf ++ [frm B p d]) = pset (peO B 0 pf) (0 + psz B pf + ((st B (frm B p d)).length + 1)) (st B (frm B p d)) := by funext u; rw [peO_app]; rfl
  have hall : ∀ x, frm B p d ≤ x → x < frm B p d + (p + d - frm B p d) → B x ≠ 0 ∧ st B x ∈ nd := fun x h1 h2 => by
    refine ⟨hf.2.2 x h1 (by omega), ?_⟩
    have hs := st_suf (B := B) hp (x - frm B p d) (frm B p d) (by omega) hf.2.2
    rw [show frm B p d + (x - frm B p d) = x by omega] at hs
    exact sufB_nd ht.2.2.2.2.1 hin hs
  have hnil := ht.2.1
  generalize hV : 0 + psz B pf + ((st B (frm B p d)).length + 1) = V at *
  have r94 := hq1.1 0 [] hnil
  have e24 : f_M_toPool F m (nI p) (nI (p + d)) (mh m h σ) = f_M_toPool_65 F m (nI (p + d)) (nI (frm B p d)) (mh m h σ1) := by
    unfold f_M_toPool
    rw [q_tP_2 hm hb (by omega) d F (Nat.le_refl _) (by omega)]
    unfold f_M_toPool_24
    rw [a1]
  have fin : ∀ x, x = tdA (pset (peO B 0 pf) V [] []) → ∃ σ', f_M_toPool_95 F m (nI (p + d)) (nI (frm B p d)) (nI 1) (m + 63) (nI 1) x (mh m h σ1) = some ((), mh m h σ') ∧ RPo σ' B nd (pf ++ [frm B p d]) ∧ PIn B nd (pf ++ [frm B p d]) ∧ FR [88] [] poA [] σ σ' := by
    intro x hx
    unfold f_M_toPool_95
    rw [show nI 1 = nI (0 + 1) from rfl, Ms94 hm (by omega), bs]
    have f2 := FR_A σ1 94 (upd (gA σ1 94) (0 + 1) x)
    have hq2 : RPe (sA σ1 94 (upd (gA σ1 94) (0 + 1) x)) nd (pset (peO B 0 pf) V (st B (frm B p d + (p + d - frm B p d)))) := by
      rw [show frm B p d + (p + d - frm B p d) = p + d by omega, es0]
      refine RPe_set hq1 ht1.2.2.1 hnil rfl hx (fun u hu => ?_)
      unfold pset
      cases peO B 0 pf u with
      | some y => rfl
      | none => show (if decide (u = []) = true then some V else none) = none; rw [decide_eq_false hu]; rfl
    obtain ⟨σ3, c1, c2, c3⟩ := q_tP_101 (F := F) (h := h) (v := V) (fr := frm B p d) (pe := peO B 0 pf) hm hF (by omega) (by omega) (fun u y hy => by have := peO_le hy; omega) (p + d - frm B p d) 0 F _ (by omega) (by omega) (RB_FR hb1 f2 (by decide)) (TR_FR ht1 f2 (by decide) (by decide)) hall a2 (by rw [show frm B p d + (p + d - frm B p d) = p + d by omega, es0]; exact hnil) hq2
    rw [show frm B p d + (p + d - frm B p d) = p + d by omega] at c1
    refine ⟨σ3, c1, ⟨TR_FR (TR_FR ht1 f2 (by decide) (by decide)) c3 (by decide) (by decide), by rw [epe]; exact c2, ?_, fun k => ?_⟩, hI2, FR_trans (FR_mono a4 (by decide) (by decide) (by decide) (by decide)) (FR_trans (FR_mono f2 (by decide) (by decide) (by decide) (by decide)) (FR_mono c3 (by decide) (by decide) (by decide) (by decide)))⟩
    · rw [c3.1 88 (by decide), f2.1 88 (by decide), a2, psz_app, ← hV, Nat.zero_add]
    · rw [c3.2.2.1 91 (by decide), f2.2.2.1 91 (by decide)]; exact a3 k
  rw [e24]
  unfold f_M_toPool_65
  rw [Mr94 hm, bs, bs, show nI 1 = nI (0 + 1) from rfl, Ma94 hm (by omega), bs, r94]
  cases eq : peO B 0 pf [] with
  | some y =>
    have hy := peO_le eq
    rw [if_pos (show (0 : Int32) ≤ tdA (some y) from nI_0le (by omega)), bs, Ma94 hm (by omega), bs, r94, eq]
    exact fin _ (by unfold pset; rw [eq])
  | none =>
    rw [if_neg (show ¬ (0 : Int32) ≤ tdA none by decide), Mg88 hm, bs, a2]
    exact fin _ (by unfold pset; rw [eq]; rfl)
end MTQ
