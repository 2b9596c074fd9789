section
/-! toPool, and one section's strings, of the reference -/
theorem st_len {B : Nat → Nat} {e : Nat} (he : e < 65536) (h0 : B e = 0) : ∀ (d f : Nat), f + d = e → (∀ x, f ≤ x → x < e → B x ≠ 0) → (st B f).length = d := by
  intro d
  induction d with
  | zero => intro f hf _; rw [show f = e by omega, st_0 he h0]; rfl
  | succ d ih =>
    intro f hf hx
    rw [st_n (by omega) (hx f (Nat.le_refl _) (by omega)), List.length_cons, ih (f + 1) (by omega) (fun x h1 h2 => hx x (by omega) h2)]
theorem st_suf {B : Nat → Nat} {e : Nat} (he : e < 65536) : ∀ (d f : Nat), f + d ≤ e → (∀ x, f ≤ x → x < e → B x ≠ 0) → sufB (st B (f + d)) (st B f) = true := by
  intro d
  induction d with
  | zero => intro f _ _; rw [Nat.add_zero]; exact sufB_refl
  | succ d ih =>
    intro f hf hx
    rw [st_n (x := f) (by omega) (hx f (Nat.le_refl _) (by omega))]
    show (decide (st B (f + (d + 1)) = B f :: st B (f + 1)) || sufB (st B (f + (d + 1))) (st B (f + 1))) = true
    rw [show f + (d + 1) = f + 1 + d by omega, ih (f + 1) (by omega) (fun x h1 h2 => hx x (by omega) h2), Bool.or_true]
def peO (B : Nat → Nat) : Nat → List Nat → List Nat → Option Nat
  | _, [], _ => none
  | off, f :: l, u => if sufB u (st B f) = true then some (off + ((st B f).length + 1)) else peO B (off + ((st B f).length + 1)) l u
def psz (B : Nat → Nat) : List Nat → Nat
  | [] => 0
  | f :: l => ((st B f).length + 1) + psz B l
theorem psz_app {B : Nat → Nat} {f : Nat} : ∀ (l : List Nat), psz B (l ++ [f]) = psz B l + ((st B f).length + 1) := by
  intro l
  induction l with
  | nil => show (st B f).length + 1 + 0 = 0 + _; omega
  | cons g l ih => show (st B g).length + 1 + psz B (l ++ [f]) = (st B g).length + 1 + psz B l + _; rw [ih]; omega
theorem peO_app {B : Nat → Nat} {f : Nat} {u : List Nat} : ∀ (l : List Nat) (off : Nat), peO B off (l ++ [f]) u = match peO B off l u with
    | some y => some y
    | none => if sufB u (st B f) = true then some (off + psz B l + ((st B f).length + 1)) else none := by
  intro l
  induction l with
  | nil => intro off; show (if sufB u (st B f) = true then some (off + ((st B f).length + 1)) else none) = (if sufB u (st B f) = true then some (off + 0 + ((st B f).length + 1)) else none); rw [show off + 0 = off from rfl]
  | cons g l ih =>
    intro off
    show (if sufB u (st B g) = true then some (off + ((st B g).length + 1)) else peO B (off + ((st B g).length + 1)) (l ++ [f]) u) = match (if sufB u (st B g) = true then some (off + ((st B g).length + 1)) else peO B (off + ((st B g).length + 1)) l u) with
      | some y => some y
      | none => if sufB u (st B f) = true then some (off + ((st B g).length + 1 + psz B l) + ((st B f).length + 1)) else none
    by_cases c : sufB u (st B g) = true
    · rw [if_pos c, if_pos c]
    · rw [if_neg c, if_neg c, ih, show off + ((st B g).length + 1 + psz B l) = off + ((st B g).length + 1) + psz B l by omega]
theorem peO_some {B : Nat → Nat} {u : List Nat} : ∀ {l : List Nat} {off : Nat}, (peO B off l u).isSome = true ↔ ∃ f, f ∈ l ∧ sufB u (st B f) = true := by
  intro l
  induction l with
  | nil => intro off; exact ⟨fun q => (nomatch q), fun ⟨f, hf, _⟩ => absurd hf List.not_mem_nil⟩
  | cons g l ih =>
    intro off
    show (if sufB u (st B g) = true then some (off + ((st B g).length + 1)) else peO B (off + ((st B g).length + 1)) l u).isSome = true ↔ _
    by_cases c : sufB u (st B g) = true
    · rw [if_pos c]; exact ⟨fun _ => ⟨g, List.mem_cons_self, c⟩, fun _ => rfl⟩
    · rw [if_neg c, ih]
      exact ⟨fun ⟨f, h1, h2⟩ => ⟨f, List.mem_cons_of_mem _ h1, h2⟩, fun ⟨f, h1, h2⟩ => by
        rcases List.mem_cons.mp h1 with e | e
        · rw [e] at h2; exact absurd h2 c
        · exact ⟨f, e, h2⟩⟩
theorem peO_le {B : Nat → Nat} {u : List Nat} {y : Nat} : ∀ {l : List Nat} {off : Nat}, peO B off l u = some y → y ≤ off + psz B l := by
  intro l
  induction l with
  | nil => intro off h; exact nomatch h
  | cons g l ih =>
    intro off h
    have h : (if sufB u (st B g) = true then some (off + ((st B g).length + 1)) else peO B (off + ((st B g).length + 1)) l u) = some y := h
    show y ≤ off + ((st B g).length + 1 + psz B l)
    split at h
    · have := Option.some.inj h; omega
    · have := ih h; omega
/-- the pool, as the reference has it -/
def RPo (σ : px_S) (B : Nat → Nat) (nd : List (List Nat)) (pf : List Nat) : Prop := TR σ nd ∧ RPe σ nd (peO B 0 pf) ∧ gI σ 88 = nI (psz B pf) ∧ ∀ k, isB (gA σ 91 k)
abbrev poA : List Nat := [91, 92, 93, 94, 95]
/-- what is known of the pool -/
def PPl (B : Nat → Nat) : List Nat → List Nat
  | [] => []
  | f :: l => List.range' f ((st B f).length + 1) ++ PPl B l
theorem PPl_len {B : Nat → Nat} : ∀ (l : List Nat), (PPl B l).length = psz B l := by
  intro l
  induction l with
  | nil => rfl
  | cons f l ih => show (List.range' f _ ++ PPl B l).length = _; rw [List.length_append, List.length_range', ih]; rfl
theorem PPl_mem {B : Nat → Nat} {x : Nat} : ∀ {l : List Nat}, x ∈ PPl B l ↔ ∃ f, f ∈ l ∧ f ≤ x ∧ x ≤ f + (st B f).length := by
  intro l
  induction l with
  | nil => exact ⟨fun q => absurd q List.not_mem_nil, fun ⟨f, hf, _⟩ => absurd hf List.not_mem_nil⟩
  | cons g l ih =>
    show x ∈ List.range' g _ ++ PPl B l ↔ _
    rw [List.mem_append, ih, List.mem_range'_1]
    constructor
    · rintro (q | ⟨f, h1, h2⟩)
      · exact ⟨g, List.mem_cons_self, q.1, by omega⟩
      · exact ⟨f, List.mem_cons_of_mem _ h1, h2⟩
    · rintro ⟨f, h1, h2⟩
      rcases List.mem_cons.mp h1 with e | e
      · rw [e] at h2; exact Or.inl ⟨h2.1, by omega⟩
      · exact Or.inr ⟨f, e, h2⟩
theorem PPl_app {B : Nat → Nat} {f : Nat} : ∀ (l : List Nat), PPl B (l ++ [f]) = PPl B l ++ List.range' f ((st B f).length + 1) := by
  intro l
  induction l with
  | nil => show List.range' f _ ++ [] = [] ++ _; rw [List.append_nil]; rfl
  | cons g l ih => show List.range' g _ ++ PPl B (l ++ [f]) = (List.range' g _ ++ PPl B l) ++ _; rw [ih, List.append_assoc]
def noC (nd : List (List Nat)) (s : List Nat) : Prop := ∀ c, c :: s ∉ nd
def PIn (B : Nat → Nat) (nd : List (List Nat)) (pf : List Nat) : Prop := (PPl B pf).Nodup ∧ ∀ f, f ∈ pf → st B f ∈ nd ∧ noC nd (st B f) ∧ ∃ e, e < 65536 ∧ f ≤ e ∧ B e = 0 ∧ ∀ x, f ≤ x → x < e → B x ≠ 0
theorem PIn_sz {B : Nat → Nat} {nd : List (List Nat)} {pf : List Nat} (h : PIn B nd pf) : psz B pf ≤ 65536 := by
  rw [← PPl_len]
  refine nodup_le 0 65536 _ h.1 (fun x hx => ?_)
  obtain ⟨f, h1, h2, h3⟩ := PPl_mem.mp hx
  obtain ⟨e, e1, e2, e3, e4⟩ := (h.2 f h1).2.2
  have := st_len e1 e3 (e - f) f (by omega) e4
  omega
theorem PIn_add {B : Nat → Nat} {nd : List (List Nat)} {pf : List Nat} {f e : Nat} (h : PIn B nd pf) (hcl : ∀ c v, c :: v ∈ nd → v ∈ nd) (he : e < 65536) (hfe : f ≤ e) (h0 : B e = 0) (hx : ∀ x, f ≤ x → x < e → B x ≠ 0) (hin : st B f ∈ nd) (hc : noC nd (st B f)) (hp : peO B 0 pf (st B f) = none) : PIn B nd (pf ++ [f]) := by
  have hl := st_len he h0 (e - f) f (by omega) hx
  refine ⟨?_, fun g hg => ?_⟩
  · rw [PPl_app, List.nodup_append]
    refine ⟨h.1, List.nodup_range', fun a ha b hb eab => ?_⟩
    rw [List.mem_range'_1] at hb
    obtain ⟨f', h1, h2, h3⟩ := PPl_mem.mp ha
    obtain ⟨g1, g2, e', e1, e2, e3, e4⟩ := h.2 f' h1
    have hl' := st_len e1 e3 (e' - f') f' (by omega) e4
    have ee : e = e' := by
      by_cases q : e < e'
      · exact absurd h0 (e4 e (by omega) q)
      · by_cases q2 : e' < e
        · exact absurd e3 (hx e' (by omega) q2)
        · omega
    by_cases q : f' ≤ f
    · have := st_suf (B := B) e1 (f - f') f' (by omega) e4
      rw [show f' + (f - f') = f by omega] at this
      have := (peO_some (off := 0)).mpr ⟨f', h1, this⟩
      rw [hp] at this
      cases this
    · have hs := st_suf (B := B) he (f' - 1 - f) f (by omega) hx
      rw [show f + (f' - 1 - f) = f' - 1 by omega] at hs
      have hn := sufB_nd hcl hin hs
      rw [st_n (by omega) (hx (f' - 1) (by omega) (by omega)), show f' - 1 + 1 = f' by omega] at hn
      exact g2 _ hn
  · rcases List.mem_append.mp hg with hg | hg
    · exact h.2 g hg
    · rw [List.mem_singleton.mp hg]
      exact ⟨hin, hc, e, he, hfe, h0, hx⟩
section MTQ
variable {F m p : Nat} {h : px_H} {B : Nat → Nat}
theorem q_toPool {σ : px_S} {nd : List (List Nat)} {pf : List Nat} {d : Nat} (hm : m ≤ h.length) (hF : 65540 < F) (hb : RB σ B) (hn : ndB B nd) (hr : RPo σ B nd pf) (hI : PIn B nd pf) (hp : p + d < 65536) (h0 : B (p + d) = 0) (hin : st B (frm B p d) ∈ nd) (hc : noC nd (st B (frm B p d))) (hpe : peO B 0 pf (st B (frm B p d)) = none) : ∃ σ', f_M_toPool F m (nI p) (nI (p + d)) (mh m h σ) = some ((), mh m h σ') ∧ RPo σ' B nd (pf ++ [frm B p d]) ∧ PIn B nd (pf ++ [frm B p d]) ∧ FR [88] [] poA [] σ σ' := by
  obtain ⟨ht, hq, h88, h91⟩ := hr
  have hf := frm_le (B := B) (p := p) d
  have hl := st_len hp h0 (p + d - frm B p d) (frm B p d) (by omega) hf.2.2
  have hI2 := PIn_add hI ht.2.2.2.2.1 hp hf.2.1 h0 hf.2.2 hin hc hpe
  have hsz := PIn_sz hI2
  rw [psz_app] at hsz
  have hN : nd.length ≤ 65537 := nodup_img (f := st B) 65537 _ ht.2.2.1 hn
  obtain ⟨σ1, a1, a2, a3, a4⟩ := q_tP_27 (F := F) (h := h) (e := p + d) (fr := frm B p d) hm (p + d + 1 - frm B p d) (frm B p d) F (psz B pf) σ (by omega) (by omega) (by omega) (by omega) h88 h91
  have hb1 := RB_FR hb a4 (by decide)
  have ht1 := TR_FR ht a4 (by decide) (by decide)
  have hq1 : RPe σ1 nd (peO B 0 pf) := ⟨fun k u hu => by rw [a4.2.2.1 94 (by decide)]; exact hq.1 k u hu, hq.2⟩
  have ev : psz B pf + (p + d + 1 - frm B p d) = 0 + psz B pf + ((st B (frm B p d)).length + 1) := by omega
  rw [ev] at a2
  have es0 : st B (p + d) = [] := st_0 hp h0
  have epe : peO B 0 (pf ++ [frm B p d]) = pset (peO B 0 pf) (0 + psz B pf + ((st B (frm B p d)).length + 1)) (st B (frm B p d)) := by funext u; rw [peO_app]; rfl
  have hall : ∀ x, frm B p d ≤ x → x < frm B p d + (p + d - frm B p d) → B x ≠ 0 ∧ st B x ∈ nd := fun x h1 h2 => by
    refine ⟨hf.2.2 x h1 (by omega), ?_⟩
    have hs := st_suf (B := B) hp (x - frm B p d) (frm B p d) (by omega) hf.2.2
    rw [show frm B p d + (x - frm B p d) = x by omega] at hs
    exact sufB_nd ht.2.2.2.2.1 hin hs
  have hnil := ht.2.1
  generalize hV : 0 + psz B pf + ((st B (frm B p d)).length + 1) = V at *
  have r94 := hq1.1 0 [] hnil
  have e24 : f_M_toPool F m (nI p) (nI (p + d)) (mh m h σ) = f_M_toPool_65 F m (nI (p + d)) (nI (frm B p d)) (mh m h σ1) := by
    unfold f_M_toPool
    rw [q_tP_2 hm hb (by omega) d F (Nat.le_refl _) (by omega)]
    unfold f_M_toPool_24
    rw [a1]
  have fin : ∀ x, x = tdA (pset (peO B 0 pf) V [] []) → ∃ σ', f_M_toPool_95 F m (nI (p + d)) (nI (frm B p d)) (nI 1) (m + 63) (nI 1) x (mh m h σ1) = some ((), mh m h σ') ∧ RPo σ' B nd (pf ++ [frm B p d]) ∧ PIn B nd (pf ++ [frm B p d]) ∧ FR [88] [] poA [] σ σ' := by
    intro x hx
    unfold f_M_toPool_95
    rw [show nI 1 = nI (0 + 1) from rfl, Ms94 hm (by omega), bs]
    have f2 := FR_A σ1 94 (upd (gA σ1 94) (0 + 1) x)
    have hq2 : RPe (sA σ1 94 (upd (gA σ1 94) (0 + 1) x)) nd (pset (peO B 0 pf) V (st B (frm B p d + (p + d - frm B p d)))) := by
      rw [show frm B p d + (p + d - frm B p d) = p + d by omega, es0]
      refine RPe_set hq1 ht1.2.2.1 hnil rfl hx (fun u hu => ?_)
      unfold pset
      cases peO B 0 pf u with
      | some y => rfl
      | none => show (if decide (u = []) = true then some V else none) = none; rw [decide_eq_false hu]; rfl
    obtain ⟨σ3, c1, c2, c3⟩ := q_tP_101 (F := F) (h := h) (v := V) (fr := frm B p d) (pe := peO B 0 pf) hm hF (by omega) (by omega) (fun u y hy => by have := peO_le hy; omega) (p + d - frm B p d) 0 F _ (by omega) (by omega) (RB_FR hb1 f2 (by decide)) (TR_FR ht1 f2 (by decide) (by decide)) hall a2 (by rw [show frm B p d + (p + d - frm B p d) = p + d by omega, es0]; exact hnil) hq2
    rw [show frm B p d + (p + d - frm B p d) = p + d by omega] at c1
    refine ⟨σ3, c1, ⟨TR_FR (TR_FR ht1 f2 (by decide) (by decide)) c3 (by decide) (by decide), by rw [epe]; exact c2, ?_, fun k => ?_⟩, hI2, FR_trans (FR_mono a4 (by decide) (by decide) (by decide) (by decide)) (FR_trans (FR_mono f2 (by decide) (by decide) (by decide) (by decide)) (FR_mono c3 (by decide) (by decide) (by decide) (by decide)))⟩
    · rw [c3.1 88 (by decide), f2.1 88 (by decide), a2, psz_app, ← hV, Nat.zero_add]
    · rw [c3.2.2.1 91 (by decide), f2.2.2.1 91 (by decide)]; exact a3 k
  rw [e24]
  unfold f_M_toPool_65
  rw [Mr94 hm, bs, bs, show nI 1 = nI (0 + 1) from rfl, Ma94 hm (by omega), bs, r94]
  cases eq : peO B 0 pf [] with
  | some y =>
    have hy := peO_le eq
    rw [if_pos (show (0 : Int32) ≤ tdA (some y) from nI_0le (by omega)), bs, Ma94 hm (by omega), bs, r94, eq]
    exact fin _ (by unfold pset; rw [eq])
  | none =>
    rw [if_neg (show ¬ (0 : Int32) ≤ tdA none by decide), Mg88 hm, bs, a2]
    exact fin _ (by unfold pset; rw [eq]; rfl)
end MTQ
end
section
/-! findPool of the reference -/
def fp0 (B : Nat → Nat) (p j : Nat) (nd : List (List Nat)) : List (List Nat) := if B (p + j) = 0 then ndS B p j nd else nd
def fp1 (B : Nat → Nat) (nd : List (List Nat)) (p j : Nat) (pf : List Nat) : List Nat := if B (p + j) = 0 ∧ lst nd (st B (frm B p j)) (nd.length + 1) = 0 ∧ peO B 0 pf (st B (frm B p j)) = none then pf ++ [frm B p j] else pf
theorem lst_0 {nd : List (List Nat)} {u : List Nat} : lst nd u (nd.length + 1) = 0 ↔ noC nd u := by
  have key : ∀ lim, lst nd u lim = 0 ↔ ∀ k, k < lim → chB nd u k = false := by
    intro lim
    induction lim with
    | zero => exact ⟨fun _ k hk => absurd hk (Nat.not_lt_zero k), fun _ => rfl⟩
    | succ n ih =>
      rw [lst_s]
      by_cases c : chB nd u n = true
      · rw [if_pos c]
        constructor
        · intro e
          rw [e] at c
          exact nomatch c
        · intro hh
          rw [hh n (Nat.lt_succ_self n)] at c
          cases c
      · rw [if_neg c, ih]
        exact ⟨fun hh k hk => by
          by_cases e : k = n
          · rw [e]; exact Bool.eq_false_iff.mpr c
          · exact hh k (by omega), fun hh k hk => hh k (by omega)⟩
  rw [key]
  constructor
  · intro hh c hc
    obtain ⟨i, hi⟩ := List.getElem?_of_mem hc
    have := hh (i + 1) (by have := (List.getElem?_eq_some_iff.mp hi).1; omega)
    rw [chB_iff.mpr ⟨c, hi⟩] at this
    cases this
  · intro hh k hk
    cases k with
    | zero => rfl
    | succ k =>
      refine Bool.eq_false_iff.mpr (fun q => ?_)
      obtain ⟨c, hc⟩ := chB_iff.mp q
      exact hh c (List.mem_of_getElem? hc)
section MFP
variable {F m p P Z : Nat} {h : px_H} {B : Nat → Nat} {k26 : Nat → Int32 → px_H → Option (Unit × px_H)} {k33 : Nat → Int32 → Int32 → px_H → Option (Unit × px_H)}
theorem RPo_FR {σ σ' : px_S} {I J A Bs : List Nat} {nd : List (List Nat)} {pf : List Nat} (hr : RPo σ B nd pf) (f : FR I J A Bs σ σ') (hI : 88 ∉ I ∧ 89 ∉ I) (hA : ∀ k, k ∈ poA → k ∉ A) : RPo σ' B nd pf :=
  ⟨TR_FR hr.1 f hI.2 ⟨hA 92 (by decide), hA 93 (by decide), hA 95 (by decide)⟩, ⟨fun k u hu => by rw [f.2.2.1 94 (hA 94 (by decide))]; exact hr.2.1.1 k u hu, hr.2.1.2⟩, (f.1 88 hI.1).trans hr.2.2.1, by rw [f.2.2.1 91 (hA 91 (by decide))]; exact hr.2.2.2⟩
theorem q_nodeOf {σ : px_S} {nd : List (List Nat)} {pf : List Nat} {d : Nat} (hm : m ≤ h.length) (hF : 65540 < F) (hb : RB σ B) (hn : ndB B nd) (hr : RPo σ B nd pf) (hp : p + d ≤ 65535) (h0 : B (p + d) = 0) : ∃ σ' k', f_M_nodeOf F m (nI p) (nI (p + d)) (nI 1) (mh m h σ) = some (nI (k' + 1), mh m h σ') ∧ (ndS B p d nd)[k']? = some (st B (frm B p d)) ∧ RPo σ' B (ndS B p d nd) pf ∧ ndB B (ndS B p d nd) ∧ ((∀ x, frm B p d ≤ x → x < p + d → st B x ∈ nd) → σ' = σ) ∧ FR [89] [] trA [] σ σ' := by
  obtain ⟨ht, hq, h88, h91⟩ := hr
  obtain ⟨σ', k', a1, a2, a3, a4, a5, a6, a7⟩ := q_nO_8 (F := F) (h := h) (p := p) hm hF d 0 F σ nd (by omega) hp hb ht hn hq (by rw [st_0 (by omega) h0]; exact ht.2.1)
  exact ⟨σ', k', a1, a2, ⟨a3, a5, (a7.1 88 (by decide)).trans h88, by rw [a7.2.2.1 91 (by decide)]; exact h91⟩, a4, a6, a7⟩
theorem q_fP_89a (hm : m ≤ h.length) (hF : 65540 < F) (hP : P < 1536) (hZ : p + Z ≤ 65536) : ∀ (c j g : Nat) (σ : px_S) (nd : List (List Nat)) (pf : List Nat), j + c = Z → c < g → RB σ B → gA σ 56 P = nI Z → ndB B nd → RPo σ B nd pf → ∃ σ', f_M_findPool_89 F k26 k33 g m (nI 0) (nI P) (nI p) (nI (p + j)) (mh m h σ) = k33 m (nI 0) (nI (P + 1)) (mh m h σ') ∧ RPo σ' B (itr (fp0 B p) j c nd) pf ∧ ndB B (itr (fp0 B p) j c nd) ∧ FR [89] [] trA [] σ σ' := by
  intro c
  induction c with
  | zero =>
    intro j g σ nd pf hj hg hb h56 hn hr
    obtain ⟨g, rfl⟩ : ∃ x, g = x + 1 := ⟨g - 1, by omega⟩
    unfold f_M_findPool_89 f_M_findPool_166
    rw [Mr56 hm, bs, Ma56 hm hP, bs, h56, nI_add, if_pos (nI_le (by omega) (by omega)), nI_add]
    exact ⟨σ, rfl, hr, hn, FR_refl σ⟩
  | succ c ih =>
    intro j g σ nd pf hj hg hb h56 hn hr
    obtain ⟨g, rfl⟩ : ∃ x, g = x + 1 := ⟨g - 1, by omega⟩
    unfold f_M_findPool_89 f_M_findPool_160
    rw [Mr56 hm, bs, Ma56 hm hP, bs, h56, nI_add, if_neg (nI_ge (by omega) (by omega)), Mr6 hm, bs, Ma6 hm (by omega), bs, itr_s, nI_add]
    by_cases c0 : B (p + j) = 0
    · obtain ⟨σ1, k1, a1, a2, a3, a4, a5, a6⟩ := q_nodeOf (F := F) (h := h) (p := p) (d := j) hm hF hb hn hr (by omega) c0
      have e0 : fp0 B p j nd = ndS B p j nd := by unfold fp0; rw [if_pos c0]
      rw [if_pos ((RB_0 hb _).mpr c0), e_o hm, bs, a1, xb_mk, if_neg (show ¬ nI 0 = nI 1 by decide), e0]
      obtain ⟨σ2, b1, b2, b3, b4⟩ := ih (j + 1) g σ1 _ pf (by omega) (by omega) (RB_FR hb a6 (by decide)) (by rw [a6.2.2.1 56 (by decide)]; exact h56) a4 a3
      exact ⟨σ2, b1, b2, b3, FR_trans a6 b4⟩
    · have e0 : fp0 B p j nd = nd := by unfold fp0; rw [if_neg c0]
      rw [if_neg (fun q => c0 ((RB_0 hb _).mp q)), e0]
      exact ih (j + 1) g σ nd pf (by omega) (by omega) hb h56 hn hr
/-- all strings' ends of a section are nodes -/
def allN (B : Nat → Nat) (nd : List (List Nat)) (p Z : Nat) : Prop := ∀ j, j < Z → B (p + j) = 0 → ∀ x, frm B p j ≤ x → x < p + j → st B x ∈ nd
theorem q_fP_89b {nd : List (List Nat)} (hm : m ≤ h.length) (hF : 65540 < F) (hP : P < 1536) (hZ : p + Z ≤ 65536) (hn : ndB B nd) (hal : allN B nd p Z) (hnil : [] ∈ nd) : ∀ (c j g : Nat) (σ : px_S) (pf : List Nat), j + c = Z → c < g → RB σ B → gA σ 56 P = nI Z → RPo σ B nd pf → PIn B nd pf → ∃ σ', f_M_findPool_89 F k26 k33 g m (nI 1) (nI P) (nI p) (nI (p + j)) (mh m h σ) = k33 m (nI 1) (nI (P + 1)) (mh m h σ') ∧ RPo σ' B nd (itr (fp1 B nd p) j c pf) ∧ PIn B nd (itr (fp1 B nd p) j c pf) ∧ FR [88, 89] [] poA [] σ σ' := by
  have hN : ∀ σ pf, RPo σ B nd pf → nd.length ≤ 65537 := fun σ pf hr => nodup_img (f := st B) 65537 _ hr.1.2.2.1 hn
  intro c
  induction c with
  | zero =>
    intro j g σ pf hj hg hb h56 hr hI
    obtain ⟨g, rfl⟩ : ∃ x, g = x + 1 := ⟨g - 1, by omega⟩
    unfold f_M_findPool_89 f_M_findPool_166
    rw [Mr56 hm, bs, Ma56 hm hP, bs, h56, nI_add, if_pos (nI_le (by omega) (by omega)), nI_add]
    exact ⟨σ, rfl, hr, hI, FR_refl σ⟩
  | succ c ih =>
    intro j g σ pf hj hg hb h56 hr hI
    obtain ⟨g, rfl⟩ : ∃ x, g = x + 1 := ⟨g - 1, by omega⟩
    unfold f_M_findPool_89 f_M_findPool_160
    rw [Mr56 hm, bs, Ma56 hm hP, bs, h56, nI_add, if_neg (nI_ge (by omega) (by omega)), Mr6 hm, bs, Ma6 hm (by omega), bs, itr_s, nI_add]
    have skip : fp1 B nd p j pf = pf → ∃ σ', f_M_findPool_89 F k26 k33 g m (nI 1) (nI P) (nI p) (nI (p + j + 1)) (mh m h σ) = k33 m (nI 1) (nI (P + 1)) (mh m h σ') ∧ RPo σ' B nd (itr (fp1 B nd p) (j + 1) c (fp1 B nd p j pf)) ∧ PIn B nd (itr (fp1 B nd p) (j + 1) c (fp1 B nd p j pf)) ∧ FR [88, 89] [] poA [] σ σ' := fun e => by
      rw [e]
      exact ih (j + 1) g σ pf (by omega) (by omega) hb h56 hr hI
    by_cases c0 : B (p + j) = 0
    · obtain ⟨σ1, k1, a1, a2, a3, a4, a5, a6⟩ := q_nodeOf (F := F) (h := h) (p := p) (d := j) hm hF hb hn hr (by omega) c0
      have hal2 := hal j (by omega) c0
      have e5 := a5 hal2
      have hf := frm_le (B := B) (p := p) j
      have hin : st B (frm B p j) ∈ nd := by
        by_cases q : frm B p j < p + j
        · exact hal2 _ (Nat.le_refl _) q
        · rw [show frm B p j = p + j by omega, st_0 (by omega) c0]; exact hnil
      obtain ⟨i, hi⟩ := Option.isSome_iff_exists.mp (idx_iff.mpr hin)
      have hil := idx_lt hi
      have hi2 : nd[i]? = some (st B (frm B p j)) := by have := idx_some hi; rw [Nat.sub_zero] at this; exact this
      have hk1 : k1 = i := by
        have h3 := idx_nd a3.1.2.2.1 a2
        have key : ∀ (x : List Nat), x ∈ ndS B p j nd → x ∈ nd := fun x hx => by
          rcases (ndS_mem j nd).mp hx with q | ⟨y, y1, y2, y3⟩
          · exact q
          · rw [y3]; exact hal2 y y1 y2
        have hnd : ndS B p j nd = nd := by
          have gen : ∀ (d : Nat), (∀ x, frm B p d ≤ x → x < p + d → st B x ∈ nd) → ndS B p d nd = nd := by
            intro d
            induction d with
            | zero => intro _; rfl
            | succ d ihd =>
              intro hh
              rw [ndS_s]
              by_cases cb : B (p + d) = 0
              · rw [if_pos cb]
              · rw [if_neg cb]
                rw [frm_s, if_neg cb] at hh
                have hfd := frm_le (B := B) (p := p) d
                have e1 : ent (st B (p + d)) nd = nd := by unfold ent; rw [if_pos (idx_iff.mpr (hh (p + d) hfd.2.1 (by omega)))]
                rw [e1]
                exact ihd (fun x h1 h2 => hh x h1 (by omega))
          exact gen j hal2
        rw [hnd] at h3
        rw [hi] at h3
        exact (Option.some.inj h3).symm
      rw [e5, hk1] at a1
      have h92 := (hr.1.2.2.2.2.2 i _ hi2).1
      have h94 := hr.2.1.1 i _ hi2
      have hNN := hN σ pf hr
      have hll := lst_le (nd := nd) (u := st B (frm B p j)) (nd.length + 1)
      rw [if_pos ((RB_0 hb _).mpr c0), e_o hm, bs, a1, xb_mk, if_pos rfl, Mr92 hm, bs, Ma92 hm (by omega), bs, h92]
      by_cases c1 : lst nd (st B (frm B p j)) (nd.length + 1) = 0
      · rw [if_pos (by rw [c1]; rfl), Mr94 hm, bs, Ma94 hm (by omega), bs, h94]
        cases ep : peO B 0 pf (st B (frm B p j)) with
        | some y =>
          have hy := peO_le ep
          have hsz := PIn_sz hI
          rw [if_pos (show (0 : Int32) ≤ tdA (some y) from nI_0le (by omega))]
          exact skip (by unfold fp1; rw [if_neg (fun q => by rw [ep] at q; exact nomatch q.2.2)])
        | none =>
          rw [if_neg (show ¬ (0 : Int32) ≤ tdA none by decide), e_o hm, bs]
          obtain ⟨σ2, b1, b2, b3, b4⟩ := q_toPool (F := F) (h := h) (p := p) (d := j) hm hF hb hn hr hI (by omega) c0 hin (lst_0.mp c1) ep
          rw [b1, xb_mk]
          have e1 : fp1 B nd p j pf = pf ++ [frm B p j] := by unfold fp1; rw [if_pos ⟨c0, c1, ep⟩]
          rw [e1]
          obtain ⟨σ3, d1, d2, d3, d4⟩ := ih (j + 1) g σ2 _ (by omega) (by omega) (RB_FR hb b4 (by decide)) (by rw [b4.2.2.1 56 (by decide)]; exact h56) b2 b3
          exact ⟨σ3, d1, d2, d3, FR_trans (FR_mono b4 (by decide) (by decide) (by decide) (by decide)) d4⟩
      · rw [if_neg (show ¬ nI (lst nd (st B (frm B p j)) (nd.length + 1)) = 0 from fun q => c1 ((nI_eq (b := 0) (by omega) (by decide)).mp q))]
        exact skip (by unfold fp1; rw [if_neg (fun q => c1 q.2.1)])
    · rw [if_neg (fun q => c0 ((RB_0 hb _).mp q))]
      exact skip (by unfold fp1; rw [if_neg (fun q => c0 q.1)])
end MFP
end
section
/-! findPool of the reference, as a whole -/
def pS (tO : Nat → Nat) (tb : Nat → Nat → Nat) (x : Nat) : Nat := tO (x / 24) + oP (tb (x / 24)) (x % 24)
def zS (tb : Nat → Nat → Nat) (x : Nat) : Nat := oZ (tb (x / 24)) (x % 24)
def sS (tb : Nat → Nat → Nat) (x : Nat) : Bool := oStr (tb (x / 24)) (x % 24)
def s0F (B : Nat → Nat) (tO : Nat → Nat) (tb : Nat → Nat → Nat) (nd : List (List Nat)) (x : Nat) : List (List Nat) := if sS tb x = true then itr (fp0 B (pS tO tb x)) 0 (zS tb x) nd else nd
def s1F (B : Nat → Nat) (nd : List (List Nat)) (tO : Nat → Nat) (tb : Nat → Nat → Nat) (pf : List Nat) (x : Nat) : List Nat := if sS tb x = true then itr (fp1 B nd (pS tO tb x)) 0 (zS tb x) pf else pf
def nd0 (B : Nat → Nat) (tO : Nat → Nat) (tb : Nat → Nat → Nat) (ll : List Nat) : List (List Nat) := ll.foldl (s0F B tO tb) [[]]
def pf0 (B : Nat → Nat) (tO : Nat → Nat) (tb : Nat → Nat → Nat) (ll : List Nat) : List Nat := ll.foldl (s1F B (nd0 B tO tb ll) tO tb) []
theorem fp0_mono {B : Nat → Nat} {p j : Nat} {nd : List (List Nat)} {w : List Nat} (h : w ∈ nd) : w ∈ fp0 B p j nd := by
  unfold fp0
  split
  · exact (ndS_mem j nd).mpr (Or.inl h)
  · exact h
theorem fp0s_mono {B : Nat → Nat} {p c j : Nat} {nd : List (List Nat)} {w : List Nat} (h : w ∈ nd) : w ∈ itr (fp0 B p) j c nd :=
  itr_inv (g := fp0 B p) (P := fun nd => w ∈ nd) (a := 0) (e := j + c) (fun i s _ _ hs => fp0_mono hs) c j nd (Nat.zero_le _) (Nat.le_refl _) h
theorem fp0s_all {B : Nat → Nat} {p Z : Nat} {nd : List (List Nat)} : allN B (itr (fp0 B p) 0 Z nd) p Z := by
  intro j hj hz
  exact (itr_hit (g := fp0 B p) (M := fun i s => B (p + i) = 0 → ∀ x, frm B p i ≤ x → x < p + i → st B x ∈ s) (v := fun i => i) (Q := fun _ => True) (a := 0) (e := Z) (fun i s w _ _ hw h0 x h1 h2 => fp0_mono (hw h0 x h1 h2)) (fun i s _ _ _ h0 x h1 h2 => by
    unfold fp0
    rw [if_pos h0]
    exact (ndS_mem i s).mpr (Or.inr ⟨x, h1, h2, rfl⟩)) Z 0 nd (Nat.le_refl _) (by omega)).2 j (Nat.zero_le _) (by omega) trivial hz
theorem s0F_mono {B : Nat → Nat} {tO : Nat → Nat} {tb : Nat → Nat → Nat} {w : List Nat} : ∀ (l : List Nat) (nd : List (List Nat)), w ∈ nd → w ∈ l.foldl (s0F B tO tb) nd := by
  intro l
  induction l with
  | nil => intro nd h; exact h
  | cons x l ih =>
    intro nd h
    rw [List.foldl_cons]
    refine ih _ ?_
    unfold s0F
    split
    · exact fp0s_mono h
    · exact h
theorem nd0_all {B : Nat → Nat} {tO : Nat → Nat} {tb : Nat → Nat → Nat} {x : Nat} (hs : sS tb x = true) : ∀ (l : List Nat) (nd : List (List Nat)), x ∈ l → allN B (l.foldl (s0F B tO tb) nd) (pS tO tb x) (zS tb x) := by
  intro l
  induction l with
  | nil => intro nd h; exact absurd h List.not_mem_nil
  | cons y l ih =>
    intro nd h
    rw [List.foldl_cons]
    rcases List.mem_cons.mp h with e | e
    · intro j hj h0 z h1 h2
      refine s0F_mono l _ ?_
      rw [← e]
      unfold s0F
      rw [if_pos hs]
      exact fp0s_all j hj h0 z h1 h2
    · exact ih _ e
/-- what findPool reads -/
def RWp (σ : px_S) (T : Nat) (tO tn tq : Nat → Nat) (tb : Nat → Nat → Nat) (ll : List Nat) (B : Nat → Nat) : Prop := (∀ t, t < T → OB σ t (tO t) (tn t) (tb t)) ∧ RLa σ tq tb ll ∧ RB σ B
theorem RWp_FR {σ σ' : px_S} {I J A Bs : List Nat} {T : Nat} {tO tn tq : Nat → Nat} {tb : Nat → Nat → Nat} {ll : List Nat} {B : Nat → Nat} (h : RWp σ T tO tn tq tb ll B) (f : FR I J A Bs σ σ') (h50 : 50 ∉ I) (hA : ∀ k, k ∈ [6, 9, 17, 51, 52, 53, 54, 55, 56] → k ∉ A) : RWp σ' T tO tn tq tb ll B :=
  ⟨fun t ht => OB_FR (h.1 t ht) f ⟨hA 6 (by decide), hA 9 (by decide), hA 17 (by decide)⟩, RLa_FR h.2.1 f h50 (fun k hk => hA k (by revert k; decide)), RB_FR h.2.2 f (hA 6 (by decide))⟩
def llP (T : Nat) (tb : Nat → Nat → Nat) (ll : List Nat) : Prop := ll.length ≤ 1536 ∧ ∀ x, x ∈ ll → x / 24 < T ∧ 1 ≤ x % 24 ∧ x % 24 < oS (tb (x / 24))
section MFQ
variable {F m T : Nat} {h : px_H} {B : Nat → Nat} {tO tn tq : Nat → Nat} {tb : Nat → Nat → Nat} {ll : List Nat} {k26 : Nat → Int32 → px_H → Option (Unit × px_H)}
theorem sS_in {σ : px_S} {x : Nat} (hW : RWp σ T tO tn tq tb ll B) (hx : x / 24 < T ∧ 1 ≤ x % 24 ∧ x % 24 < oS (tb (x / 24))) (hs : sS tb x = true) : pS tO tb x + zS tb x ≤ 65536 := by
  have hb := hW.1 _ hx.1
  unfold sS at hs
  have : oStr0 (tb (x / 24)) (x % 24) = true := by unfold oStr at hs; rw [Bool.and_eq_true] at hs; exact hs.1
  unfold oStr0 at this
  have := of_decide_eq_true this
  have h1 := oK_in (OB_w hb).1 hx.2.2 this.1 this.2.1
  have h2 := hb.2.2.1
  unfold pS zS
  omega
theorem q_fP_33a (hm : m ≤ h.length) (hF : 65540 < F) (hl : llP T tb ll) : ∀ (c P g : Nat) (σ : px_S) (nd : List (List Nat)) (pf : List Nat), P + c = ll.length → c < g → RWp σ T tO tn tq tb ll B → ndB B nd → RPo σ B nd pf → ∃ σ', f_M_findPool_33 F k26 g m (nI 0) (nI P) (mh m h σ) = k26 m (nI 1) (mh m h σ') ∧ RPo σ' B ((ll.drop P).foldl (s0F B tO tb) nd) pf ∧ ndB B ((ll.drop P).foldl (s0F B tO tb) nd) ∧ FR [89] [] trA [] σ σ' := by
  intro c
  induction c with
  | zero =>
    intro P g σ nd pf hP hg hW hn hr
    obtain ⟨g, rfl⟩ : ∃ x, g = x + 1 := ⟨g - 1, by omega⟩
    have := hl.1
    unfold f_M_findPool_33 f_M_findPool_172
    rw [Mg50 hm, bs, hW.2.1.1, if_pos (nI_le (by omega) (by omega)), nI_add, List.drop_eq_nil_of_le (by omega)]
    exact ⟨σ, rfl, hr, hn, FR_refl σ⟩
  | succ c ih =>
    intro P g σ nd pf hP hg hW hn hr
    obtain ⟨g, rfl⟩ : ∃ x, g = x + 1 := ⟨g - 1, by omega⟩
    have hl1 := hl.1
    have hPl : P < ll.length := by omega
    have hx := List.getElem?_eq_getElem hPl
    rw [List.drop_eq_getElem_cons hPl, List.foldl_cons]
    have hx2 := hl.2 _ (List.getElem_mem hPl)
    generalize ll[P] = x at *
    have hb := hW.1 _ hx2.1
    obtain ⟨r1, r2, r3, r4, r5, r6⟩ := hW.2.1.2 P x hx
    unfold f_M_findPool_33 f_M_findPool_166
    rw [Mg50 hm, bs, hW.2.1.1, if_neg (nI_ge (by omega) (by omega)), Mr51 hm, bs, Ma51 hm (by omega), bs, r1, e_o hm, bs, O_obj hm hb, xb_mk, Mr54 hm, bs, Ma54 hm (by omega), bs, r4, e_o hm, bs, q_isStrings hm (by omega) hb hx2.2.2, xb_mk, nI_add]
    cases es : oStr (tb (x / 24)) (x % 24) with
    | false =>
      have e0 : s0F B tO tb nd x = nd := by unfold s0F sS; rw [es, if_neg (by decide)]
      rw [if_pos (show bI false = 0 from rfl), e0]
      exact ih (P + 1) g σ nd pf (by omega) (by omega) hW hn hr
    | true =>
      have hin := sS_in hW hx2 es
      have e0 : s0F B tO tb nd x = itr (fp0 B (pS tO tb x)) 0 (zS tb x) nd := by unfold s0F sS; rw [es, if_pos rfl]
      rw [if_neg (show ¬ bI true = 0 by decide), Mr54 hm, bs, Ma54 hm (by omega), bs, r4, e_o hm, bs, O_beg hm (by omega) hb hx2.2.2, xb_mk, lN_i, nI_add, e0]
      obtain ⟨σ1, a1, a2, a3, a4⟩ := q_fP_89a (F := F) (h := h) (k26 := k26) (k33 := f_M_findPool_33 F k26 g) (p := pS tO tb x) (P := P) (Z := zS tb x) hm hF (by omega) hin (zS tb x) 0 F σ nd pf (by omega) (by omega) hW.2.2 r6 hn hr
      rw [Nat.add_zero] at a1
      rw [show tO (x / 24) + oP (tb (x / 24)) (x % 24) = pS tO tb x from rfl, a1]
      obtain ⟨σ2, b1, b2, b3, b4⟩ := ih (P + 1) g σ1 _ pf (by omega) (by omega) (RWp_FR hW a4 (by decide) (by decide)) a3 a2
      exact ⟨σ2, b1, b2, b3, FR_trans a4 b4⟩
theorem q_fP_33b {nd : List (List Nat)} (hm : m ≤ h.length) (hF : 65540 < F) (hl : llP T tb ll) (hn : ndB B nd) (hnil : [] ∈ nd) (hal : ∀ x, x ∈ ll → sS tb x = true → allN B nd (pS tO tb x) (zS tb x)) : ∀ (c P g : Nat) (σ : px_S) (pf : List Nat), P + c = ll.length → c < g → RWp σ T tO tn tq tb ll B → RPo σ B nd pf → PIn B nd pf → ∃ σ', f_M_findPool_33 F k26 g m (nI 1) (nI P) (mh m h σ) = k26 m (nI 2) (mh m h σ') ∧ RPo σ' B nd ((ll.drop P).foldl (s1F B nd tO tb) pf) ∧ PIn B nd ((ll.drop P).foldl (s1F B nd tO tb) pf) ∧ FR [88, 89] [] poA [] σ σ' := by
  intro c
  induction c with
  | zero =>
    intro P g σ pf hP hg hW hr hI
    obtain ⟨g, rfl⟩ : ∃ x, g = x + 1 := ⟨g - 1, by omega⟩
    have := hl.1
    unfold f_M_findPool_33 f_M_findPool_172
    rw [Mg50 hm, bs, hW.2.1.1, if_pos (nI_le (by omega) (by omega)), nI_add, List.drop_eq_nil_of_le (by omega)]
    exact ⟨σ, rfl, hr, hI, FR_refl σ⟩
  | succ c ih =>
    intro P g σ pf hP hg hW hr hI
    obtain ⟨g, rfl⟩ : ∃ x, g = x + 1 := ⟨g - 1, by omega⟩
    have hl1 := hl.1
    have hPl : P < ll.length := by omega
    have hx := List.getElem?_eq_getElem hPl
    rw [List.drop_eq_getElem_cons hPl, List.foldl_cons]
    have hx2 := hl.2 _ (List.getElem_mem hPl)
    have hx3 := hal _ (List.getElem_mem hPl)
    generalize ll[P] = x at *
    have hb := hW.1 _ hx2.1
    obtain ⟨r1, r2, r3, r4, r5, r6⟩ := hW.2.1.2 P x hx
    unfold f_M_findPool_33 f_M_findPool_166
    rw [Mg50 hm, bs, hW.2.1.1, if_neg (nI_ge (by omega) (by omega)), Mr51 hm, bs, Ma51 hm (by omega), bs, r1, e_o hm, bs, O_obj hm hb, xb_mk, Mr54 hm, bs, Ma54 hm (by omega), bs, r4, e_o hm, bs, q_isStrings hm (by omega) hb hx2.2.2, xb_mk, nI_add]
    cases es : oStr (tb (x / 24)) (x % 24) with
    | false =>
      have e0 : s1F B nd tO tb pf x = pf := by unfold s1F sS; rw [es, if_neg (by decide)]
      rw [if_pos (show bI false = 0 from rfl), e0]
      exact ih (P + 1) g σ pf (by omega) (by omega) hW hr hI
    | true =>
      have hin := sS_in hW hx2 es
      have e0 : s1F B nd tO tb pf x = itr (fp1 B nd (pS tO tb x)) 0 (zS tb x) pf := by unfold s1F sS; rw [es, if_pos rfl]
      rw [if_neg (show ¬ bI true = 0 by decide), Mr54 hm, bs, Ma54 hm (by omega), bs, r4, e_o hm, bs, O_beg hm (by omega) hb hx2.2.2, xb_mk, lN_i, nI_add, e0]
      obtain ⟨σ1, a1, a2, a3, a4⟩ := q_fP_89b (F := F) (h := h) (k26 := k26) (k33 := f_M_findPool_33 F k26 g) (p := pS tO tb x) (P := P) (Z := zS tb x) hm hF (by omega) hin hn (hx3 es) hnil (zS tb x) 0 F σ pf (by omega) (by omega) hW.2.2 r6 hr hI
      rw [Nat.add_zero] at a1
      rw [show tO (x / 24) + oP (tb (x / 24)) (x % 24) = pS tO tb x from rfl, a1]
      obtain ⟨σ2, b1, b2, b3, b4⟩ := ih (P + 1) g σ1 _ (by omega) (by omega) (RWp_FR hW a4 (by decide) (by decide)) a2 a3
      exact ⟨σ2, b1, b2, b3, FR_trans a4 b4⟩
theorem q_findPool {σ : px_S} (hm : m ≤ h.length) (hF : 65540 < F) (hl : llP T tb ll) (hW : RWp σ T tO tn tq tb ll B) (h91 : ∀ k, isB (gA σ 91 k)) : ∃ σ', f_M_findPool F m (mh m h σ) = some ((), mh m h σ') ∧ RPo σ' B (nd0 B tO tb ll) (pf0 B tO tb ll) ∧ PIn B (nd0 B tO tb ll) (pf0 B tO tb ll) ∧ ndB B (nd0 B tO tb ll) ∧ FR [88, 89] [] poA [] σ σ' := by
  obtain ⟨σ1, hσ1⟩ : ∃ x, x = sI (sA (sA (sI σ 89 (nI 2)) 92 (upd (gA σ 92) 1 (nI 0))) 94 (upd (gA σ 94) 1 (Int32.ofInt (-1)))) 88 (nI 0) := ⟨_, rfl⟩
  have f1 : FR [88, 89] [] poA [] σ σ1 := by
    rw [hσ1]
    exact FR_trans (FR_mono (FR_I σ 89 _) (by decide) (by decide) (by decide) (by decide)) (FR_trans (FR_mono (FR_A _ 92 _) (by decide) (by decide) (by decide) (by decide)) (FR_trans (FR_mono (FR_A _ 94 _) (by decide) (by decide) (by decide) (by decide)) (FR_mono (FR_I _ 88 _) (by decide) (by decide) (by decide) (by decide))))
  have g92 : gA σ1 92 = upd (gA σ 92) 1 (nI 0) := by rw [hσ1]; rfl
  have g94 : gA σ1 94 = upd (gA σ 94) 1 (Int32.ofInt (-1)) := by rw [hσ1]; rfl
  have g91 : gA σ1 91 = gA σ 91 := by rw [hσ1]; rfl
  have hr1 : RPo σ1 B [[]] [] := by
    refine ⟨⟨by rw [hσ1]; rfl, rfl, List.nodup_cons.mpr ⟨List.not_mem_nil, List.nodup_nil⟩, fun s hs x hx => ?_, fun c v hv => ?_, fun k u hu => ?_⟩, ⟨fun k u hu => ?_, fun u _ => rfl⟩, by rw [hσ1]; rfl, by rw [g91]; exact h91⟩
    · rw [List.mem_singleton.mp hs] at hx; exact absurd hx List.not_mem_nil
    · have := List.mem_singleton.mp hv; cases this
    · have hk := (List.getElem?_eq_some_iff.mp hu).1
      have hk : k < 1 := hk
      have ek : k = 0 := by omega
      rw [ek] at hu ⊢
      have hu : [] = u := Option.some.inj hu
      rw [g92, ← hu]
      exact ⟨upd_eq, fun c v hv => nomatch hv⟩
    · have hk := (List.getElem?_eq_some_iff.mp hu).1
      have hk : k < 1 := hk
      have ek : k = 0 := by omega
      rw [ek, g94]
      exact upd_eq
  have hn1 : ndB B [[]] := fun s hs => ⟨65536, by decide, by rw [List.mem_singleton.mp hs]; rfl⟩
  have hW1 := RWp_FR hW f1 (by decide) (by decide)
  have hl1 := hl.1
  obtain ⟨F1, hF1⟩ : ∃ x, F = x + 3 := ⟨F - 3, by omega⟩
  obtain ⟨σ2, a1, a2, a3, a4⟩ := q_fP_33a (F := F) (h := h) (k26 := f_M_findPool_26 F (F1 + 2)) hm hF hl ll.length 0 F σ1 [[]] [] (by omega) (by omega) hW1 hn1 hr1
  rw [List.drop_zero] at a2 a3
  have hnil : [] ∈ nd0 B tO tb ll := s0F_mono ll _ List.mem_cons_self
  obtain ⟨σ3, b1, b2, b3, b4⟩ := q_fP_33b (F := F) (h := h) (k26 := f_M_findPool_26 F (F1 + 1)) (nd := nd0 B tO tb ll) hm hF hl a3 hnil (fun x hx hs => nd0_all hs ll _ hx) ll.length 0 F σ2 [] (by omega) (by omega) (RWp_FR hW1 a4 (by decide) (by decide)) a2 ⟨List.nodup_nil, fun f hf => absurd hf List.not_mem_nil⟩
  rw [List.drop_zero] at b2 b3
  refine ⟨σ3, ?_, b2, b3, a3, FR_trans f1 (FR_trans (FR_mono a4 (by decide) (by decide) (by decide) (by decide)) b4)⟩
  unfold f_M_findPool
  rw [Mp89 hm, bs, Mr92 hm, bs, show nI 1 = nI (0 + 1) from rfl, Ms92 hm (by omega), bs, Mr94 hm, bs, Ms94 hm (by omega), bs, Mp88 hm, bs]
  rw [show mh m h (sI (sA (sA (sI σ 89 (nI 2)) 92 (upd (gA (sI σ 89 (nI 2)) 92) (0 + 1) (nI 0))) 94 (upd (gA (sA (sI σ 89 (nI 2)) 92 (upd (gA (sI σ 89 (nI 2)) 92) (0 + 1) (nI 0))) 94) (0 + 1) (Int32.ofInt (-1)))) 88 (nI 0)) = mh m h σ1 by rw [hσ1]; rfl]
  rw [show f_M_findPool_26 F F m = f_M_findPool_26 F (F1 + 3) m by rw [← hF1]]
  unfold f_M_findPool_26 f_M_findPool_178
  rw [if_neg (by decide), a1]
  unfold f_M_findPool_26 f_M_findPool_178
  rw [if_neg (by decide), b1]
  unfold f_M_findPool_26 f_M_findPool_178
  rw [if_pos (by decide)]
end MFQ
end
section
/-! every string has its place in the pool; byteAddress of the reference -/
theorem sufB_tr {u v : List Nat} : ∀ {w : List Nat}, sufB u v = true → sufB v w = true → sufB u w = true := by
  intro w
  induction w with
  | nil => intro h1 h2; rw [of_decide_eq_true h2] at h1; exact h1
  | cons c w ih =>
    intro h1 h2
    rw [show sufB v (c :: w) = (decide (v = c :: w) || sufB v w) from rfl, Bool.or_eq_true] at h2
    rcases h2 with h2 | h2
    · rw [of_decide_eq_true h2] at h1; exact h1
    · show (decide (u = c :: w) || sufB u w) = true
      rw [ih h1 h2, Bool.or_true]
theorem sufB_c {c : Nat} {u : List Nat} : sufB u (c :: u) = true := by
  show (decide (u = c :: u) || sufB u u) = true
  rw [sufB_refl, Bool.or_true]
theorem peO_mono {B : Nat → Nat} {pf : List Nat} {f : Nat} {u : List Nat} (h : (peO B 0 pf u).isSome = true) : (peO B 0 (pf ++ [f]) u).isSome = true := by
  obtain ⟨g, g1, g2⟩ := peO_some.mp h
  exact peO_some.mpr ⟨g, List.mem_append_left _ g1, g2⟩
theorem fp1_mono {B : Nat → Nat} {nd : List (List Nat)} {p j : Nat} {pf : List Nat} {u : List Nat} (h : (peO B 0 pf u).isSome = true) : (peO B 0 (fp1 B nd p j pf) u).isSome = true := by
  unfold fp1
  split
  · exact peO_mono h
  · exact h
theorem s1F_mono {B : Nat → Nat} {nd : List (List Nat)} {tO : Nat → Nat} {tb : Nat → Nat → Nat} {u : List Nat} : ∀ (l : List Nat) (pf : List Nat), (peO B 0 pf u).isSome = true → (peO B 0 (l.foldl (s1F B nd tO tb) pf) u).isSome = true := by
  intro l
  induction l with
  | nil => intro pf h; exact h
  | cons x l ih =>
    intro pf h
    rw [List.foldl_cons]
    refine ih _ ?_
    unfold s1F
    split
    · exact itr_inv (g := fp1 B nd (pS tO tb x)) (P := fun pf => (peO B 0 pf u).isSome = true) (a := 0) (e := zS tb x) (fun i s _ _ hs => fp1_mono hs) (zS tb x) 0 pf (Nat.le_refl _) (by omega) h
    · exact h
theorem fp1_hit {B : Nat → Nat} {nd : List (List Nat)} {p Z : Nat} {pf : List Nat} {j : Nat} (hj : j < Z) (h0 : B (p + j) = 0) (hc : noC nd (st B (frm B p j))) : (peO B 0 (itr (fp1 B nd p) 0 Z pf) (st B (frm B p j))).isSome = true := by
  refine (itr_hit (g := fp1 B nd p) (M := fun (u : List Nat) pf => (peO B 0 pf u).isSome = true) (v := fun i => st B (frm B p i)) (Q := fun i => B (p + i) = 0 ∧ noC nd (st B (frm B p i))) (a := 0) (e := Z) (fun i s w _ _ hw => fp1_mono hw) (fun i s _ _ hq => ?_) Z 0 pf (Nat.le_refl _) (by omega)).2 j (Nat.zero_le _) (by omega) ⟨h0, hc⟩
  unfold fp1
  cases e : peO B 0 s (st B (frm B p i)) with
  | some y =>
    rw [if_neg (fun q => nomatch q.2.2)]
    rw [e]; rfl
  | none =>
    rw [if_pos ⟨hq.1, lst_0.mpr hq.2, rfl⟩]
    exact peO_some.mpr ⟨frm B p i, List.mem_append_right _ (List.mem_singleton.mpr rfl), sufB_refl⟩
theorem pf0_hit {B : Nat → Nat} {nd : List (List Nat)} {tO : Nat → Nat} {tb : Nat → Nat → Nat} {x j : Nat} (hs : sS tb x = true) (hj : j < zS tb x) (h0 : B (pS tO tb x + j) = 0) (hc : noC nd (st B (frm B (pS tO tb x) j))) : ∀ (l : List Nat) (pf : List Nat), x ∈ l → (peO B 0 (l.foldl (s1F B nd tO tb) pf) (st B (frm B (pS tO tb x) j))).isSome = true := by
  intro l
  induction l with
  | nil => intro pf h; exact absurd h List.not_mem_nil
  | cons y l ih =>
    intro pf h
    rw [List.foldl_cons]
    rcases List.mem_cons.mp h with e | e
    · refine s1F_mono l _ ?_
      rw [← e]
      unfold s1F
      rw [if_pos hs]
      exact fp1_hit hj h0 hc
    · exact ih _ e
/-- a node is an end of a string -/
def ndC (B : Nat → Nat) (tO : Nat → Nat) (tb : Nat → Nat → Nat) (ll : List Nat) (w : List Nat) : Prop := w = [] ∨ ∃ x j y, x ∈ ll ∧ sS tb x = true ∧ j < zS tb x ∧ B (pS tO tb x + j) = 0 ∧ frm B (pS tO tb x) j ≤ y ∧ y < pS tO tb x + j ∧ w = st B y
theorem nd0_char {B : Nat → Nat} {tO : Nat → Nat} {tb : Nat → Nat → Nat} {ll : List Nat} : ∀ (l : List Nat) (nd : List (List Nat)), (∀ x, x ∈ l → x ∈ ll) → (∀ w, w ∈ nd → ndC B tO tb ll w) → ∀ w, w ∈ l.foldl (s0F B tO tb) nd → ndC B tO tb ll w := by
  intro l
  induction l with
  | nil => intro nd _ h w hw; exact h w hw
  | cons x l ih =>
    intro nd hl h
    rw [List.foldl_cons]
    refine ih _ (fun y hy => hl y (List.mem_cons_of_mem _ hy)) ?_
    unfold s0F
    split
    · rename_i hs
      refine itr_inv (g := fp0 B (pS tO tb x)) (P := fun nd => ∀ w, w ∈ nd → ndC B tO tb ll w) (a := 0) (e := zS tb x) (fun j s _ hj hs2 w hw => ?_) (zS tb x) 0 nd (Nat.le_refl _) (by omega) h
      unfold fp0 at hw
      split at hw
      · rename_i h0
        rcases (ndS_mem j s).mp hw with q | ⟨y, y1, y2, y3⟩
        · exact hs2 w q
        · exact Or.inr ⟨x, j, y, hl x List.mem_cons_self, hs, hj, h0, y1, y2, y3⟩
      · exact hs2 w hw
    · exact h
theorem st_le {B : Nat → Nat} {x : Nat} : (st B x).length ≤ 65536 := by
  unfold st
  have : ∀ (c x : Nat), (rst B x c).length ≤ c := by
    intro c
    induction c with
    | zero => intro x; exact Nat.le_refl _
    | succ c ih =>
      intro x
      show (if B x = 0 then [] else B x :: rst B (x + 1) c).length ≤ c + 1
      split
      · exact Nat.zero_le _
      · rw [List.length_cons]; have := ih (x + 1); omega
  have := this (65536 - x) x
  omega
theorem noC_ex {B : Nat → Nat} {nd : List (List Nat)} (hn : ndB B nd) : ∀ (d : Nat) (s : List Nat), 65537 - s.length ≤ d → s ∈ nd → ∃ w, w ∈ nd ∧ noC nd w ∧ sufB s w = true := by
  intro d
  induction d with
  | zero =>
    intro s hd hs
    obtain ⟨x, _, hx⟩ := hn s hs
    have := st_le (B := B) (x := x)
    rw [← hx] at this
    omega
  | succ d ih =>
    intro s hd hs
    by_cases c : noC nd s
    · exact ⟨s, hs, c, sufB_refl⟩
    · have : ∃ c, c :: s ∈ nd := Classical.byContradiction (fun q => c (fun c hc => q ⟨c, hc⟩))
      obtain ⟨c, hc⟩ := this
      obtain ⟨w, w1, w2, w3⟩ := ih (c :: s) (by rw [List.length_cons]; omega) hc
      exact ⟨w, w1, w2, sufB_tr sufB_c w3⟩
/-- every string stands in the pool -/
theorem pf0_all {B : Nat → Nat} {tO : Nat → Nat} {tb : Nat → Nat → Nat} {ll : List Nat} {x j : Nat} (hn : ndB B (nd0 B tO tb ll)) (hin : ∀ x, x ∈ ll → sS tb x = true → pS tO tb x + zS tb x ≤ 65536) (hx : x ∈ ll) (hs : sS tb x = true) (hj : j < zS tb x) (h0 : B (pS tO tb x + j) = 0) : (peO B 0 (pf0 B tO tb ll) (st B (frm B (pS tO tb x) j))).isSome = true := by
  have hb := hin x hx hs
  have hal := nd0_all (B := B) (tO := tO) hs ll [[]] hx
  have hf := frm_le (B := B) (p := pS tO tb x) j
  by_cases c0 : noC (nd0 B tO tb ll) (st B (frm B (pS tO tb x) j))
  · exact pf0_hit hs hj h0 c0 ll [] hx
  · have hmem : st B (frm B (pS tO tb x) j) ∈ nd0 B tO tb ll := by
      by_cases q : frm B (pS tO tb x) j < pS tO tb x + j
      · exact hal j hj h0 _ (Nat.le_refl _) q
      · rw [show frm B (pS tO tb x) j = pS tO tb x + j by omega, st_0 (by omega) h0]
        exact s0F_mono ll _ List.mem_cons_self
    obtain ⟨w, w1, w2, w3⟩ := noC_ex hn 65537 _ (by omega) hmem
    have hchar := nd0_char (B := B) (tO := tO) (tb := tb) (ll := ll) ll [[]] (fun x hx => hx) (fun w hw => Or.inl (List.mem_singleton.mp hw)) w w1
    rcases hchar with e | ⟨x', j', y, x1, x2, x3, x4, x5, x6, x7⟩
    · exfalso
      rw [e] at w3 w2
      have : st B (frm B (pS tO tb x) j) = [] := of_decide_eq_true w3
      rw [this] at c0
      exact c0 w2
    · have hb' := hin x' x1 x2
      have hf' := frm_le (B := B) (p := pS tO tb x') j'
      have ey : y = frm B (pS tO tb x') j' := by
        by_cases q : y = frm B (pS tO tb x') j'
        · exact q
        · exfalso
          have hal' := nd0_all (B := B) (tO := tO) x2 ll [[]] x1
          have h1 := hal' j' x3 x4 (y - 1) (by omega) (by omega)
          rw [st_n (by omega) (hf'.2.2 (y - 1) (by omega) (by omega)), show y - 1 + 1 = y by omega, ← x7] at h1
          exact w2 _ h1
      rw [x7, ey] at w2 w3
      have := pf0_hit x2 x3 x4 w2 ll [] x1
      obtain ⟨f, f1, f2⟩ := peO_some.mp this
      exact peO_some.mpr ⟨f, f1, sufB_tr w3 f2⟩
section MBA
variable {F m p : Nat} {h : px_H} {B : Nat → Nat}
theorem q_nO_80 {σ : px_S} {nd : List (List Nat)} (hm : m ≤ h.length) (hF : 65540 < F) (hb : RB σ B) (ht : TR σ nd) (hN : nd.length ≤ 65538) : ∀ (d k g : Nat), d < g → p + d ≤ 65535 → (∀ x, frm B p d ≤ x → x < p + d → st B x ∈ nd) → nd[k]? = some (st B (p + d)) → ∃ k', f_M_nodeOf_8 F g m (nI p) (nI 0) (nI (k + 1)) (nI (p + d) - nI 1) (mh m h σ) = some (nI (k' + 1), mh m h σ) ∧ nd[k']? = some (st B (frm B p d)) := by
  intro d
  induction d with
  | zero =>
    intro k g hg hp hx hk
    obtain ⟨g, rfl⟩ : ∃ x, g = x + 1 := ⟨g - 1, by omega⟩
    unfold f_M_nodeOf_8 f_M_nodeOf_46
    rw [if_pos (by rw [Nat.add_zero]; exact back_lt (by omega))]
    exact ⟨k, rfl, hk⟩
  | succ d ih =>
    intro k g hg hp hx hk
    obtain ⟨g, rfl⟩ : ∃ x, g = x + 1 := ⟨g - 1, by omega⟩
    have e1 : nI (p + (d + 1)) - nI 1 = nI (p + d) := by rw [pk_sub (by omega)]; rfl
    unfold f_M_nodeOf_8 f_M_nodeOf_46
    rw [e1, if_neg (nI_nlt (by omega) (by omega)), Mr6 hm, bs, Ma6 hm (by omega), bs, bs, frm_s]
    rw [frm_s] at hx
    by_cases c : B (p + d) = 0
    · rw [if_pos ((RB_0 hb _).mpr c), if_pos c]
      exact ⟨k, rfl, hk⟩
    · rw [if_neg c] at hx
      have hf := frm_le (B := B) (p := p) d
      have es : st B (p + d) = B (p + d) :: st B (p + (d + 1)) := st_n (by omega) c
      have hin := hx (p + d) hf.2.1 (by omega)
      obtain ⟨σ1, a1, a2, a3, a4, a5⟩ := q_childOf7 (F := F) (mk := nI 0) (h := h) hm hF ht hN (RB_lt hb (p + d)) hk (by rw [← es]; exact hin)
      rw [← es] at a1 a3
      rw [a3 hin] at a1
      obtain ⟨i, hi⟩ := Option.isSome_iff_exists.mp (idx_iff.mpr hin)
      have hip : plc (st B (p + d)) nd = i := by unfold plc; rw [hi]; rfl
      have hin2 : nd[i]? = some (st B (p + d)) := by have := idx_some hi; rw [Nat.sub_zero] at this; exact this
      rw [if_neg (fun q => c ((RB_0 hb _).mp q)), if_neg c, e_o hm, Ma6 hm (by omega), bs, bs, RB_byt hb, a1, xb_mk, nI_back, hip]
      exact ih i g (by omega) (by omega) (fun x h1 h2 => hx x h1 (by omega)) hin2
/-- the next byte 0 from j on -/
def nxt (B : Nat → Nat) (p : Nat) : Nat → Nat → Nat
  | j, 0 => j
  | j, c + 1 => if B (p + j) = 0 then j else nxt B p (j + 1) c
theorem nxt_s {j c : Nat} : nxt B p j (c + 1) = if B (p + j) = 0 then j else nxt B p (j + 1) c := rfl
theorem nxt_0 {Z : Nat} (hz : B (p + (Z - 1)) = 0) : ∀ (c j : Nat), j + c = Z → 0 < c → B (p + nxt B p j c) = 0 ∧ j ≤ nxt B p j c ∧ nxt B p j c < Z := by
  intro c
  induction c with
  | zero => intro j _ h; omega
  | succ c ih =>
    intro j hj _
    rw [nxt_s]
    by_cases c0 : B (p + j) = 0
    · rw [if_pos c0]; exact ⟨c0, Nat.le_refl _, by omega⟩
    · rw [if_neg c0]
      cases c with
      | zero => rw [show Z - 1 = j by omega] at hz; exact absurd hz c0
      | succ c =>
        have := ih (j + 1) (by omega) (by omega)
        exact ⟨this.1, by omega, this.2.2⟩
theorem q_bA_46 {σ : px_S} {V : Int64} {Z : Nat} (hm : m ≤ h.length) (hb : RB σ B) (hp : p + Z ≤ 65536) (hz : B (p + (Z - 1)) = 0) : ∀ (c j g : Nat), j + c = Z → 0 < c → c < g → f_M_byteAddress_46 F g m V (nI p) (nI (p + j)) (mh m h σ) = f_M_byteAddress_62 F m V (nI p) (nI (p + nxt B p j c)) (mh m h σ) := by
  intro c
  induction c with
  | zero => intro j g _ h; omega
  | succ c ih =>
    intro j g hj _ hg
    obtain ⟨g, rfl⟩ : ∃ x, g = x + 1 := ⟨g - 1, by omega⟩
    unfold f_M_byteAddress_46
    rw [Mr6 hm, bs, Ma6 hm (by omega), bs, nxt_s]
    by_cases c0 : B (p + j) = 0
    · rw [if_pos ((RB_0 hb _).mpr c0), if_pos c0]
    · rw [if_neg (fun q => c0 ((RB_0 hb _).mp q)), if_neg c0, nI_add]
      cases c with
      | zero => rw [show Z - 1 = j by omega] at hz; exact absurd hz c0
      | succ c => exact ih (j + 1) g (by omega) (by omega) (by omega)
/-- where byte V of the section at p, of Z bytes, stands in the pool -/
def baN (B : Nat → Nat) (pf : List Nat) (p Z V : Nat) : Nat := if V < Z then (peO B 0 pf (st B (frm B p (nxt B p V (Z - V))))).getD 0 - (nxt B p V (Z - V) + 1 - V) else psz B pf
theorem q_byteAddress {σ : px_S} {T t i V pp : Nat} {tO tn tq : Nat → Nat} {tb : Nat → Nat → Nat} {ll : List Nat} (hm : m ≤ h.length) (hF : 65540 < F) (hW : RWp σ T tO tn tq tb ll B) (hl : llP T tb ll) (hn : ndB B (nd0 B tO tb ll)) (hr : RPo σ B (nd0 B tO tb ll) (pf0 B tO tb ll)) (hI : PIn B (nd0 B tO tb ll) (pf0 B tO tb ll)) (hx : 24 * t + i ∈ ll) (hi24 : i < 24) (hs : oStr (tb t) i = true) (hV : V < 2 ^ 64) (h90 : gJ σ 90 = lN pp) : f_M_byteAddress F m (nI (tO t)) (nI i) (lN V) (mh m h σ) = some (lN (pp + baN B (pf0 B tO tb ll) (tO t + oP (tb t) i) (oZ (tb t) i) V), mh m h σ) := by
  have e1 : (24 * t + i) / 24 = t := by omega
  have e2 : (24 * t + i) % 24 = i := by omega
  have hx2 := hl.2 _ hx
  rw [e1, e2] at hx2
  have hb := hW.1 t hx2.1
  have hsS : sS tb (24 * t + i) = true := by unfold sS; rw [e1, e2]; exact hs
  have epS : pS tO tb (24 * t + i) = tO t + oP (tb t) i := by unfold pS; rw [e1, e2]
  have ezS : zS tb (24 * t + i) = oZ (tb t) i := by unfold zS; rw [e1, e2]
  have hin := sS_in hW (by rw [e1, e2]; exact hx2) hsS
  rw [epS, ezS] at hin
  have hszP := PIn_sz hI
  have e17 : f_M_byteAddress_17 F m (mh m h σ) = some (lN (pp + psz B (pf0 B tO tb ll)), mh m h σ) := by
    unfold f_M_byteAddress_17
    rw [Mg90 hm, bs, Mg88 hm, bs, h90, hr.2.2.1, nI_l (by omega), lN_add]
  unfold f_M_byteAddress baN
  by_cases c1 : V < oZ (tb t) i
  · have hz0 : B (tO t + oP (tb t) i + (oZ (tb t) i - 1)) = 0 := by
      have h0 : oStr0 (tb t) i = true := by unfold oStr at hs; rw [Bool.and_eq_true] at hs; exact hs.1
      unfold oStr0 at h0
      have h0 := of_decide_eq_true h0
      have h5 := h0.2.2.2.2.2
      have hlt := oK_in (OB_w hb).1 hx2.2.2 h0.1 h0.2.1
      have h6 := O_b8 hb (show oP (tb t) i + oZ (tb t) i - 1 < tn t by omega)
      rw [hW.2.2.2, show tO t + oP (tb t) i + (oZ (tb t) i - 1) = tO t + (oP (tb t) i + oZ (tb t) i - 1) by omega, h6, h5]
    have hnx := nxt_0 (B := B) (p := tO t + oP (tb t) i) hz0 (oZ (tb t) i - V) V (by omega) (by omega)
    rw [if_neg (show ¬ lN V < lN 0 from fun q => by have := (pk_lLT (a := V) (b := 0) (by omega) (by decide)).mp q; omega), e_o hm, bs, O_size hm (by omega) hb hx2.2.2, xb_mk, if_pos ((pk_lLT (by omega) (by omega)).mpr c1), if_pos c1, e_o hm, bs, O_beg hm (by omega) hb hx2.2.2, xb_mk, lN_i, lN_i, nI_add, nI_add, q_bA_46 hm hW.2.2 hin hz0 (oZ (tb t) i - V) V F (by omega) (by omega) (by omega)]
    generalize hnn : nxt B (tO t + oP (tb t) i) V (oZ (tb t) i - V) = e at *
    generalize hpp : tO t + oP (tb t) i = P at *
    have hal := nd0_all (B := B) (tO := tO) hsS ll [[]] hx
    rw [epS, ezS] at hal
    have hN : (nd0 B tO tb ll).length ≤ 65537 := nodup_img (f := st B) 65537 _ hr.1.2.2.1 hn
    obtain ⟨k', k1, k2⟩ := q_nO_80 (F := F) (h := h) (p := P) hm hF hW.2.2 hr.1 (by omega) e 0 F (by omega) (by omega) (hal e hnx.2.2 hnx.1) (by rw [st_0 (by omega) hnx.1]; exact hr.1.2.1)
    have hk' := (List.getElem?_eq_some_iff.mp k2).1
    have h94 := hr.2.1.1 k' _ k2
    have hsm := pf0_all (B := B) (tO := tO) (tb := tb) (ll := ll) (x := 24 * t + i) (j := e) hn (fun x hx hs => sS_in hW (hl.2 x hx) hs) hx hsS (by rw [ezS]; exact hnx.2.2) (by rw [epS]; exact hnx.1)
    rw [epS] at hsm
    obtain ⟨y, hy⟩ := Option.isSome_iff_exists.mp hsm
    rw [hy] at h94
    have hyl := peO_le hy
    obtain ⟨f, f1, f2⟩ := peO_some.mp hsm
    have hyge : e + 1 - V ≤ y := by
      have hf := frm_le (B := B) (p := P) e
      have hl2 := st_len (B := B) (e := P + e) (by omega) hnx.1 (P + e - frm B P e) (frm B P e) (by omega) hf.2.2
      have hnz : V < e → frm B P e ≤ P + V := fun q => by
        have key : ∀ c j, j + c = oZ (tb t) i → ∀ x, j ≤ x → x < nxt B P j c → B (P + x) ≠ 0 := by
          intro c
          induction c with
          | zero => intro j _ x h1 h2; have : x < j := h2; omega
          | succ c ihc =>
            intro j hj x h1 h2
            rw [nxt_s] at h2
            by_cases cc : B (P + j) = 0
            · rw [if_pos cc] at h2; omega
            · rw [if_neg cc] at h2
              by_cases e3 : x = j
              · rw [e3]; exact cc
              · exact ihc (j + 1) (by omega) x (by omega) h2
        have hnz2 : ∀ x, V ≤ x → x < e → B (P + x) ≠ 0 := fun x h1 h2 => key (oZ (tb t) i - V) V (by omega) x h1 (by rw [hnn]; exact h2)
        have gen : ∀ d, V ≤ d → d ≤ e → frm B P d ≤ P + V := by
          intro d
          induction d with
          | zero => intro h1 _; have := (frm_le (B := B) (p := P) 0).2.1; omega
          | succ d ihd =>
            intro h1 h2
            rw [frm_s]
            by_cases q2 : V = d + 1
            · have := (frm_le (B := B) (p := P) (d + 1)).2.1
              rw [frm_s] at this
              rw [q2]; exact this
            · rw [if_neg (hnz2 d (by omega) (by omega))]
              exact ihd (by omega) (by omega)
        exact gen e (by omega) (Nat.le_refl _)
      have hle := sufB_len f2
      have key2 : ∀ (l : List Nat) (off : Nat), peO B off l (st B (frm B P e)) = some y → (st B (frm B P e)).length + 1 ≤ y := by
        intro l
        induction l with
        | nil => intro off hh; exact nomatch hh
        | cons g l ihl =>
          intro off hh
          have hh : (if sufB (st B (frm B P e)) (st B g) = true then some (off + ((st B g).length + 1)) else peO B (off + ((st B g).length + 1)) l (st B (frm B P e))) = some y := hh
          by_cases cg : sufB (st B (frm B P e)) (st B g) = true
          · rw [if_pos cg] at hh
            have := Option.some.inj hh
            have := sufB_len cg
            omega
          · rw [if_neg cg] at hh
            exact ihl _ hh
      have := key2 _ _ hy
      by_cases q : V < e
      · have := hnz q; omega
      · omega
    unfold f_M_byteAddress_62 f_M_nodeOf
    rw [Mg90 hm, bs, Mr94 hm, bs, e_o hm, bs, show nI 1 = nI (0 + 1) from rfl, k1, xb_mk, Ma94 hm (by omega), bs, h94, h90, show tdA (some y) = nI y from rfl, nI_l (by omega), lN_add, lN_i, nI_add, pk_sub (by omega), pk_sub (by omega), nI_l (by omega), lN_sub (by omega)]
    rw [hy]
    show _ = some (lN (pp + (y - (e + 1 - V))), _)
    rw [show pp + y - (P + e + (0 + 1) - P - V) = pp + (y - (e + 1 - V)) by omega]
  · rw [if_neg c1]
    by_cases c2 : lN V < lN 0
    · rw [if_pos c2, e17]
    · have hZ := (oK_in (OB_w hb).1 hx2.2.2 (by
        have h0 : oStr0 (tb t) i = true := by unfold oStr at hs; rw [Bool.and_eq_true] at hs; exact hs.1
        unfold oStr0 at h0
        exact (of_decide_eq_true h0).1) (by
        have h0 : oStr0 (tb t) i = true := by unfold oStr at hs; rw [Bool.and_eq_true] at hs; exact hs.1
        unfold oStr0 at h0
        exact (of_decide_eq_true h0).2.1)).2
      have hV63 : V < 2 ^ 63 := by
        by_cases q : V < 2 ^ 63
        · exact q
        · exfalso
          apply c2
          rw [Int64.lt_iff_toInt_lt, lN_ti hV, lN_ti (show 0 < 2 ^ 64 by decide), if_neg q, if_pos (by decide)]
          omega
      rw [if_neg c2, e_o hm, bs, O_size hm (by omega) hb hx2.2.2, xb_mk, if_neg (fun q => c1 ((pk_lLT hV63 (by omega)).mp q)), e17]
end MBA
end
section
/-! isCommon, findSegments of the reference -/
def sgO (g : Nat) : Nat := if g < 2 then g else 2
/-- the name of number n is a common one that stays -/
def cB (xs : px_NL) (on : Bool) (rn : Nat → Bool) (n : Nat) : Bool := decide (stN xs n = 2) && (!on || rn n)
def RRn (σ : px_S) (xs : px_NL) (on : Bool) (rn : Nat → Bool) : Prop := gI σ 68 = bI on ∧ (on = true → ∀ n, n < xs.length → gA σ 67 n = bI (rn n))
theorem RRn_FR {σ σ' : px_S} {I J A B : List Nat} {xs : px_NL} {on : Bool} {rn : Nat → Bool} (h : RRn σ xs on rn) (f : FR I J A B σ σ') (h1 : 68 ∉ I) (h2 : 67 ∉ A) : RRn σ' xs on rn := ⟨(f.1 68 h1).trans h.1, fun e i hi => by rw [f.2.2.1 67 h2]; exact h.2 e i hi⟩
def cmZ (xs : px_NL) (n : Nat) : Nat := (xs.getD n ([], nr0)).2.2.2.2.2.2.1
def cmV (xs : px_NL) (n : Nat) : Nat := (xs.getD n ([], nr0)).2.2.2.2.2.2.2
theorem getD_at {xs : px_NL} {n : Nat} {x : List Nat × px_NR} (h : xs[n]? = some x) : xs.getD n ([], nr0) = x := by rw [List.getD_eq_getElem?_getD, h]; rfl
/-- a laid section counts for segment s -/
def thx (tb : Nat → Nat → Nat) (s x : Nat) : Bool := decide (sgO (oG (tb (x / 24)) (x % 24)) = s) && decide (0 < zS tb x)
def thc (xs : px_NL) (on : Bool) (rn : Nat → Bool) (n : Nat) : Bool := cB xs on rn n && decide (0 < cmZ xs n)
def thS (tb : Nat → Nat → Nat) (ll : List Nat) (xs : px_NL) (od : List Nat) (on : Bool) (rn : Nat → Bool) (ns s : Nat) : Bool := ll.any (thx tb s) || (decide (s = 2) && (od.any (thc xs on rn) || decide (0 < ns)))
section MSG
variable {F m T s : Nat} {h : px_H} {σ : px_S} {tb : Nat → Nat → Nat} {tq : Nat → Nat} {xs : px_NL} {od ll : List Nat} {on : Bool} {rn : Nat → Bool} {k7 : Nat → Int32 → px_H → Option (Unit × px_H)}
theorem q_segmentOf {g : Nat} (hg : g < 2 ^ 31) : f_M_segmentOf F (nI g) h = some (nI (sgO g), h) := by
  unfold f_M_segmentOf f_M_segmentOf_10 sgO
  by_cases c : g < 2
  · rw [if_neg (nI_ge (by omega) (by omega)), if_pos c]
  · rw [if_pos (nI_le (by omega) (by omega)), if_neg c]
theorem q_isCommon {d n : Nat} (hm : m ≤ h.length) (hr : RL σ xs) (hok : okL xs) (ho : RO σ od) (hd : od[d]? = some n) (hn : n < xs.length) (hc : RRn σ xs on rn) : f_M_isCommon F m (nI d) (mh m h σ) = some (bI (cB xs on rn n), mh m h σ) := by
  have hxl : xs.length ≤ 4096 := by have := hr.1.2.1; rw [List.length_map] at this; exact this
  have hdl := (List.getElem?_eq_some_iff.mp hd).1
  have hol := ho.2.1
  obtain ⟨x, hx⟩ : ∃ x, xs[n]? = some x := ⟨xs[n], List.getElem?_eq_getElem hn⟩
  have h4 := (hok n x hx).1
  unfold f_M_isCommon f_M_isCommon_36 f_M_isCommon_40 f_M_isCommon_41 cB
  simp only [bs, Mr23 hm, Mr49 hm, Ma49 hm (show d < 4096 by omega), ho.2.2 d n hd, Ma23 hm (show n < 4096 by omega), (hr.2 n x hx).1, Mg68 hm, hc.1, Mr67 hm, Ma67 hm (show n < 4096 by omega), stN_at hx, xz_0, xz_1]
  by_cases c : x.2.1 = 2
  · rw [if_pos (by rw [c]), decide_eq_true c, Bool.true_and]
    cases on with
    | false => rw [if_pos (show bI false = 0 from rfl)] <;> rfl
    | true =>
      rw [if_neg (show ¬ bI true = 0 by decide), hc.2 rfl n hn]
      cases rn n with
      | false => rw [if_pos (show bI false = 0 from rfl)] <;> rfl
      | true => rw [if_neg (show ¬ bI true = 0 by decide)] <;> rfl
  · rw [if_neg (fun q => c ((nI_eq (by omega) (by decide)).mp q)), decide_eq_false c, Bool.false_and]
theorem q_fSg_21 (hm : m ≤ h.length) (hs : s < 3) (hl : llP T tb ll) (hZ : ∀ x, x ∈ ll → zS tb x < 2 ^ 31) : ∀ (c P g : Nat) (σ : px_S) (b : Bool), P + c = ll.length → c < g → RLa σ tq tb ll → gA σ 59 s = bI b → ∃ σ', f_M_findSegments_21 F k7 g m (nI s) (nI P) (mh m h σ) = f_M_findSegments_77 F k7 m (nI s) (mh m h σ') ∧ gA σ' 59 s = bI (b || (ll.drop P).any (thx tb s)) ∧ (∀ j, j ≠ s → gA σ' 59 j = gA σ 59 j) ∧ FR [] [] [59] [] σ σ' := by
  have hl1 := hl.1
  intro c
  induction c with
  | zero =>
    intro P g σ b hP hg hL h59
    obtain ⟨g, rfl⟩ : ∃ x, g = x + 1 := ⟨g - 1, by omega⟩
    unfold f_M_findSegments_21
    rw [Mg50 hm, bs, hL.1, if_pos (nI_le (by omega) (by omega)), List.drop_eq_nil_of_le (by omega)]
    exact ⟨σ, rfl, by rw [h59, List.any_nil, Bool.or_false], fun _ _ => rfl, FR_refl σ⟩
  | succ c ih =>
    intro P g σ b hP hg hL h59
    obtain ⟨g, rfl⟩ : ∃ x, g = x + 1 := ⟨g - 1, by omega⟩
    have hPl : P < ll.length := by omega
    have hx := List.getElem?_eq_getElem hPl
    rw [List.drop_eq_getElem_cons hPl, List.any_cons]
    have hx2 := hZ _ (List.getElem_mem hPl)
    generalize ll[P] = x at *
    obtain ⟨r1, r2, r3, r4, r5, r6⟩ := hL.2 P x hx
    have hG : oG (tb (x / 24)) (x % 24) ≤ 5 := by unfold oG; repeat (first | omega | split)
    have fin : ∀ v : Bool, v = (b || thx tb s x) → ∃ σ', (((xsI (mh m h σ) 3 (m + 45) (nI s) (bI v &&& 1)).bind fun ph1 => f_M_findSegments_21 F k7 g m (nI s) (nI P + nI 1) ph1) = f_M_findSegments_77 F k7 m (nI s) (mh m h σ')) ∧ gA σ' 59 s = bI (b || (thx tb s x || (ll.drop (P + 1)).any (thx tb s))) ∧ (∀ j, j ≠ s → gA σ' 59 j = gA σ 59 j) ∧ FR [] [] [59] [] σ σ' := by
      intro v hv
      rw [show bI v &&& 1 = bI v by cases v <;> rfl, Ms59 hm hs, bs, nI_add]
      obtain ⟨σ2, b1, b2, b3, b4⟩ := ih (P + 1) g (sA σ 59 (upd (gA σ 59) s (bI v))) v (by omega) (by omega) (RLa_FR hL (FR_A σ 59 _) (by decide) (by decide)) (by show upd (gA σ 59) s (bI v) s = _; rw [upd_eq])
      refine ⟨σ2, b1, by rw [b2, hv, Bool.or_assoc], fun j hj => ?_, FR_trans (FR_A σ 59 _) b4⟩
      rw [b3 j hj]
      show upd (gA σ 59) s (bI v) j = _
      rw [upd_ne hj]
    unfold f_M_findSegments_21 f_M_findSegments_69 f_M_findSegments_65 f_M_findSegments_70
    rw [Mg50 hm, bs, hL.1, if_neg (nI_ge (by omega) (by omega)), Mr59 hm, bs, bs, Ma59 hm hs, bs, h59]
    cases b with
    | true =>
      rw [if_neg (show ¬ bI true = 0 by decide)]
      exact fin true rfl
    | false =>
      rw [if_pos (show bI false = 0 from rfl), Mr55 hm, bs, Ma55 hm (by omega), bs, r5, q_segmentOf (by omega), xb_mk]
      have hsg : sgO (oG (tb (x / 24)) (x % 24)) ≤ 2 := by unfold sgO; split <;> omega
      by_cases c1 : sgO (oG (tb (x / 24)) (x % 24)) = s
      · rw [if_pos (by rw [c1]), Mr56 hm, bs, Ma56 hm (by omega), bs, r6]
        by_cases c2 : 0 < zS tb x
        · rw [if_neg (show ¬ nI (oZ (tb (x / 24)) (x % 24)) ≤ 0 from nI_ge (a := 0) c2 hx2)]
          exact fin true (by unfold thx; rw [decide_eq_true c1, decide_eq_true c2]; rfl)
        · have : oZ (tb (x / 24)) (x % 24) = 0 := Nat.eq_zero_of_not_pos c2
          rw [this, if_pos (by decide)]
          exact fin false (by unfold thx; rw [decide_eq_false c2, Bool.and_false]; rfl)
      · rw [if_neg (fun q => c1 ((nI_eq (by omega) (by omega)).mp q))]
        exact fin false (by unfold thx; rw [decide_eq_false c1]; rfl)
theorem q_fSg_79 (hm : m ≤ h.length) (hok : okL xs) (hod : ∀ d, d ∈ od → d < xs.length) : ∀ (c P g : Nat) (σ : px_S) (b : Bool), P + c = od.length → c < g → RL σ xs → RO σ od → RRn σ xs on rn → gA σ 59 2 = bI b → ∃ σ', f_M_findSegments_79 F k7 g m (nI 2) (nI P) (mh m h σ) = f_M_findSegments_140 F k7 m (nI 2) (mh m h σ') ∧ gA σ' 59 2 = bI (b || (od.drop P).any (thc xs on rn)) ∧ (∀ j, j ≠ 2 → gA σ' 59 j = gA σ 59 j) ∧ FR [] [] [59] [] σ σ' := by
  intro c
  induction c with
  | zero =>
    intro P g σ b hP hg hr ho hc h59
    obtain ⟨g, rfl⟩ : ∃ x, g = x + 1 := ⟨g - 1, by omega⟩
    have hol := ho.2.1
    unfold f_M_findSegments_79
    rw [Mg48 hm, bs, ho.1, if_pos (nI_le (by omega) (by omega)), List.drop_eq_nil_of_le (by omega)]
    exact ⟨σ, rfl, by rw [h59, List.any_nil, Bool.or_false], fun _ _ => rfl, FR_refl σ⟩
  | succ c ih =>
    intro P g σ b hP hg hr ho hc h59
    obtain ⟨g, rfl⟩ : ∃ x, g = x + 1 := ⟨g - 1, by omega⟩
    have hol := ho.2.1
    have hPl : P < od.length := by omega
    have hx := List.getElem?_eq_getElem hPl
    rw [List.drop_eq_getElem_cons hPl, List.any_cons]
    have hn := hod _ (List.getElem_mem hPl)
    generalize od[P] = n at *
    have hxl : xs.length ≤ 4096 := by have := hr.1.2.1; rw [List.length_map] at this; exact this
    obtain ⟨x, hxn⟩ : ∃ x, xs[n]? = some x := ⟨xs[n], List.getElem?_eq_getElem hn⟩
    have hokx := hok n x hxn
    have fin : ∀ v : Bool, v = (b || thc xs on rn n) → ∃ σ', (((xsI (mh m h σ) 3 (m + 45) (nI 2) (bI v &&& 1)).bind fun ph1 => f_M_findSegments_79 F k7 g m (nI 2) (nI P + nI 1) ph1) = f_M_findSegments_140 F k7 m (nI 2) (mh m h σ')) ∧ gA σ' 59 2 = bI (b || (thc xs on rn n || (od.drop (P + 1)).any (thc xs on rn))) ∧ (∀ j, j ≠ 2 → gA σ' 59 j = gA σ 59 j) ∧ FR [] [] [59] [] σ σ' := by
      intro v hv
      rw [show bI v &&& 1 = bI v by cases v <;> rfl, Ms59 hm (by decide), bs, nI_add]
      have f1 := FR_A σ 59 (upd (gA σ 59) 2 (bI v))
      obtain ⟨σ2, b1, b2, b3, b4⟩ := ih (P + 1) g (sA σ 59 (upd (gA σ 59) 2 (bI v))) v (by omega) (by omega) (RL_FR hr f1 (by decide) (by decide) (by decide)) (RO_FR ho f1 (by decide) (by decide)) (RRn_FR hc f1 (by decide) (by decide)) (by show upd (gA σ 59) 2 (bI v) 2 = _; rw [upd_eq])
      refine ⟨σ2, b1, by rw [b2, hv, Bool.or_assoc], fun j hj => ?_, FR_trans f1 b4⟩
      rw [b3 j hj]
      show upd (gA σ 59) 2 (bI v) j = _
      rw [upd_ne hj]
    unfold f_M_findSegments_79 f_M_findSegments_132 f_M_findSegments_128 f_M_findSegments_133
    rw [Mg48 hm, bs, ho.1, if_neg (nI_ge (by omega) (by omega)), if_pos rfl, Mr59 hm, bs, bs, Ma59 hm (by decide), bs, h59]
    cases b with
    | true =>
      rw [if_neg (show ¬ bI true = 0 by decide)]
      exact fin true rfl
    | false =>
      rw [if_pos (show bI false = 0 from rfl), e_o hm, bs, q_isCommon hm hr hok ho hx hn hc, xb_mk]
      cases e : cB xs on rn n with
      | false =>
        rw [if_pos (show bI false = 0 from rfl)]
        exact fin false (by unfold thc; rw [e]; rfl)
      | true =>
        have h2 : x.2.1 = 2 := by
          unfold cB at e
          rw [Bool.and_eq_true, stN_at hxn] at e
          exact of_decide_eq_true e.1
        have hz : cmZ xs n = x.2.2.2.2.2.2.1 := by unfold cmZ; rw [getD_at hxn]
        have r26 := ((hr.2 n x hxn).2.2.2.2.2 h2).1
        rw [if_neg (show ¬ bI true = 0 by decide), Mr26 hm, bs, Mr49 hm, bs, Ma49 hm (by omega), bs, ho.2.2 P n hx, Ma26 hm (by omega), bs, r26]
        by_cases c2 : 0 < cmZ xs n
        · rw [hz] at c2
          rw [if_neg (show ¬ nI x.2.2.2.2.2.2.1 ≤ 0 from nI_ge (a := 0) c2 hokx.2.1)]
          exact fin true (by unfold thc; rw [e, hz, decide_eq_true c2]; rfl)
        · rw [hz] at c2
          rw [show x.2.2.2.2.2.2.1 = 0 by omega, if_pos (by decide)]
          exact fin false (by unfold thc; rw [e, hz, decide_eq_false c2]; rfl)
/-- what findSegments reads -/
def RWg (σ : px_S) (tq : Nat → Nat) (tb : Nat → Nat → Nat) (ll : List Nat) (xs : px_NL) (od : List Nat) (on : Bool) (rn : Nat → Bool) (ns : Nat) : Prop := RLa σ tq tb ll ∧ RL σ xs ∧ RO σ od ∧ RRn σ xs on rn ∧ gI σ 74 = nI ns
theorem RWg_FR {σ' : px_S} {I J A B : List Nat} {ns : Nat} (hh : RWg σ tq tb ll xs od on rn ns) (f : FR I J A B σ σ') (hI : ∀ k, k ∈ [20, 48, 50, 68, 74] → k ∉ I) (hA : ∀ k, k ∈ [21, 22, 23, 24, 25, 26, 27, 28, 49, 51, 52, 53, 54, 55, 56, 67, 73] → k ∉ A) (hB : 30 ∉ B) : RWg σ' tq tb ll xs od on rn ns :=
  ⟨RLa_FR hh.1 f (hI 50 (by decide)) (fun k hk => hA k (by revert k; decide)), RL_FR hh.2.1 f (hI 20 (by decide)) (fun k hk => hA k (by revert k; decide)) hB, RO_FR hh.2.2.1 f (hI 48 (by decide)) (hA 49 (by decide)), RRn_FR hh.2.2.2.1 f (hI 68 (by decide)) (hA 67 (by decide)), (f.1 74 (hI 74 (by decide))).trans hh.2.2.2.2⟩
theorem q_fSg_140 {b : Bool} {ns cnt0 : Nat} (hm : m ≤ h.length) (hs : s < 3) (hns : ns < 2 ^ 31) (h74 : gI σ 74 = nI ns) (h59 : gA σ 59 s = bI b) (h15 : gI σ 15 = nI cnt0) : ∃ σ', f_M_findSegments_140 F k7 m (nI s) (mh m h σ) = k7 m (nI (s + 1)) (mh m h σ') ∧ gA σ' 59 s = bI (b || (decide (s = 2) && decide (0 < ns))) ∧ gI σ' 15 = nI (cnt0 + (if (b || (decide (s = 2) && decide (0 < ns))) = true then 1 else 0)) ∧ (∀ j, j ≠ s → gA σ' 59 j = gA σ 59 j) ∧ FR [15] [] [59] [] σ σ' := by
  have fin : ∀ v : Bool, v = (b || (decide (s = 2) && decide (0 < ns))) → ∃ σ', f_M_findSegments_171 F k7 m (nI s) (m + 45) (nI s) (bI v) (mh m h σ) = k7 m (nI (s + 1)) (mh m h σ') ∧ gA σ' 59 s = bI (b || (decide (s = 2) && decide (0 < ns))) ∧ gI σ' 15 = nI (cnt0 + (if (b || (decide (s = 2) && decide (0 < ns))) = true then 1 else 0)) ∧ (∀ j, j ≠ s → gA σ' 59 j = gA σ 59 j) ∧ FR [15] [] [59] [] σ σ' := by
    intro v hv
    rw [← hv]
    unfold f_M_findSegments_171 f_M_findSegments_191
    rw [show bI v &&& 1 = bI v by cases v <;> rfl, Ms59 hm hs, bs, Mg15 hm, bs, gI_sA, h15, Mr59 hm, bs, Ma59 hm hs, bs, show gA (sA σ 59 (upd (gA σ 59) s (bI v))) 59 s = bI v from upd_eq]
    have fr : ∀ w, FR [15] [] [59] [] σ (sI (sA σ 59 (upd (gA σ 59) s (bI v))) 15 w) := fun w => FR_trans (FR_mono (FR_A σ 59 _) (by decide) (by decide) (by decide) (by decide)) (FR_mono (FR_I _ 15 _) (by decide) (by decide) (by decide) (by decide))
    cases v with
    | false =>
      rw [if_pos (show bI false = 0 from rfl), nI_add, Mp15 hm, bs, nI_add]
      exact ⟨sI (sA σ 59 (upd (gA σ 59) s (bI false))) 15 (nI (cnt0 + 0)), rfl, upd_eq, by rw [gI_sI, if_pos rfl]; rfl, fun j hj => upd_ne hj, fr _⟩
    | true =>
      rw [if_neg (show ¬ bI true = 0 by decide), nI_add, Mp15 hm, bs, nI_add]
      exact ⟨sI (sA σ 59 (upd (gA σ 59) s (bI true))) 15 (nI (cnt0 + 1)), rfl, upd_eq, by rw [gI_sI, if_pos rfl]; rfl, fun j hj => upd_ne hj, fr _⟩
  unfold f_M_findSegments_140 f_M_findSegments_166 f_M_findSegments_170
  rw [Mr59 hm, bs, bs, Ma59 hm hs, bs, h59, Mg74 hm, bs, h74]
  cases b with
  | true =>
    rw [if_neg (show ¬ bI true = 0 by decide)]
    exact fin true rfl
  | false =>
    rw [if_pos (show bI false = 0 from rfl)]
    by_cases c1 : s = 2
    · rw [if_pos (by rw [c1])]
      by_cases c2 : 0 < ns
      · rw [if_neg (show ¬ nI ns ≤ 0 from nI_ge (a := 0) c2 hns)]
        exact fin true (by rw [decide_eq_true c1, decide_eq_true c2]; rfl)
      · rw [if_pos (show nI ns ≤ 0 by rw [show ns = 0 by omega]; decide)]
        exact fin false (by rw [decide_eq_false c2, Bool.and_false]; rfl)
    · rw [if_neg (fun q => c1 ((nI_eq (by omega) (by decide)).mp q))]
      exact fin false (by rw [decide_eq_false c1]; rfl)
/-- how many of the first s segments are there -/
def sgN (th : Nat → Bool) : Nat → Nat
  | 0 => 0
  | s + 1 => sgN th s + (if th s = true then 1 else 0)
theorem sgN_le {th : Nat → Bool} : ∀ s, sgN th s ≤ s := by
  intro s
  induction s with
  | zero => exact Nat.le_refl _
  | succ s ih => show sgN th s + _ ≤ _; split <;> omega
theorem q_fSg_7 {ns : Nat} (hm : m ≤ h.length) (hF : 65536 < F) (hl : llP T tb ll) (hZ : ∀ x, x ∈ ll → zS tb x < 2 ^ 31) (hok : okL xs) (hod : ∀ d, d ∈ od → d < xs.length) (hns : ns < 2 ^ 31) : ∀ (c s g : Nat) (σ : px_S), s + c = 3 → c < g → RWg σ tq tb ll xs od on rn ns → gI σ 15 = nI (sgN (thS tb ll xs od on rn ns) s) → (∀ j, j < s → gA σ 59 j = bI (thS tb ll xs od on rn ns j)) → ∃ σ', f_M_findSegments_7 F g m (nI s) (mh m h σ) = some ((), mh m h σ') ∧ gI σ' 15 = nI (sgN (thS tb ll xs od on rn ns) 3) ∧ (∀ j, j < 3 → gA σ' 59 j = bI (thS tb ll xs od on rn ns j)) ∧ FR [15] [] [59] [] σ σ' := by
  intro c
  induction c with
  | zero =>
    intro s g σ hs hg hR h15 h59
    obtain ⟨g, rfl⟩ : ∃ x, g = x + 1 := ⟨g - 1, by omega⟩
    have e : s = 3 := by omega
    rw [e] at h15 h59 ⊢
    unfold f_M_findSegments_7 f_M_findSegments_201
    rw [if_pos (by decide)]
    exact ⟨σ, rfl, h15, h59, FR_refl σ⟩
  | succ c ih =>
    intro s g σ hs hg hR h15 h59
    obtain ⟨g, rfl⟩ : ∃ x, g = x + 1 := ⟨g - 1, by omega⟩
    have hs3 : s < 3 := by omega
    have hl1 := hl.1
    have f1 := FR_A σ 59 (upd (gA σ 59) s (bI false))
    have hR1 := RWg_FR hR f1 (by decide) (by decide) (by decide)
    obtain ⟨σ2, a1, a2, a3, a4⟩ := q_fSg_21 (F := F) (h := h) (k7 := f_M_findSegments_7 F g) (tq := tq) hm hs3 hl hZ ll.length 0 F (sA σ 59 (upd (gA σ 59) s (bI false))) false (by omega) (by omega) hR1.1 upd_eq
    rw [List.drop_zero, Bool.false_or] at a2
    have hR2 := RWg_FR hR1 a4 (by decide) (by decide) (by decide)
    have e79 : ∃ σ3 b3, f_M_findSegments_77 F (f_M_findSegments_7 F g) m (nI s) (mh m h σ2) = f_M_findSegments_140 F (f_M_findSegments_7 F g) m (nI s) (mh m h σ3) ∧ gA σ3 59 s = bI b3 ∧ (b3 || (decide (s = 2) && decide (0 < ns))) = thS tb ll xs od on rn ns s ∧ (∀ j, j ≠ s → gA σ3 59 j = gA σ2 59 j) ∧ FR [] [] [59] [] σ2 σ3 := by
      unfold f_M_findSegments_77
      by_cases c2 : s = 2
      · have hol := hR.2.2.1.2.1
        rw [c2] at a2 ⊢
        obtain ⟨σ3, d1, d2, d3, d4⟩ := q_fSg_79 (F := F) (h := h) (k7 := f_M_findSegments_7 F g) (on := on) (rn := rn) hm hok hod od.length 0 F σ2 _ (by omega) (by omega) hR2.2.1 hR2.2.2.1 hR2.2.2.2.1 a2
        rw [List.drop_zero] at d2
        exact ⟨σ3, _, d1, d2, by unfold thS; rw [decide_eq_true rfl, Bool.true_and, Bool.true_and, Bool.or_assoc], d3, d4⟩
      · refine ⟨σ2, _, ?_, a2, by unfold thS; rw [decide_eq_false c2, Bool.false_and, Bool.false_and], fun _ _ => rfl, FR_refl σ2⟩
        obtain ⟨F1, hF1⟩ : ∃ x, F = x + 1 := ⟨F - 1, by omega⟩
        rw [show f_M_findSegments_79 F (f_M_findSegments_7 F g) F m = f_M_findSegments_79 F (f_M_findSegments_7 F g) (F1 + 1) m by rw [← hF1]]
        unfold f_M_findSegments_79
        rw [Mg48 hm, bs, if_neg (show ¬ nI s = nI 2 from fun q => c2 ((nI_eq (by omega) (by decide)).mp q))]
        split <;> rfl
    obtain ⟨σ3, b3, d1, d2, d3, d4, d5⟩ := e79
    have hR3 := RWg_FR hR2 d5 (by decide) (by decide) (by decide)
    have i15 : gI σ3 15 = nI (sgN (thS tb ll xs od on rn ns) s) := by rw [d5.1 15 (by decide), a4.1 15 (by decide), f1.1 15 (by decide)]; exact h15
    obtain ⟨σ4, g1, g2, g3, g4, g5⟩ := q_fSg_140 (F := F) (h := h) (k7 := f_M_findSegments_7 F g) hm hs3 hns hR3.2.2.2.2 d2 i15
    rw [d3] at g2 g3
    have f4 : FR [15] [] [59] [] σ σ4 := FR_trans (FR_mono f1 (by decide) (by decide) (by decide) (by decide)) (FR_trans (FR_mono a4 (by decide) (by decide) (by decide) (by decide)) (FR_trans (FR_mono d5 (by decide) (by decide) (by decide) (by decide)) g5))
    obtain ⟨σ5, k1, k2, k3, k4⟩ := ih (s + 1) g σ4 (by omega) (by omega) (RWg_FR hR f4 (by decide) (by decide) (by decide)) g3 (fun j hj => by
      by_cases e : j = s
      · rw [e]; exact g2
      · rw [g4 j e, d4 j e, a3 j e]
        show upd (gA σ 59) s (bI false) j = _
        rw [upd_ne e]; exact h59 j (by omega))
    refine ⟨σ5, ?_, k2, k3, FR_trans f4 k4⟩
    unfold f_M_findSegments_7
    rw [if_neg (nI_ge (by omega) (by omega)), Mr59 hm, bs, show nI 0 &&& 1 = bI false from rfl, Ms59 hm hs3, bs, a1, d1, g1, k1]
theorem q_findSegments {ns : Nat} (hm : m ≤ h.length) (hF : 65536 < F) (hl : llP T tb ll) (hZ : ∀ x, x ∈ ll → zS tb x < 2 ^ 31) (hok : okL xs) (hod : ∀ d, d ∈ od → d < xs.length) (hns : ns < 2 ^ 31) (hR : RWg σ tq tb ll xs od on rn ns) : ∃ σ', f_M_findSegments F m (mh m h σ) = some ((), mh m h σ') ∧ gI σ' 15 = nI (sgN (thS tb ll xs od on rn ns) 3) ∧ (∀ j, j < 3 → gA σ' 59 j = bI (thS tb ll xs od on rn ns j)) ∧ FR [15] [] [59] [] σ σ' := by
  have f1 := FR_I σ 15 (nI 0)
  obtain ⟨σ', a1, a2, a3, a4⟩ := q_fSg_7 (F := F) (h := h) hm hF hl hZ hok hod hns 3 0 F (sI σ 15 (nI 0)) (by omega) (by omega) (RWg_FR hR f1 (by decide) (by decide) (by decide)) (by rw [gI_sI, if_pos rfl]; rfl) (fun j hj => absurd hj (Nat.not_lt_zero j))
  refine ⟨σ', ?_, a2, a3, FR_trans (FR_mono f1 (by decide) (by decide) (by decide) (by decide)) a4⟩
  unfold f_M_findSegments
  rw [Mp15 hm, bs, a1]
def thr1 (tb : Nat → Nat → Nat) (x : Nat) : Bool := decide (3 < oG (tb (x / 24)) (x % 24)) && decide (0 < zS tb x)
theorem q_isThreaded_4 (hm : m ≤ h.length) (hl : llP T tb ll) (hZ : ∀ x, x ∈ ll → zS tb x < 2 ^ 31) (hL : RLa σ tq tb ll) : ∀ (c P g : Nat) (b : Bool), P + c = ll.length → c < g → f_M_isThreaded_4 F g m (bI b) (nI P) (mh m h σ) = some (bI (b || (ll.drop P).any (thr1 tb)), mh m h σ) := by
  have hl1 := hl.1
  intro c
  induction c with
  | zero =>
    intro P g b hP hg
    obtain ⟨g, rfl⟩ : ∃ x, g = x + 1 := ⟨g - 1, by omega⟩
    unfold f_M_isThreaded_4 f_M_isThreaded_47
    rw [Mg50 hm, bs, hL.1, if_pos (nI_le (by omega) (by omega)), List.drop_eq_nil_of_le (by omega), List.any_nil, Bool.or_false]
    cases b with
    | false => rw [show bI false = nI 0 from rfl, xz_0] <;> rfl
    | true => rw [show bI true = nI 1 from rfl, xz_1] <;> rfl
  | succ c ih =>
    intro P g b hP hg
    obtain ⟨g, rfl⟩ : ∃ x, g = x + 1 := ⟨g - 1, by omega⟩
    have hPl : P < ll.length := by omega
    have hx := List.getElem?_eq_getElem hPl
    rw [List.drop_eq_getElem_cons hPl, List.any_cons]
    have hx2 := hZ _ (List.getElem_mem hPl)
    generalize ll[P] = x at *
    obtain ⟨r1, r2, r3, r4, r5, r6⟩ := hL.2 P x hx
    have hG : oG (tb (x / 24)) (x % 24) ≤ 5 := by unfold oG; repeat (first | omega | split)
    have fin : ∀ v : Bool, v = (b || thr1 tb x) → f_M_isThreaded_4 F g m (bI v) (nI (P + 1)) (mh m h σ) = some (bI (b || (thr1 tb x || (ll.drop (P + 1)).any (thr1 tb))), mh m h σ) := fun v hv => by rw [ih (P + 1) g v (by omega) (by omega), hv, Bool.or_assoc]
    unfold f_M_isThreaded_4 f_M_isThreaded_39 f_M_isThreaded_35 f_M_isThreaded_40
    rw [Mg50 hm, bs, hL.1, if_neg (nI_ge (by omega) (by omega)), nI_add]
    cases b with
    | true =>
      rw [if_neg (show ¬ bI true = 0 by decide)]
      exact fin true rfl
    | false =>
      rw [if_pos (show bI false = 0 from rfl), Mr55 hm, bs, Ma55 hm (by omega), bs, r5]
      by_cases c1 : 3 < oG (tb (x / 24)) (x % 24)
      · rw [if_neg (nI_ge (by omega) (by omega)), Mr56 hm, bs, Ma56 hm (by omega), bs, r6]
        by_cases c2 : 0 < zS tb x
        · rw [if_neg (show ¬ nI (oZ (tb (x / 24)) (x % 24)) ≤ 0 from nI_ge (a := 0) c2 hx2)]
          exact fin true (by unfold thr1; rw [decide_eq_true c1, decide_eq_true c2]; rfl)
        · have : oZ (tb (x / 24)) (x % 24) = 0 := Nat.eq_zero_of_not_pos c2
          rw [this, if_pos (by decide)]
          exact fin false (by unfold thr1; rw [decide_eq_false c2, Bool.and_false]; rfl)
      · rw [if_pos (nI_le (by omega) (by omega))]
        exact fin false (by unfold thr1; rw [decide_eq_false c1]; rfl)
theorem q_isThreaded (hm : m ≤ h.length) (hF : 65536 < F) (hl : llP T tb ll) (hZ : ∀ x, x ∈ ll → zS tb x < 2 ^ 31) (hL : RLa σ tq tb ll) : f_M_isThreaded F m (mh m h σ) = some (bI (ll.any (thr1 tb)), mh m h σ) := by
  have hl1 := hl.1
  have := q_isThreaded_4 (F := F) (h := h) hm hl hZ hL ll.length 0 F false (by omega) (by omega)
  rw [List.drop_zero, Bool.false_or] at this
  exact this
end MSG
end
section
/-! placeGroup, placeCommons of the reference -/
def upN (v a : Nat) : Nat := (v + a - 1) / a * a
theorem upN_le {v a : Nat} (ha : 1 ≤ a) : v ≤ upN v a ∧ upN v a < v + a := by
  unfold upN
  have h1 := Nat.div_add_mod (v + a - 1) a
  have h2 := Nat.mod_lt (v + a - 1) (show a > 0 by omega)
  rw [Nat.mul_comm] at h1
  omega
theorem q_up {F v a : Nat} {h : px_H} (ha : 1 ≤ a) (hv : v + a < 2 ^ 62) : f_M_up F (lN v) (lN a) h = some (lN (upN v a), h) := by
  unfold f_M_up upN
  have e : xnzJ (lN a) = some () := by
    unfold xnzJ
    rw [if_neg (fun q => by have := (lEQ (b := 0) (show a < 2 ^ 64 by omega) (by decide)).mp q; omega)]
  rw [e, bs, lN_add, lN_sub (by omega), pk_lDiv (by omega) (by omega) (by omega), lN_mul]
def cnd (tb : Nat → Nat → Nat) (g x : Nat) : Bool := decide (oG (tb (x / 24)) (x % 24) = g) && !(decide (g = 1) && sS tb x)
def alS (tb : Nat → Nat → Nat) (x : Nat) : Nat := oA (tb (x / 24)) (x % 24)
abbrev px_PG : Type := Nat × (Nat → Nat) × Option Nat
def pgA (tb : Nat → Nat → Nat) (th : Bool) (at0 x : Nat) : Nat := if th = true ∧ 1 < alS tb x then upN at0 (alS tb x) else at0
def pg1 (tb : Nat → Nat → Nat) (g : Nat) (th : Bool) (s : px_PG) (x : Nat) : px_PG := if cnd tb g x = true then (pgA tb th s.1 x + zS tb x, fun y => if y = x then pgA tb th s.1 x else s.2.1 y, if g = 3 then some (s.2.2.getD (pgA tb th s.1 x)) else s.2.2) else s
def bsV : Option Nat → Int64
  | none => (-1 : Int64)
  | some v => lN v
/-- the sections of D lie where ad says -/
def RAd (σ : px_S) (ll : List Nat) (D : Nat → Prop) (ad : Nat → Nat) : Prop := ∀ (P x : Nat), ll[P]? = some x → D x → gB σ 57 P = lN (ad x) ∧ gB σ 58 x = lN (ad x)
theorem vp_ne {f : Nat → Int64} {i j : Nat} {v : Int64} (h : j ≠ i) : vp_updL f i v j = f j := if_neg h
theorem vp_eq {f : Nat → Int64} {i : Nat} {v : Int64} : vp_updL f i v i = v := if_pos rfl
theorem ar_pg {a c : Nat} (h : a + (c + 1) * 20480 < 2 ^ 40) : a + c * 20480 < 2 ^ 40 := Nat.lt_of_le_of_lt (Nat.add_le_add_left (Nat.mul_le_mul_right _ (Nat.le_succ c)) a) h
theorem ar_pg2 {s a z c : Nat} (h : s + (c + 1) * 20480 < 2 ^ 40) (ha : a ≤ s + 4096) (hz : z ≤ 16384) : a + z + c * 20480 < 2 ^ 40 := by
  have : (c + 1) * 20480 = c * 20480 + 20480 := Nat.succ_mul c 20480
  omega
theorem ar_pg3 {s c : Nat} (h : s + (c + 1) * 20480 < 2 ^ 40) : s + 4096 < 2 ^ 40 := by
  have : (c + 1) * 20480 = c * 20480 + 20480 := Nat.succ_mul c 20480
  omega
section MPG
variable {F m T g : Nat} {h : px_H} {tb : Nat → Nat → Nat} {tO tn tq : Nat → Nat} {ll : List Nat} {th : Bool} {D : Nat → Prop}
theorem q_pG_6 (hm : m ≤ h.length) (hF : 65536 < F) (hT : T ≤ 64) (hl : llP T tb ll) (hnd : ll.Nodup) (hZ : ∀ x, x ∈ ll → zS tb x ≤ 16384 ∧ alS tb x ≤ 4096) (hg : g ≤ 5) (hD : ∀ x, D x → cnd tb g x = false) : ∀ (c P f : Nat) (σ : px_S) (s : px_PG), P + c = ll.length → c < f → (∀ t, t < T → OB σ t (tO t) (tn t) (tb t)) → RLa σ tq tb ll → s.1 + c * 20480 < 2 ^ 40 → (∀ v, s.2.2 = some v → v < 2 ^ 40) → (∀ (Q x : Nat), ll[Q]? = some x → (D x ∨ (Q < P ∧ cnd tb g x = true)) → gB σ 57 Q = lN (s.2.1 x) ∧ gB σ 58 x = lN (s.2.1 x)) → (g = 3 → gJ σ 81 = bsV s.2.2) → ∃ σ', f_M_placeGroup_6 F f m (nI g) (bI th) (lN s.1) (nI P) (mh m h σ) = some (lN ((ll.drop P).foldl (pg1 tb g th) s).1, mh m h σ') ∧ (∀ (Q x : Nat), ll[Q]? = some x → (D x ∨ (Q < ll.length ∧ cnd tb g x = true)) → gB σ' 57 Q = lN (((ll.drop P).foldl (pg1 tb g th) s).2.1 x) ∧ gB σ' 58 x = lN (((ll.drop P).foldl (pg1 tb g th) s).2.1 x)) ∧ (g = 3 → gJ σ' 81 = bsV ((ll.drop P).foldl (pg1 tb g th) s).2.2) ∧ (g ≠ 3 → gJ σ' 81 = gJ σ 81) ∧ FR [] [81] [] [57, 58] σ σ' := by
  have hl1 := hl.1
  intro c
  induction c with
  | zero =>
    intro P f σ s hP hf hB hL hs hv hA h81
    obtain ⟨f, rfl⟩ : ∃ x, f = x + 1 := ⟨f - 1, by omega⟩
    unfold f_M_placeGroup_6 f_M_placeGroup_182
    rw [Mg50 hm, bs, hL.1, if_pos (nI_le (by omega) (by omega)), List.drop_eq_nil_of_le (by omega)]
    exact ⟨σ, rfl, fun Q x hx hd => hA Q x hx (hd.elim Or.inl (fun q => Or.inr ⟨by omega, q.2⟩)), h81, fun _ => rfl, FR_refl σ⟩
  | succ c ih =>
    intro P f σ s hP hf hB hL hs hv hA h81
    obtain ⟨f, rfl⟩ : ∃ x, f = x + 1 := ⟨f - 1, by omega⟩
    have hPl : P < ll.length := by omega
    have hx := List.getElem?_eq_getElem hPl
    rw [List.drop_eq_getElem_cons hPl, List.foldl_cons]
    have hxm := List.getElem_mem hPl
    have hx2 := hl.2 _ hxm
    have hxz := hZ _ hxm
    have huq : ∀ Q, ll[Q]? = some ll[P] → Q = P := fun Q hQ => by
      have l1 := (List.getElem?_eq_some_iff.mp hQ).1
      have e1 := (List.getElem?_eq_some_iff.mp hQ).2
      exact (List.getElem_inj hnd (h₀ := l1) (h₁ := hPl)).mp e1
    generalize ll[P] = x at *
    obtain ⟨r1, r2, r3, r4, r5, r6⟩ := hL.2 P x hx
    have hb := hB _ hx2.1
    have hG : oG (tb (x / 24)) (x % 24) ≤ 5 := by unfold oG; repeat (first | omega | split)
    have hs40 := ar_pg3 hs
    have skip : cnd tb g x = false → ∃ σ', f_M_placeGroup_6 F f m (nI g) (bI th) (lN s.1) (nI (P + 1)) (mh m h σ) = some (lN ((ll.drop (P + 1)).foldl (pg1 tb g th) (pg1 tb g th s x)).1, mh m h σ') ∧ (∀ (Q y : Nat), ll[Q]? = some y → (D y ∨ (Q < ll.length ∧ cnd tb g y = true)) → gB σ' 57 Q = lN (((ll.drop (P + 1)).foldl (pg1 tb g th) (pg1 tb g th s x)).2.1 y) ∧ gB σ' 58 y = lN (((ll.drop (P + 1)).foldl (pg1 tb g th) (pg1 tb g th s x)).2.1 y)) ∧ (g = 3 → gJ σ' 81 = bsV ((ll.drop (P + 1)).foldl (pg1 tb g th) (pg1 tb g th s x)).2.2) ∧ (g ≠ 3 → gJ σ' 81 = gJ σ 81) ∧ FR [] [81] [] [57, 58] σ σ' := by
      intro e
      have e1 : pg1 tb g th s x = s := by unfold pg1; rw [e, if_neg (by decide)]
      rw [e1]
      refine ih (P + 1) f σ s (by omega) (by omega) hB hL (ar_pg hs) hv (fun Q y hy hd => hA Q y hy (hd.elim Or.inl (fun q => ?_))) h81
      by_cases cq : Q = P
      · exfalso
        rw [cq, hx] at hy
        rw [← Option.some.inj hy, e] at q
        exact nomatch q.2
      · exact Or.inr ⟨by omega, q.2⟩
    have place : cnd tb g x = true → ∃ σ', f_M_placeGroup_59 F (f_M_placeGroup_6 F f) m (nI g) (bI th) (lN s.1) (nI P) (mh m h σ) = some (lN ((ll.drop (P + 1)).foldl (pg1 tb g th) (pg1 tb g th s x)).1, mh m h σ') ∧ (∀ (Q y : Nat), ll[Q]? = some y → (D y ∨ (Q < ll.length ∧ cnd tb g y = true)) → gB σ' 57 Q = lN (((ll.drop (P + 1)).foldl (pg1 tb g th) (pg1 tb g th s x)).2.1 y) ∧ gB σ' 58 y = lN (((ll.drop (P + 1)).foldl (pg1 tb g th) (pg1 tb g th s x)).2.1 y)) ∧ (g = 3 → gJ σ' 81 = bsV ((ll.drop (P + 1)).foldl (pg1 tb g th) (pg1 tb g th s x)).2.2) ∧ (g ≠ 3 → gJ σ' 81 = gJ σ 81) ∧ FR [] [81] [] [57, 58] σ σ' := by
      intro e
      have e1 : pg1 tb g th s x = (pgA tb th s.1 x + zS tb x, fun y => if y = x then pgA tb th s.1 x else s.2.1 y, if g = 3 then some (s.2.2.getD (pgA tb th s.1 x)) else s.2.2) := by unfold pg1; rw [e, if_pos rfl]
      have hpa : pgA tb th s.1 x ≤ s.1 + 4096 := by
        unfold pgA
        split
        · rename_i q
          have := upN_le (v := s.1) (a := alS tb x) (by omega)
          omega
        · omega
      have e59 : f_M_placeGroup_59 F (f_M_placeGroup_6 F f) m (nI g) (bI th) (lN s.1) (nI P) (mh m h σ) = f_M_placeGroup_107 F (f_M_placeGroup_6 F f) m (nI g) (bI th) (nI P) (lN (pgA tb th s.1 x)) (mh m h σ) := by
        unfold f_M_placeGroup_59 f_M_placeGroup_105 pgA
        rw [Mr51 hm, bs, Ma51 hm (by omega), bs, r1, e_o hm, bs, O_obj hm hb, xb_mk, Mr54 hm, bs, Ma54 hm (by omega), bs, r4, e_o hm, bs, O_align hm (by omega) hb hx2.2.2, xb_mk]
        cases th with
        | false => rw [if_pos (show bI false = 0 from rfl), if_neg (fun q => nomatch q.1)]
        | true =>
          rw [if_neg (show ¬ bI true = 0 by decide)]
          by_cases c1 : 1 < alS tb x
          · rw [if_neg (show ¬ lN (oA (tb (x / 24)) (x % 24)) ≤ lN 1 from fun q => by have := (pk_lLE (show alS tb x < 2 ^ 63 by omega) (by decide)).mp q; omega), show oA (tb (x / 24)) (x % 24) = alS tb x from rfl, q_up (by omega) (by omega), xb_mk, if_pos ⟨rfl, c1⟩]
          · rw [if_pos (show lN (oA (tb (x / 24)) (x % 24)) ≤ lN 1 from (pk_lLE (show alS tb x < 2 ^ 63 by omega) (by decide)).mpr (by show alS tb x ≤ 1; omega)), if_neg (fun q => c1 q.2)]
      generalize hav : pgA tb th s.1 x = a at *
      have fin : ∀ σ1, FR [] [81] [] [] σ σ1 → (g = 3 → gJ σ1 81 = bsV (some (s.2.2.getD a))) → (g ≠ 3 → gJ σ1 81 = gJ σ 81) → ∃ σ', f_M_placeGroup_129 F (f_M_placeGroup_6 F f) m (nI g) (bI th) (lN a) (nI P) (mh m h σ1) = some (lN ((ll.drop (P + 1)).foldl (pg1 tb g th) (pg1 tb g th s x)).1, mh m h σ') ∧ (∀ (Q y : Nat), ll[Q]? = some y → (D y ∨ (Q < ll.length ∧ cnd tb g y = true)) → gB σ' 57 Q = lN (((ll.drop (P + 1)).foldl (pg1 tb g th) (pg1 tb g th s x)).2.1 y) ∧ gB σ' 58 y = lN (((ll.drop (P + 1)).foldl (pg1 tb g th) (pg1 tb g th s x)).2.1 y)) ∧ (g = 3 → gJ σ' 81 = bsV ((ll.drop (P + 1)).foldl (pg1 tb g th) (pg1 tb g th s x)).2.2) ∧ (g ≠ 3 → gJ σ' 81 = gJ σ 81) ∧ FR [] [81] [] [57, 58] σ σ' := by
        intro σ1 f1 h3 hn3
        obtain ⟨σ2, hσ2⟩ : ∃ z, z = sB (sB σ1 57 (vp_updL (gB σ1 57) P (lN a))) 58 (vp_updL (gB (sB σ1 57 (vp_updL (gB σ1 57) P (lN a))) 58) x (lN a)) := ⟨_, rfl⟩
        have f2 : FR [] [81] [] [57, 58] σ1 σ2 := by
          rw [hσ2]
          exact FR_trans (FR_mono (FR_B σ1 57 _) (by decide) (by decide) (by decide) (by decide)) (FR_mono (FR_B _ 58 _) (by decide) (by decide) (by decide) (by decide))
        have g57 : gB σ2 57 = vp_updL (gB σ 57) P (lN a) := by rw [hσ2, gB_sB, if_neg (by decide), gB_sB, if_pos rfl, f1.2.2.2 57 (by decide)]
        have g58 : gB σ2 58 = vp_updL (gB σ 58) x (lN a) := by rw [hσ2, gB_sB, if_pos rfl, gB_sB, if_neg (by decide), f1.2.2.2 58 (by decide)]
        have g81 : gJ σ2 81 = gJ σ1 81 := by rw [hσ2]; rfl
        have f12 : FR [] [81] [] [57, 58] σ σ2 := FR_trans (FR_mono f1 (by decide) (by decide) (by decide) (by decide)) f2
        have hx1536 : x < 1536 := by omega
        obtain ⟨σ3, b1, b2, b3, b4, b5⟩ := ih (P + 1) f σ2 (pg1 tb g th s x) (by omega) (by omega) (fun t ht => OB_FR (hB t ht) f12 (by decide)) (RLa_FR hL f12 (by decide) (by decide)) (by rw [e1]; exact ar_pg2 hs hpa hxz.1) (by
          rw [e1]
          intro v hv2
          have hv2 : (if g = 3 then some (s.2.2.getD a) else s.2.2) = some v := hv2
          split at hv2
          · have := Option.some.inj hv2
            cases e5 : s.2.2 with
            | none => rw [e5] at this; have : a = v := this; omega
            | some w => rw [e5] at this; have h6 : w = v := this; have := hv w e5; omega
          · exact hv v hv2) (by
          rw [e1]
          intro Q y hy hd
          rw [g57, g58]
          show _ = lN (if y = x then a else s.2.1 y) ∧ _ = lN (if y = x then a else s.2.1 y)
          by_cases cy : y = x
          · rw [cy] at hy ⊢
            rw [huq Q hy, vp_eq, vp_eq, if_pos rfl]
            exact ⟨rfl, rfl⟩
          · have cQ : Q ≠ P := fun q => cy (by rw [q, hx] at hy; exact (Option.some.inj hy).symm)
            rw [vp_ne cQ, vp_ne cy, if_neg cy]
            exact hA Q y hy (hd.elim Or.inl (fun q => Or.inr ⟨by omega, q.2⟩))) (by
          rw [e1, g81]
          intro q
          show _ = bsV (if g = 3 then some (s.2.2.getD a) else s.2.2)
          rw [if_pos q]; exact h3 q)
        refine ⟨σ3, ?_, b2, b3, fun q => by rw [b4 q, g81]; exact hn3 q, FR_trans f12 b5⟩
        unfold f_M_placeGroup_129 f_M_placeGroup_176
        have q51 : gA (sB σ1 57 (vp_updL (gB σ1 57) P (lN a))) 51 P = nI (x / 24) := by rw [gA_sB, f1.2.2.1 51 (by decide)]; exact r1
        have q54 : gA (sB σ1 57 (vp_updL (gB σ1 57) P (lN a))) 54 P = nI (x % 24) := by rw [gA_sB, f1.2.2.1 54 (by decide)]; exact r4
        have q56 : gA σ2 56 P = nI (oZ (tb (x / 24)) (x % 24)) := by rw [f12.2.2.1 56 (by decide)]; exact r6
        rw [Mr57 hm, bs, Ms57 hm (by omega), bs, Mr58 hm, bs, Mr51 hm, bs, Ma51 hm (by omega), bs, q51, Mr54 hm, bs, Ma54 hm (by omega), bs, q54, pk_mul, nI_add, show 24 * (x / 24) + x % 24 = x by omega, Ms58 hm hx1536, bs, ← hσ2, Mr56 hm, bs, Ma56 hm (by omega), bs, q56, nI_l (show oZ (tb (x / 24)) (x % 24) < 2 ^ 31 by have : zS tb x ≤ 16384 := hxz.1; show zS tb x < _; omega), lN_add, nI_add]
        rw [show lN (a + oZ (tb (x / 24)) (x % 24)) = lN (pg1 tb g th s x).1 by rw [e1]; rfl]
        exact b1
      rw [e59]
      unfold f_M_placeGroup_107
      by_cases c3 : g = 3
      · have h81' := h81 c3
        have e81 : xgJ (mh m h σ) 12 81 m = some (bsV s.2.2) := by rw [Mg81 hm, h81']
        rw [if_pos (by rw [c3]), e81, bs]
        cases eb : s.2.2 with
        | none =>
          rw [eb] at fin
          rw [if_neg (show ¬ lN 0 ≤ bsV none by decide), Mp81 hm, bs]
          exact fin (sJ σ 81 (lN a)) (FR_J σ 81 _) (fun _ => by rw [gJ_sJ, if_pos rfl]; rfl) (fun q => absurd c3 q)
        | some v =>
          have hvl := hv v eb
          rw [eb] at fin h81'
          rw [if_pos (show lN 0 ≤ bsV (some v) from (pk_lLE (by decide) (by omega)).mpr (Nat.zero_le _))]
          exact fin σ (FR_refl σ) (fun _ => h81') (fun q => absurd c3 q)
      · rw [if_neg (fun q => c3 ((nI_eq (by omega) (by decide)).mp q))]
        exact fin σ (FR_refl σ) (fun q => absurd q c3) (fun _ => rfl)
    unfold f_M_placeGroup_6 f_M_placeGroup_176
    rw [Mg50 hm, bs, hL.1, if_neg (nI_ge (by omega) (by omega)), Mr55 hm, bs, Ma55 hm (by omega), bs, r5, nI_add]
    by_cases c1 : oG (tb (x / 24)) (x % 24) = g
    · rw [if_pos (by rw [c1])]
      by_cases c2 : g = 1
      · rw [if_pos (by rw [c2]), Mr51 hm, bs, Ma51 hm (by omega), bs, r1, e_o hm, bs, O_obj hm hb, xb_mk, Mr54 hm, bs, Ma54 hm (by omega), bs, r4, e_o hm, bs, q_isStrings hm (by omega) hb hx2.2.2, xb_mk]
        cases es : oStr (tb (x / 24)) (x % 24) with
        | false =>
          rw [if_pos (show bI false = 0 from rfl)]
          exact place (by unfold cnd sS; rw [decide_eq_true c1, es, Bool.and_false]; rfl)
        | true =>
          rw [if_neg (show ¬ bI true = 0 by decide)]
          exact skip (by unfold cnd sS; rw [decide_eq_true c1, es, decide_eq_true c2]; rfl)
      · rw [if_neg (fun q => c2 ((nI_eq (by omega) (by decide)).mp q))]
        exact place (by unfold cnd; rw [decide_eq_true c1, decide_eq_false c2]; rfl)
    · rw [if_neg (fun q => c1 ((nI_eq (by omega) (by omega)).mp q))]
      exact skip (by unfold cnd; rw [decide_eq_false c1]; rfl)
theorem q_placeGroup {σ : px_S} {s : px_PG} (hm : m ≤ h.length) (hF : 65536 < F) (hT : T ≤ 64) (hl : llP T tb ll) (hnd : ll.Nodup) (hZ : ∀ x, x ∈ ll → zS tb x ≤ 16384 ∧ alS tb x ≤ 4096) (hg : g ≤ 5) (hD : ∀ x, D x → cnd tb g x = false) (hB : ∀ t, t < T → OB σ t (tO t) (tn t) (tb t)) (hL : RLa σ tq tb ll) (hs : s.1 < 2 ^ 39) (hv : ∀ v, s.2.2 = some v → v < 2 ^ 40) (hA : RAd σ ll D s.2.1) (h81 : g = 3 → gJ σ 81 = bsV s.2.2) : ∃ σ', f_M_placeGroup F m (nI g) (lN s.1) (bI th) (mh m h σ) = some (lN (ll.foldl (pg1 tb g th) s).1, mh m h σ') ∧ RAd σ' ll (fun x => D x ∨ cnd tb g x = true) (ll.foldl (pg1 tb g th) s).2.1 ∧ (g = 3 → gJ σ' 81 = bsV (ll.foldl (pg1 tb g th) s).2.2) ∧ (g ≠ 3 → gJ σ' 81 = gJ σ 81) ∧ FR [] [81] [] [57, 58] σ σ' := by
  have hl1 := hl.1
  obtain ⟨σ', a1, a2, a3, a4, a5⟩ := q_pG_6 (F := F) (h := h) (th := th) (D := D) hm hF hT hl hnd hZ hg hD ll.length 0 F σ s (by omega) (by omega) hB hL (by omega) hv (fun Q x hx hd => hA Q x hx (hd.elim id (fun q => absurd q.1 (Nat.not_lt_zero Q)))) h81
  rw [List.drop_zero] at a1 a2 a3
  exact ⟨σ', a1, fun P x hx hd => a2 P x hx (hd.elim Or.inl (fun q => Or.inr ⟨(List.getElem?_eq_some_iff.mp hx).1, q⟩)), a3, a4, a5⟩
end MPG
end
section
/-! placeCommons, placeStrings of the reference -/
def cmOK (xs : px_NL) : Prop := ∀ n, n < xs.length → stN xs n = 2 → (1 ≤ cmV xs n ∧ cmV xs n ≤ 4096) ∧ cmZ xs n ≤ 16384
def pcA (xs : px_NL) (th : Bool) (at0 n : Nat) : Nat := if th = true then upN at0 (cmV xs n) else at0
def pc1 (xs : px_NL) (on : Bool) (rn : Nat → Bool) (th : Bool) (s : px_PG) (n : Nat) : px_PG := if cB xs on rn n = true then (pcA xs th s.1 n + cmZ xs n, fun y => if y = n then pcA xs th s.1 n else s.2.1 y, some (s.2.2.getD (pcA xs th s.1 n))) else s
/-- the names' addresses -/
def RNa (σ : px_S) (N : Nat) (na : Nat → Nat) : Prop := ∀ n, n < N → gB σ 29 n = lN (na n)
section MPC
variable {F m T : Nat} {h : px_H} {tb : Nat → Nat → Nat} {tO tn tq : Nat → Nat} {xs : px_NL} {ll od : List Nat} {th on : Bool} {rn : Nat → Bool} {D : Nat → Prop}
theorem q_pC_6 (hm : m ≤ h.length) (hok : okL xs) (hod : ∀ d, d ∈ od → d < xs.length) (hcm : cmOK xs) : ∀ (c P f : Nat) (σ : px_S) (s : px_PG), P + c = od.length → c < f → RL σ xs → RO σ od → RRn σ xs on rn → s.1 + c * 20480 < 2 ^ 40 → (∀ v, s.2.2 = some v → v < 2 ^ 40) → RNa σ xs.length s.2.1 → gJ σ 81 = bsV s.2.2 → ∃ σ', f_M_placeCommons_6 F f m (bI th) (lN s.1) (nI P) (mh m h σ) = some (lN ((od.drop P).foldl (pc1 xs on rn th) s).1, mh m h σ') ∧ RNa σ' xs.length ((od.drop P).foldl (pc1 xs on rn th) s).2.1 ∧ gJ σ' 81 = bsV ((od.drop P).foldl (pc1 xs on rn th) s).2.2 ∧ (∀ v, ((od.drop P).foldl (pc1 xs on rn th) s).2.2 = some v → v < 2 ^ 40) ∧ FR [] [81] [] [29] σ σ' := by
  intro c
  induction c with
  | zero =>
    intro P f σ s hP hf hr ho hc hs hv hA h81
    obtain ⟨f, rfl⟩ : ∃ x, f = x + 1 := ⟨f - 1, by omega⟩
    have hol := ho.2.1
    unfold f_M_placeCommons_6 f_M_placeCommons_110
    rw [Mg48 hm, bs, ho.1, if_pos (nI_le (by omega) (by omega)), List.drop_eq_nil_of_le (by omega)]
    exact ⟨σ, rfl, hA, h81, hv, FR_refl σ⟩
  | succ c ih =>
    intro P f σ s hP hf hr ho hc hs hv hA h81
    obtain ⟨f, rfl⟩ : ∃ x, f = x + 1 := ⟨f - 1, by omega⟩
    have hol := ho.2.1
    have hxl : xs.length ≤ 4096 := by have := hr.1.2.1; rw [List.length_map] at this; exact this
    have hPl : P < od.length := by omega
    have hx := List.getElem?_eq_getElem hPl
    rw [List.drop_eq_getElem_cons hPl, List.foldl_cons]
    have hn := hod _ (List.getElem_mem hPl)
    generalize od[P] = n at *
    have hs40 := ar_pg3 hs
    unfold f_M_placeCommons_6 f_M_placeCommons_104
    rw [Mg48 hm, bs, ho.1, if_neg (nI_ge (by omega) (by omega)), Mr49 hm, bs, Ma49 hm (by omega), bs, ho.2.2 P n hx, e_o hm, bs, q_isCommon hm hr hok ho hx hn hc, xb_mk, nI_add]
    cases e : cB xs on rn n with
    | false =>
      have e1 : pc1 xs on rn th s n = s := by unfold pc1; rw [e, if_neg (by decide)]
      rw [if_pos (show bI false = 0 from rfl), e1]
      exact ih (P + 1) f σ s (by omega) (by omega) hr ho hc (ar_pg hs) hv hA h81
    | true =>
      obtain ⟨x, hxn⟩ : ∃ x, xs[n]? = some x := ⟨xs[n], List.getElem?_eq_getElem hn⟩
      have h2 : stN xs n = 2 := by
        unfold cB at e
        rw [Bool.and_eq_true] at e
        exact of_decide_eq_true e.1
      obtain ⟨⟨v1, v2⟩, v3⟩ := hcm n hn h2
      rw [stN_at hxn] at h2
      have r := (hr.2 n x hxn).2.2.2.2.2 h2
      have ez : cmZ xs n = x.2.2.2.2.2.2.1 := by unfold cmZ; rw [getD_at hxn]
      have ev : cmV xs n = x.2.2.2.2.2.2.2 := by unfold cmV; rw [getD_at hxn]
      rw [← ez, ← ev] at r
      have e1 : pc1 xs on rn th s n = (pcA xs th s.1 n + cmZ xs n, fun y => if y = n then pcA xs th s.1 n else s.2.1 y, some (s.2.2.getD (pcA xs th s.1 n))) := by unfold pc1; rw [e, if_pos rfl]
      have hpa : pcA xs th s.1 n ≤ s.1 + 4096 := by
        unfold pcA
        split
        · have := upN_le (v := s.1) (a := cmV xs n) v1
          omega
        · omega
      have e58 : (if bI th = 0 then f_M_placeCommons_58 F (f_M_placeCommons_6 F f) m (bI th) (nI P) (nI n) (lN s.1) (mh m h σ) else (xgR (mh m h σ) 12 27 m).bind fun t6 => (xaI (mh m h σ) 1 t6 (nI n)).bind fun t7 => xb (f_M_up F (lN s.1) t7.toInt64 (mh m h σ)) fun t8 ph9 => f_M_placeCommons_58 F (f_M_placeCommons_6 F f) m (bI th) (nI P) (nI n) t8 ph9) = f_M_placeCommons_58 F (f_M_placeCommons_6 F f) m (bI th) (nI P) (nI n) (lN (pcA xs th s.1 n)) (mh m h σ) := by
        unfold pcA
        cases th with
        | false => rw [if_pos (show bI false = 0 from rfl), if_neg (by decide)]
        | true => rw [if_neg (show ¬ bI true = 0 by decide), Mr27 hm, bs, Ma27 hm (by omega), bs, r.2, nI_l (by omega), q_up v1 (by omega), xb_mk, if_pos rfl]
      rw [if_neg (show ¬ bI true = 0 by decide), e58]
      generalize hav : pcA xs th s.1 n = a at *
      have fin : ∀ w, w = bsV (some (s.2.2.getD a)) → ∃ σ', f_M_placeCommons_79 F (f_M_placeCommons_6 F f) m (bI th) (lN a) (nI P) (nI n) m w (mh m h σ) = some (lN ((od.drop (P + 1)).foldl (pc1 xs on rn th) (pc1 xs on rn th s n)).1, mh m h σ') ∧ RNa σ' xs.length ((od.drop (P + 1)).foldl (pc1 xs on rn th) (pc1 xs on rn th s n)).2.1 ∧ gJ σ' 81 = bsV ((od.drop (P + 1)).foldl (pc1 xs on rn th) (pc1 xs on rn th s n)).2.2 ∧ (∀ v, ((od.drop (P + 1)).foldl (pc1 xs on rn th) (pc1 xs on rn th s n)).2.2 = some v → v < 2 ^ 40) ∧ FR [] [81] [] [29] σ σ' := by
        intro w hw
        obtain ⟨σ2, hσ2⟩ : ∃ z, z = sB (sJ σ 81 w) 29 (vp_updL (gB (sJ σ 81 w) 29) n (lN a)) := ⟨_, rfl⟩
        have f2 : FR [] [81] [] [29] σ σ2 := by
          rw [hσ2]
          exact FR_trans (FR_mono (FR_J σ 81 _) (by decide) (by decide) (by decide) (by decide)) (FR_mono (FR_B _ 29 _) (by decide) (by decide) (by decide) (by decide))
        have g29 : gB σ2 29 = vp_updL (gB σ 29) n (lN a) := by rw [hσ2]; rfl
        have g81 : gJ σ2 81 = w := by rw [hσ2, gJ_sB, gJ_sJ, if_pos rfl]
        obtain ⟨σ3, b1, b2, b3, b4, b5⟩ := ih (P + 1) f σ2 (pc1 xs on rn th s n) (by omega) (by omega) (RL_FR hr f2 (by decide) (by decide) (by decide)) (RO_FR ho f2 (by decide) (by decide)) (RRn_FR hc f2 (by decide) (by decide)) (by rw [e1]; exact ar_pg2 hs hpa v3) (by
          rw [e1]
          intro v hv2
          have hv2 : some (s.2.2.getD a) = some v := hv2
          have := Option.some.inj hv2
          cases e5 : s.2.2 with
          | none => rw [e5] at this; have : a = v := this; omega
          | some w => rw [e5] at this; have h6 : w = v := this; have := hv w e5; omega) (by
          rw [e1]
          intro y hy
          rw [g29]
          show _ = lN (if y = n then a else s.2.1 y)
          by_cases cy : y = n
          · rw [cy, vp_eq, if_pos rfl]
          · rw [vp_ne cy, if_neg cy]; exact hA y hy) (by rw [e1, g81]; exact hw)
        refine ⟨σ3, ?_, b2, b3, b4, FR_trans f2 b5⟩
        unfold f_M_placeCommons_79 f_M_placeCommons_104
        have q26 : gA σ2 26 n = nI (cmZ xs n) := by rw [f2.2.2.1 26 (by decide)]; exact r.1
        rw [Mp81 hm, bs, Mr29 hm, bs, Ms29 hm (by omega), bs, ← hσ2, Mr26 hm, bs, Ma26 hm (by omega), bs, q26, nI_l (by omega), lN_add, nI_add]
        rw [show lN (a + cmZ xs n) = lN (pc1 xs on rn th s n).1 by rw [e1]]
        exact b1
      unfold f_M_placeCommons_58
      have e81 : xgJ (mh m h σ) 12 81 m = some (bsV s.2.2) := by rw [Mg81 hm, h81]
      rw [e81, bs]
      cases eb : s.2.2 with
      | none =>
        rw [eb] at fin
        rw [if_neg (show ¬ lN 0 ≤ bsV none by decide)]
        exact fin _ rfl
      | some v =>
        have hvl := hv v eb
        rw [eb] at fin
        rw [if_pos (show lN 0 ≤ bsV (some v) from (pk_lLE (by decide) (by omega)).mpr (Nat.zero_le _)), bs]
        exact fin _ rfl
theorem q_placeCommons {σ : px_S} {s : px_PG} (hm : m ≤ h.length) (hF : 65536 < F) (hok : okL xs) (hod : ∀ d, d ∈ od → d < xs.length) (hcm : cmOK xs) (hr : RL σ xs) (ho : RO σ od) (hc : RRn σ xs on rn) (hs : s.1 < 2 ^ 39) (hv : ∀ v, s.2.2 = some v → v < 2 ^ 40) (hA : RNa σ xs.length s.2.1) (h81 : gJ σ 81 = bsV s.2.2) : ∃ σ', f_M_placeCommons F m (lN s.1) (bI th) (mh m h σ) = some (lN (od.foldl (pc1 xs on rn th) s).1, mh m h σ') ∧ RNa σ' xs.length (od.foldl (pc1 xs on rn th) s).2.1 ∧ gJ σ' 81 = bsV (od.foldl (pc1 xs on rn th) s).2.2 ∧ (∀ v, (od.foldl (pc1 xs on rn th) s).2.2 = some v → v < 2 ^ 40) ∧ FR [] [81] [] [29] σ σ' := by
  have hol := ho.2.1
  have := q_pC_6 (F := F) (h := h) (th := th) (on := on) (rn := rn) hm hok hod hcm od.length 0 F σ s (by omega) (by omega) hr ho hc (by omega) hv hA h81
  rw [List.drop_zero] at this
  exact this
def psF (B : Nat → Nat) (pf : List Nat) (tO : Nat → Nat) (tb : Nat → Nat → Nat) (pp : Nat) (ad : Nat → Nat) (y : Nat) : Nat := if sS tb y = true then pp + baN B pf (pS tO tb y) (zS tb y) 0 else ad y
theorem q_pS_7 {B : Nat → Nat} {ad : Nat → Nat} {pp : Nat} (hm : m ≤ h.length) (hF : 65540 < F) (hl : llP T tb ll) (hnd : ll.Nodup) (hn : ndB B (nd0 B tO tb ll)) (hI : PIn B (nd0 B tO tb ll) (pf0 B tO tb ll)) (hD : ∀ x, D x → sS tb x = false) (hpp : pp < 2 ^ 40) : ∀ (c P f : Nat) (σ : px_S), P + c = ll.length → c < f → RWp σ T tO tn tq tb ll B → RPo σ B (nd0 B tO tb ll) (pf0 B tO tb ll) → gJ σ 90 = lN pp → (∀ (Q x : Nat), ll[Q]? = some x → (D x ∨ (Q < P ∧ sS tb x = true)) → gB σ 57 Q = lN (psF B (pf0 B tO tb ll) tO tb pp ad x) ∧ gB σ 58 x = lN (psF B (pf0 B tO tb ll) tO tb pp ad x)) → ∃ σ', f_M_placeStrings_7 F f m (lN pp) (nI P) (mh m h σ) = some (lN (pp + psz B (pf0 B tO tb ll)), mh m h σ') ∧ (∀ (Q x : Nat), ll[Q]? = some x → (D x ∨ sS tb x = true) → gB σ' 57 Q = lN (psF B (pf0 B tO tb ll) tO tb pp ad x) ∧ gB σ' 58 x = lN (psF B (pf0 B tO tb ll) tO tb pp ad x)) ∧ FR [] [] [] [57, 58] σ σ' := by
  have hl1 := hl.1
  have hsz := PIn_sz hI
  intro c
  induction c with
  | zero =>
    intro P f σ hP hf hW hr h90 hA
    obtain ⟨f, rfl⟩ : ∃ x, f = x + 1 := ⟨f - 1, by omega⟩
    unfold f_M_placeStrings_7 f_M_placeStrings_97
    rw [Mg50 hm, bs, hW.2.1.1, if_pos (nI_le (by omega) (by omega)), Mg88 hm, bs, hr.2.2.1, nI_l (by omega), lN_add]
    exact ⟨σ, rfl, fun Q x hx hd => hA Q x hx (hd.elim Or.inl (fun q => Or.inr ⟨by have := (List.getElem?_eq_some_iff.mp hx).1; omega, q⟩)), FR_refl σ⟩
  | succ c ih =>
    intro P f σ hP hf hW hr h90 hA
    obtain ⟨f, rfl⟩ : ∃ x, f = x + 1 := ⟨f - 1, by omega⟩
    have hPl : P < ll.length := by omega
    have hx := List.getElem?_eq_getElem hPl
    have hxm := List.getElem_mem hPl
    have hx2 := hl.2 _ hxm
    have huq : ∀ Q, ll[Q]? = some ll[P] → Q = P := fun Q hQ => by
      have l1 := (List.getElem?_eq_some_iff.mp hQ).1
      have e1 := (List.getElem?_eq_some_iff.mp hQ).2
      exact (List.getElem_inj hnd (h₀ := l1) (h₁ := hPl)).mp e1
    generalize ll[P] = x at *
    obtain ⟨r1, r2, r3, r4, r5, r6⟩ := hW.2.1.2 P x hx
    have hb := hW.1 _ hx2.1
    unfold f_M_placeStrings_7 f_M_placeStrings_91
    rw [Mg50 hm, bs, hW.2.1.1, if_neg (nI_ge (by omega) (by omega)), Mr51 hm, bs, Ma51 hm (by omega), bs, r1, e_o hm, bs, O_obj hm hb, xb_mk, Mr54 hm, bs, Ma54 hm (by omega), bs, r4, e_o hm, bs, q_isStrings hm (by omega) hb hx2.2.2, xb_mk, nI_add]
    cases es : oStr (tb (x / 24)) (x % 24) with
    | false =>
      rw [if_pos (show bI false = 0 from rfl)]
      refine ih (P + 1) f σ (by omega) (by omega) hW hr h90 (fun Q y hy hd => hA Q y hy (hd.elim Or.inl (fun q => ?_)))
      by_cases cq : Q = P
      · exfalso
        rw [cq, hx] at hy
        rw [← Option.some.inj hy] at q
        have : sS tb x = false := es
        rw [this] at q
        exact nomatch q.2
      · exact Or.inr ⟨by omega, q.2⟩
    | true =>
      have hx24 : 24 * (x / 24) + x % 24 = x := by omega
      have hba := q_byteAddress (F := F) (h := h) (t := x / 24) (i := x % 24) (V := 0) (pp := pp) hm hF hW hl hn hr hI (by rw [hx24]; exact hxm) (by omega) es (by decide) h90
      have epf : psF B (pf0 B tO tb ll) tO tb pp ad x = pp + baN B (pf0 B tO tb ll) (tO (x / 24) + oP (tb (x / 24)) (x % 24)) (oZ (tb (x / 24)) (x % 24)) 0 := by
        unfold psF
        rw [if_pos (show sS tb x = true from es)]
        rfl
      rw [← epf] at hba
      generalize hav : psF B (pf0 B tO tb ll) tO tb pp ad x = a at *
      obtain ⟨σ2, hσ2⟩ : ∃ z, z = sB (sB σ 57 (vp_updL (gB σ 57) P (lN a))) 58 (vp_updL (gB (sB σ 57 (vp_updL (gB σ 57) P (lN a))) 58) x (lN a)) := ⟨_, rfl⟩
      have f2 : FR [] [] [] [57, 58] σ σ2 := by
        rw [hσ2]
        exact FR_trans (FR_mono (FR_B σ 57 _) (by decide) (by decide) (by decide) (by decide)) (FR_mono (FR_B _ 58 _) (by decide) (by decide) (by decide) (by decide))
      have g57 : gB σ2 57 = vp_updL (gB σ 57) P (lN a) := by rw [hσ2, gB_sB, if_neg (by decide), gB_sB, if_pos rfl]
      have g58 : gB σ2 58 = vp_updL (gB σ 58) x (lN a) := by rw [hσ2, gB_sB, if_pos rfl, gB_sB, if_neg (by decide)]
      have hx1536 : x < 1536 := by have := hb.1.1; omega
      obtain ⟨σ3, b1, b2, b3⟩ := ih (P + 1) f σ2 (by omega) (by omega) (RWp_FR hW f2 (by decide) (by decide)) (RPo_FR hr f2 (by decide) (by decide)) ((f2.2.1 90 (by decide)).trans h90) (fun Q y hy hd => by
        rw [g57, g58]
        by_cases cy : y = x
        · rw [cy] at hy ⊢
          rw [huq Q hy, vp_eq, vp_eq, hav]
          exact ⟨rfl, rfl⟩
        · have cQ : Q ≠ P := fun q => cy (by rw [q, hx] at hy; exact (Option.some.inj hy).symm)
          rw [vp_ne cQ, vp_ne cy]
          exact hA Q y hy (hd.elim Or.inl (fun q => Or.inr ⟨by omega, q.2⟩)))
      refine ⟨σ3, ?_, b2, FR_trans f2 b3⟩
      have q51 : gA (sB σ 57 (vp_updL (gB σ 57) P (lN a))) 51 P = nI (x / 24) := r1
      have q54 : gA (sB σ 57 (vp_updL (gB σ 57) P (lN a))) 54 P = nI (x % 24) := r4
      have q57 : gB (sB σ 57 (vp_updL (gB σ 57) P (lN a))) 57 P = lN a := by rw [gB_sB, if_pos rfl, vp_eq]
      rw [if_neg (show ¬ bI true = 0 by decide), Mr57 hm, bs, Mr54 hm, bs, Ma54 hm (by omega), bs, r4, e_o hm, bs, hba, xb_mk, Ms57 hm (by omega), bs, Mr58 hm, bs, Mr51 hm, bs, Ma51 hm (by omega), bs, q51, Mr54 hm, bs, Ma54 hm (by omega), bs, q54, Mr57 hm, bs, Ma57 hm (by omega), bs, q57, pk_mul, nI_add, hx24, Ms58 hm hx1536, bs, ← hσ2]
      exact b1
theorem q_placeStrings {σ : px_S} {B : Nat → Nat} {ad : Nat → Nat} {pp : Nat} (hm : m ≤ h.length) (hF : 65540 < F) (hl : llP T tb ll) (hnd : ll.Nodup) (hn : ndB B (nd0 B tO tb ll)) (hI : PIn B (nd0 B tO tb ll) (pf0 B tO tb ll)) (hD : ∀ x, D x → sS tb x = false) (hpp : pp < 2 ^ 40) (hW : RWp σ T tO tn tq tb ll B) (hr : RPo σ B (nd0 B tO tb ll) (pf0 B tO tb ll)) (hA : RAd σ ll D ad) : ∃ σ', f_M_placeStrings F m (lN pp) (mh m h σ) = some (lN (pp + psz B (pf0 B tO tb ll)), mh m h σ') ∧ RAd σ' ll (fun x => D x ∨ sS tb x = true) (psF B (pf0 B tO tb ll) tO tb pp ad) ∧ gJ σ' 90 = lN pp ∧ FR [] [90] [] [57, 58] σ σ' := by
  have hl1 := hl.1
  have f1 := FR_J σ 90 (lN pp)
  obtain ⟨σ', a1, a2, a3⟩ := q_pS_7 (F := F) (h := h) (D := D) (ad := ad) (pp := pp) hm hF hl hnd hn hI hD hpp ll.length 0 F (sJ σ 90 (lN pp)) (by omega) (by omega) (RWp_FR hW f1 (by decide) (by decide)) (RPo_FR hr f1 (by decide) (by decide)) (by rw [gJ_sJ, if_pos rfl]) (fun Q x hx hd => by
    have hd2 : D x := hd.elim id (fun q => absurd q.1 (Nat.not_lt_zero Q))
    have e : psF B (pf0 B tO tb ll) tO tb pp ad x = ad x := by unfold psF; rw [hD x hd2, if_neg (by decide)]
    rw [e]
    exact hA Q x hx hd2)
  refine ⟨σ', ?_, a2, ?_, FR_trans (FR_mono f1 (by decide) (by decide) (by decide) (by decide)) (FR_mono a3 (by decide) (by decide) (by decide) (by decide))⟩
  · unfold f_M_placeStrings
    rw [Mp90 hm, bs, a1]
  · rw [a3.2.1 90 (by decide), gJ_sJ, if_pos rfl]
end MPC
end
section
/-! findTemplate of the reference -/
abbrev px_FT : Type := Bool × Nat × Nat × Nat
def ft1 (tb : Nat → Nat → Nat) (ad : Nat → Nat) (s : px_FT) (x : Nat) : px_FT := if 4 ≤ oG (tb (x / 24)) (x % 24) then (true, ad x + zS tb x, if alS tb x ≤ s.2.2.1 then s.2.2.1 else alS tb x, if s.1 = true then s.2.2.2 else ad x) else s
def RTm (σ : px_S) (s : px_FT) : Prop := gJ σ 86 = lN s.2.2.1 ∧ (s.1 = true → gJ σ 83 = lN s.2.2.2 ∧ gJ σ 85 = lN s.2.1 - lN s.2.2.2)
/-- the threads' point -/
def tpN (bg2 : Nat) (s : px_FT) : Nat := if s.1 = true then upN s.2.1 s.2.2.1 else bg2
theorem l_back (a b : Int64) : b + (a - b) = a := by
  apply Int64.toBitVec_inj.mp
  rw [Int64.toBitVec_add, Int64.toBitVec_sub, BitVec.add_comm, BitVec.sub_add_cancel]
section MFT
variable {F m T : Nat} {h : px_H} {tb : Nat → Nat → Nat} {tO tn tq : Nat → Nat} {ll : List Nat} {ad : Nat → Nat}
theorem q_fT_19 (hm : m ≤ h.length) (hF : 24 < F) (hl : llP T tb ll) (hZ : ∀ x, x ∈ ll → zS tb x ≤ 16384 ∧ alS tb x ≤ 4096) : ∀ (c P f : Nat) (σ : px_S) (s : px_FT), P + c = ll.length → c < f → (∀ t, t < T → OB σ t (tO t) (tn t) (tb t)) → RLa σ tq tb ll → RAd σ ll (fun x => 4 ≤ oG (tb (x / 24)) (x % 24)) ad → 1 ≤ s.2.2.1 → s.2.2.1 ≤ 4096 → RTm σ s → ∃ σ', f_M_findTemplate_19 F f m (bI s.1) (nI P) (mh m h σ) = f_M_findTemplate_161 F m (bI ((ll.drop P).foldl (ft1 tb ad) s).1) (mh m h σ') ∧ RTm σ' ((ll.drop P).foldl (ft1 tb ad) s) ∧ 1 ≤ ((ll.drop P).foldl (ft1 tb ad) s).2.2.1 ∧ ((ll.drop P).foldl (ft1 tb ad) s).2.2.1 ≤ 4096 ∧ FR [] [83, 84, 85, 86] [] [] σ σ' := by
  have hl1 := hl.1
  intro c
  induction c with
  | zero =>
    intro P f σ s hP hf hB hL hA h1 h2 hT
    obtain ⟨f, rfl⟩ : ∃ x, f = x + 1 := ⟨f - 1, by omega⟩
    unfold f_M_findTemplate_19
    rw [Mg50 hm, bs, hL.1, if_pos (nI_le (by omega) (by omega)), List.drop_eq_nil_of_le (by omega)]
    exact ⟨σ, rfl, hT, h1, h2, FR_refl σ⟩
  | succ c ih =>
    intro P f σ s hP hf hB hL hA h1 h2 hT
    obtain ⟨f, rfl⟩ : ∃ x, f = x + 1 := ⟨f - 1, by omega⟩
    have hPl : P < ll.length := by omega
    have hx := List.getElem?_eq_getElem hPl
    rw [List.drop_eq_getElem_cons hPl, List.foldl_cons]
    have hxm := List.getElem_mem hPl
    have hx2 := hl.2 _ hxm
    have hxz := hZ _ hxm
    generalize ll[P] = x at *
    obtain ⟨r1, r2, r3, r4, r5, r6⟩ := hL.2 P x hx
    have hb := hB _ hx2.1
    have hG : oG (tb (x / 24)) (x % 24) ≤ 5 := by unfold oG; repeat (first | omega | split)
    unfold f_M_findTemplate_19 f_M_findTemplate_155
    rw [Mg50 hm, bs, hL.1, if_neg (nI_ge (by omega) (by omega)), Mr55 hm, bs, Ma55 hm (by omega), bs, r5, nI_add]
    by_cases c1 : 4 ≤ oG (tb (x / 24)) (x % 24)
    · obtain ⟨a57, a58⟩ := hA P x hx c1
      have e1 : ft1 tb ad s x = (true, ad x + zS tb x, if alS tb x ≤ s.2.2.1 then s.2.2.1 else alS tb x, if s.1 = true then s.2.2.2 else ad x) := by unfold ft1; rw [if_pos c1]
      rw [if_pos (nI_le c1 (by omega))]
      generalize hbe : (if s.1 = true then s.2.2.2 else ad x) = be at *
      have e58 : (if bI s.1 = 0 then (xgR (mh m h σ) 12 57 m).bind fun t4 => (xaJ (mh m h σ) 2 t4 (nI P)).bind fun t5 => f_M_findTemplate_58 F (f_M_findTemplate_19 F f) m (nI P) m t5 (mh m h σ) else (xgJ (mh m h σ) 12 83 m).bind fun t6 => f_M_findTemplate_58 F (f_M_findTemplate_19 F f) m (nI P) m t6 (mh m h σ)) = f_M_findTemplate_58 F (f_M_findTemplate_19 F f) m (nI P) m (lN be) (mh m h σ) := by
        cases es : s.1 with
        | false =>
          rw [es, if_neg (by decide)] at hbe
          rw [if_pos (show bI false = 0 from rfl), Mr57 hm, bs, Ma57 hm (by omega), bs, a57, hbe]
        | true =>
          rw [es, if_pos rfl] at hbe
          rw [if_neg (show ¬ bI true = 0 by decide), Mg83 hm, bs, (hT.2 es).1, hbe]
      rw [e58]
      have f1 := FR_J σ 83 (lN be)
      have q57 : gB (sJ σ 83 (lN be)) 57 P = lN (ad x) := a57
      have q56 : gA (sJ σ 83 (lN be)) 56 P = nI (oZ (tb (x / 24)) (x % 24)) := r6
      have q55 : gA (sJ σ 83 (lN be)) 55 P = nI (oG (tb (x / 24)) (x % 24)) := r5
      have q83 : gJ (sJ σ 83 (lN be)) 83 = lN be := by rw [gJ_sJ, if_pos rfl]
      have q86 : gJ (sJ σ 83 (lN be)) 86 = lN s.2.2.1 := by rw [gJ_sJ, if_neg (by decide)]; exact hT.1
      have p83 : xpJ (mh m h σ) 12 83 m (lN be) = some (mh m h (sJ σ 83 (lN be))) := Mp83 hm _
      generalize sJ σ 83 (lN be) = σ1 at *
      have e85 : lN (ad x) + lN (oZ (tb (x / 24)) (x % 24)) - lN be = lN (ad x + zS tb x) - lN be := by rw [lN_add]; rfl
      have fin : ∀ w, ∃ σ', f_M_findTemplate_102 F (f_M_findTemplate_19 F f) m (nI 1) (nI P) (lN (ad x + zS tb x) - lN be) m w (mh m h σ1) = f_M_findTemplate_161 F m (bI ((ll.drop (P + 1)).foldl (ft1 tb ad) (ft1 tb ad s x)).1) (mh m h σ') ∧ RTm σ' ((ll.drop (P + 1)).foldl (ft1 tb ad) (ft1 tb ad s x)) ∧ 1 ≤ ((ll.drop (P + 1)).foldl (ft1 tb ad) (ft1 tb ad s x)).2.2.1 ∧ ((ll.drop (P + 1)).foldl (ft1 tb ad) (ft1 tb ad s x)).2.2.1 ≤ 4096 ∧ FR [] [83, 84, 85, 86] [] [] σ σ' := by
        intro w
        obtain ⟨σ2, hσ2⟩ : ∃ z, z = sJ (sJ σ1 84 w) 85 (lN (ad x + zS tb x) - lN be) := ⟨_, rfl⟩
        have f2 : FR [] [83, 84, 85, 86] [] [] σ1 σ2 := by
          rw [hσ2]
          exact FR_trans (FR_mono (FR_J σ1 84 _) (by decide) (by decide) (by decide) (by decide)) (FR_mono (FR_J _ 85 _) (by decide) (by decide) (by decide) (by decide))
        have f12 : FR [] [83, 84, 85, 86] [] [] σ σ2 := FR_trans (FR_mono f1 (by decide) (by decide) (by decide) (by decide)) f2
        have g83 : gJ σ2 83 = lN be := by rw [hσ2, gJ_sJ, if_neg (by decide), gJ_sJ, if_neg (by decide)]; exact q83
        have g85 : gJ σ2 85 = lN (ad x + zS tb x) - lN be := by rw [hσ2, gJ_sJ, if_pos rfl]
        have g86 : gJ σ2 86 = lN s.2.2.1 := by rw [hσ2, gJ_sJ, if_neg (by decide), gJ_sJ, if_neg (by decide)]; exact q86
        have q51 : gA σ2 51 P = nI (x / 24) := by rw [f12.2.2.1 51 (by decide)]; exact r1
        have q54 : gA σ2 54 P = nI (x % 24) := by rw [f12.2.2.1 54 (by decide)]; exact r4
        have hb2 := OB_FR hb f12 (by decide)
        have last : ∀ v, v = (if alS tb x ≤ s.2.2.1 then s.2.2.1 else alS tb x) → ∃ σ', f_M_findTemplate_152 F (f_M_findTemplate_19 F f) m (nI 1) (nI P) m (lN v) (mh m h σ2) = f_M_findTemplate_161 F m (bI ((ll.drop (P + 1)).foldl (ft1 tb ad) (ft1 tb ad s x)).1) (mh m h σ') ∧ RTm σ' ((ll.drop (P + 1)).foldl (ft1 tb ad) (ft1 tb ad s x)) ∧ 1 ≤ ((ll.drop (P + 1)).foldl (ft1 tb ad) (ft1 tb ad s x)).2.2.1 ∧ ((ll.drop (P + 1)).foldl (ft1 tb ad) (ft1 tb ad s x)).2.2.1 ≤ 4096 ∧ FR [] [83, 84, 85, 86] [] [] σ σ' := by
          intro v hv
          have f3 := FR_J σ2 86 (lN v)
          have f13 : FR [] [83, 84, 85, 86] [] [] σ (sJ σ2 86 (lN v)) := FR_trans f12 (FR_mono f3 (by decide) (by decide) (by decide) (by decide))
          have hv2 : 1 ≤ v ∧ v ≤ 4096 := by rw [hv]; split <;> omega
          obtain ⟨σ4, d1, d2, d3, d4, d5⟩ := ih (P + 1) f (sJ σ2 86 (lN v)) (ft1 tb ad s x) (by omega) (by omega) (fun t ht => OB_FR (hB t ht) f13 (by decide)) (RLa_FR hL f13 (by decide) (by decide)) (fun Q y hy hd => by rw [f13.2.2.2 57 (by decide), f13.2.2.2 58 (by decide)]; exact hA Q y hy hd) (by rw [e1, ← hv]; exact hv2.1) (by rw [e1, ← hv]; exact hv2.2) (by
            rw [e1, ← hv]
            refine ⟨by rw [gJ_sJ, if_pos rfl], fun _ => ⟨?_, ?_⟩⟩
            · rw [gJ_sJ, if_neg (by decide)]; exact g83
            · rw [gJ_sJ, if_neg (by decide)]; exact g85)
          refine ⟨σ4, ?_, d2, d3, d4, FR_trans f13 d5⟩
          unfold f_M_findTemplate_152 f_M_findTemplate_155
          rw [Mp86 hm, bs, nI_add]
          rw [e1] at d1
          rw [e1]
          exact d1
        unfold f_M_findTemplate_102
        rw [Mp84 hm, bs, Mp85 hm, bs, ← hσ2, Mr51 hm, bs, Ma51 hm (by omega), bs, q51, e_o hm, bs, O_obj hm hb2, xb_mk, Mr54 hm, bs, Ma54 hm (by omega), bs, q54, e_o hm, bs, O_align hm hF hb2 hx2.2.2, xb_mk, Mg86 hm, bs, g86]
        by_cases c3 : alS tb x ≤ s.2.2.1
        · rw [if_pos (show lN (oA (tb (x / 24)) (x % 24)) ≤ lN s.2.2.1 from (pk_lLE (show alS tb x < 2 ^ 63 by omega) (by omega)).mpr c3), bs]
          exact last _ (by rw [if_pos c3])
        · rw [if_neg (show ¬ lN (oA (tb (x / 24)) (x % 24)) ≤ lN s.2.2.1 from fun q => c3 ((pk_lLE (show alS tb x < 2 ^ 63 by omega) (by omega)).mp q))]
          exact last (alS tb x) (by rw [if_neg c3])
      unfold f_M_findTemplate_58
      rw [p83, bs, Mr57 hm, bs, Ma57 hm (by omega), bs, q57, Mr56 hm, bs, Ma56 hm (by omega), bs, q56, Mg83 hm, bs, q83, nI_l (show oZ (tb (x / 24)) (x % 24) < 2 ^ 31 by have : zS tb x ≤ 16384 := hxz.1; show zS tb x < _; omega), e85, Mr55 hm, bs, Ma55 hm (by omega), bs, q55]
      by_cases c4 : oG (tb (x / 24)) (x % 24) = 4
      · rw [if_pos (by rw [c4])]
        exact fin _
      · rw [if_neg (fun q => c4 ((nI_eq (by omega) (by decide)).mp q)), Mg84 hm, bs]
        exact fin _
    · have e1 : ft1 tb ad s x = s := by unfold ft1; rw [if_neg c1]
      rw [if_neg (nI_ge (by omega) (by omega)), e1]
      exact ih (P + 1) f σ s (by omega) (by omega) hB hL hA h1 h2 hT
theorem q_findTemplate {σ : px_S} {bg2 : Nat} (hm : m ≤ h.length) (hF : 65536 < F) (hl : llP T tb ll) (hZ : ∀ x, x ∈ ll → zS tb x ≤ 16384 ∧ alS tb x ≤ 4096) (hB : ∀ t, t < T → OB σ t (tO t) (tn t) (tb t)) (hL : RLa σ tq tb ll) (hA : RAd σ ll (fun x => 4 ≤ oG (tb (x / 24)) (x % 24)) ad) (h61 : gB σ 61 2 = lN bg2) (hle : (ll.foldl (ft1 tb ad) (false, 0, 1, 0)).2.1 < 2 ^ 60) : ∃ σ', f_M_findTemplate F m (mh m h σ) = some ((), mh m h σ') ∧ gJ σ' 87 = lN (tpN bg2 (ll.foldl (ft1 tb ad) (false, 0, 1, 0))) ∧ FR [] [83, 84, 85, 86, 87] [] [] σ σ' := by
  have hl1 := hl.1
  obtain ⟨σ1, hσ1⟩ : ∃ z, z = sJ (sJ (sJ σ 84 (lN 0)) 85 (lN 0)) 86 (lN 1) := ⟨_, rfl⟩
  have f1 : FR [] [83, 84, 85, 86] [] [] σ σ1 := by
    rw [hσ1]
    exact FR_trans (FR_mono (FR_J σ 84 _) (by decide) (by decide) (by decide) (by decide)) (FR_trans (FR_mono (FR_J _ 85 _) (by decide) (by decide) (by decide) (by decide)) (FR_mono (FR_J _ 86 _) (by decide) (by decide) (by decide) (by decide)))
  obtain ⟨σ2, a1, a2, a3, a4, a5⟩ := q_fT_19 (F := F) (h := h) (ad := ad) hm (by omega) hl hZ ll.length 0 F σ1 (false, 0, 1, 0) (by omega) (by omega) (fun t ht => OB_FR (hB t ht) f1 (by decide)) (RLa_FR hL f1 (by decide) (by decide)) (fun Q y hy hd => by rw [f1.2.2.2 57 (by decide), f1.2.2.2 58 (by decide)]; exact hA Q y hy hd) (Nat.le_refl _) (show 1 ≤ 4096 by decide) ⟨by rw [hσ1, gJ_sJ, if_pos rfl], fun q => nomatch q⟩
  rw [List.drop_zero] at a1 a2 a3 a4
  generalize ll.foldl (ft1 tb ad) (false, 0, 1, 0) = s at *
  have f2 : FR [] [83, 84, 85, 86, 87] [] [] σ σ2 := FR_trans (FR_mono f1 (by decide) (by decide) (by decide) (by decide)) (FR_mono a5 (by decide) (by decide) (by decide) (by decide))
  have g61 : gB σ2 61 2 = lN bg2 := by rw [f2.2.2.2 61 (by decide)]; exact h61
  have e0 : f_M_findTemplate F m (mh m h σ) = f_M_findTemplate_161 F m (bI s.1) (mh m h σ2) := by
    unfold f_M_findTemplate
    rw [Mp84 hm, bs, Mp85 hm, bs, Mp86 hm, bs, ← hσ1, show nI 0 = bI false from rfl]
    rw [show nI 0 = bI false from rfl] at a1
    exact a1
  rw [e0]
  unfold f_M_findTemplate_161 f_M_findTemplate_191 tpN
  cases es : s.1 with
  | false =>
    rw [if_pos (show bI false = 0 from rfl), Mr61 hm, bs, Ma61 hm (by decide), bs, g61, Mp87 hm, bs, if_neg (by decide)]
    exact ⟨_, rfl, by rw [gJ_sJ, if_pos rfl], FR_trans f2 (FR_mono (FR_J σ2 87 _) (by decide) (by decide) (by decide) (by decide))⟩
  | true =>
    have ht := a2.2 es
    rw [if_neg (show ¬ bI true = 0 by decide), Mg83 hm, bs, Mg85 hm, bs, Mg86 hm, bs, ht.1, ht.2, a2.1, l_back, q_up a3 (by omega), xb_mk, Mp87 hm, bs, if_pos rfl]
    exact ⟨_, rfl, by rw [gJ_sJ, if_pos rfl], FR_trans f2 (FR_mono (FR_J σ2 87 _) (by decide) (by decide) (by decide) (by decide))⟩
end MFT
end
section
/-! placeSegment of the reference -/
theorem pg1_m {tb : Nat → Nat → Nat} {g : Nat} {th : Bool} {s : px_PG} {x : Nat} (hz : zS tb x ≤ 16384 ∧ alS tb x ≤ 4096) : s.1 ≤ (pg1 tb g th s x).1 ∧ (pg1 tb g th s x).1 ≤ s.1 + 20480 := by
  unfold pg1
  split
  · show s.1 ≤ pgA tb th s.1 x + zS tb x ∧ pgA tb th s.1 x + zS tb x ≤ _
    unfold pgA
    split
    · rename_i q
      have := upN_le (v := s.1) (a := alS tb x) (by omega)
      omega
    · omega
  · exact ⟨Nat.le_refl _, by omega⟩
theorem ar_m {a b c q L : Nat} (h1 : a ≤ b ∧ b ≤ a + q) (h2 : b ≤ c ∧ c ≤ b + L * q) : a ≤ c ∧ c ≤ a + (L + 1) * q := by
  rw [Nat.succ_mul]
  omega
theorem pgs_m {tb : Nat → Nat → Nat} {g : Nat} {th : Bool} : ∀ (l : List Nat) (s : px_PG), (∀ x, x ∈ l → zS tb x ≤ 16384 ∧ alS tb x ≤ 4096) → s.1 ≤ (l.foldl (pg1 tb g th) s).1 ∧ (l.foldl (pg1 tb g th) s).1 ≤ s.1 + l.length * 20480 := by
  intro l
  induction l with
  | nil => intro s _; exact ⟨Nat.le_refl _, Nat.le_add_right _ _⟩
  | cons x l ih =>
    intro s hz
    rw [List.foldl_cons, List.length_cons]
    have h1 := pg1_m (g := g) (th := th) (s := s) (hz x List.mem_cons_self)
    have h2 := ih (pg1 tb g th s x) (fun y hy => hz y (List.mem_cons_of_mem _ hy))
    exact ar_m h1 h2
theorem pc1_m {xs : px_NL} {on : Bool} {rn : Nat → Bool} {th : Bool} {s : px_PG} {n : Nat} (hn : n < xs.length) (hcm : cmOK xs) : s.1 ≤ (pc1 xs on rn th s n).1 ∧ (pc1 xs on rn th s n).1 ≤ s.1 + 20480 := by
  unfold pc1
  split
  · rename_i e
    have h2 : stN xs n = 2 := by
      unfold cB at e
      rw [Bool.and_eq_true] at e
      exact of_decide_eq_true e.1
    have h3 := hcm n hn h2
    show s.1 ≤ pcA xs th s.1 n + cmZ xs n ∧ pcA xs th s.1 n + cmZ xs n ≤ _
    unfold pcA
    split
    · have := upN_le (v := s.1) (a := cmV xs n) h3.1.1
      omega
    · omega
  · exact ⟨Nat.le_refl _, by omega⟩
theorem pcs_m {xs : px_NL} {on : Bool} {rn : Nat → Bool} {th : Bool} (hcm : cmOK xs) : ∀ (l : List Nat) (s : px_PG), (∀ x, x ∈ l → x < xs.length) → s.1 ≤ (l.foldl (pc1 xs on rn th) s).1 ∧ (l.foldl (pc1 xs on rn th) s).1 ≤ s.1 + l.length * 20480 := by
  intro l
  induction l with
  | nil => intro s _; exact ⟨Nat.le_refl _, Nat.le_add_right _ _⟩
  | cons x l ih =>
    intro s hz
    rw [List.foldl_cons, List.length_cons]
    have h1 := pc1_m (on := on) (rn := rn) (th := th) (s := s) (hz x List.mem_cons_self) hcm
    have h2 := ih (pc1 xs on rn th s x) (fun y hy => hz y (List.mem_cons_of_mem _ hy))
    exact ar_m h1 h2
def bgN (mem fp : Nat) (th : Bool) : Nat := upN mem 4096 + (if th = true then fp % 4096 else 0)
def RSeg (σ : px_S) (s fp bg fb mb : Nat) : Prop := gB σ 60 s = lN fp ∧ gB σ 61 s = lN bg ∧ gB σ 62 s = lN fb ∧ gB σ 63 s = lN mb
abbrev sgB4 : List Nat := [60, 61, 62, 63]
/-- the rows of the other segments are as they were -/
def oth (s : Nat) (σ σ' : px_S) : Prop := ∀ k j, k ∈ sgB4 → j ≠ s → gB σ' k j = gB σ k j
theorem oth_FR {s : Nat} {σ σ' : px_S} {I J A B : List Nat} (f : FR I J A B σ σ') (h : ∀ k, k ∈ sgB4 → k ∉ B) : oth s σ σ' := fun k j hk _ => by rw [f.2.2.2 k (h k hk)]
theorem oth_tr {s : Nat} {σ σ1 σ2 : px_S} (h : oth s σ σ1) (g : oth s σ1 σ2) : oth s σ σ2 := fun k j hk hj => (g k j hk hj).trans (h k j hk hj)
theorem oth_set {s q : Nat} {σ : px_S} {v : Int64} : oth s σ (sB σ q (vp_updL (gB σ q) s v)) := fun k j _ hj => by
  rw [gB_sB]
  split
  · rename_i e; rw [vp_ne hj, e]
  · rfl
section MSE
variable {F m T s : Nat} {h : px_H} {σ : px_S} {th : Bool}
theorem q_pSeg_pre {fe mem : Nat} (hm : m ≤ h.length) (hs : s < 3) (h59 : gA σ 59 s = bI th) (h64 : gJ σ 64 = lN fe) (hfe : fe < 2 ^ 50) (hmem : mem < 2 ^ 50) : ∃ σ1, f_M_placeSegment F m (nI s) (lN mem) (mh m h σ) = f_M_placeSegment_68 F m (nI s) (lN (bgN mem (upN fe 16) th)) m (nI (if s < 2 then s else 4)) (mh m h σ1) ∧ gB σ1 60 s = lN (upN fe 16) ∧ gB σ1 61 s = lN (bgN mem (upN fe 16) th) ∧ oth s σ σ1 ∧ FR [] [] [] [60, 61] σ σ1 := by
  have u1 := upN_le (v := fe) (a := 16) (by decide)
  have u2 := upN_le (v := mem) (a := 4096) (by decide)
  obtain ⟨σ1, hσ1⟩ : ∃ z, z = sB σ 60 (vp_updL (gB σ 60) s (lN (upN fe 16))) := ⟨_, rfl⟩
  have f1 : FR [] [] [] [60, 61] σ σ1 := by rw [hσ1]; exact FR_mono (FR_B σ 60 _) (by decide) (by decide) (by decide) (by decide)
  have g60 : gB σ1 60 s = lN (upN fe 16) := by rw [hσ1, gB_sB, if_pos rfl, vp_eq]
  have g59 : gA σ1 59 s = bI th := by rw [f1.2.2.1 59 (by decide)]; exact h59
  have o1 : oth s σ σ1 := by rw [hσ1]; exact oth_set
  have fin : ∀ w, w = (if th = true then upN fe 16 % 4096 else 0) → ∃ σ1', f_M_placeSegment_46 F m (nI s) (lN (upN mem 4096)) (lN w) (mh m h σ1) = f_M_placeSegment_68 F m (nI s) (lN (bgN mem (upN fe 16) th)) m (nI (if s < 2 then s else 4)) (mh m h σ1') ∧ gB σ1' 60 s = lN (upN fe 16) ∧ gB σ1' 61 s = lN (bgN mem (upN fe 16) th) ∧ oth s σ σ1' ∧ FR [] [] [] [60, 61] σ σ1' := by
    intro w hw
    have eb : lN (upN mem 4096) + lN w = lN (bgN mem (upN fe 16) th) := by rw [lN_add, hw]; rfl
    unfold f_M_placeSegment_46
    rw [Mr61 hm, bs, eb, Ms61 hm hs, bs]
    have f2 := FR_B σ1 61 (vp_updL (gB σ1 61) s (lN (bgN mem (upN fe 16) th)))
    refine ⟨sB σ1 61 (vp_updL (gB σ1 61) s (lN (bgN mem (upN fe 16) th))), ?_, ?_, ?_, oth_tr o1 oth_set, FR_trans f1 (FR_mono f2 (by decide) (by decide) (by decide) (by decide))⟩
    · by_cases c : s < 2
      · rw [if_neg (nI_ge (by omega) (by omega)), if_pos c]
      · rw [if_pos (nI_le (by omega) (by omega)), if_neg c]
    · rw [f2.2.2.2 60 (by decide)]; exact g60
    · rw [gB_sB, if_pos rfl, vp_eq]
  unfold f_M_placeSegment
  rw [Mr60 hm, bs, Mg64 hm, bs, h64, show (16 : Int64) = lN 16 from rfl, q_up (by decide) (by omega), xb_mk, Ms60 hm hs, bs, ← hσ1, show (4096 : Int64) = lN 4096 from rfl, q_up (by decide) (by omega), xb_mk, Mr59 hm, bs, Ma59 hm hs, bs, g59]
  cases th with
  | false =>
    rw [if_pos (show bI false = 0 from rfl)]
    exact fin 0 (by rw [if_neg (by decide)])
  | true =>
    rw [if_neg (show ¬ bI true = 0 by decide), Mr60 hm, bs, Ma60 hm hs, bs, g60, pk_lRem (by omega) (by decide) (by decide)]
    exact fin (upN fe 16 % 4096) (by rw [if_pos rfl])
theorem q_pSeg_246 {bg at1 top : Nat} (hm : m ≤ h.length) (hs : s < 3) (h1 : bg ≤ top) (h2 : bg ≤ at1) : ∃ σ', f_M_placeSegment_246 F m (nI s) (lN bg) (lN at1) (lN top) (mh m h σ) = some ((), mh m h σ') ∧ gB σ' 62 s = lN (top - bg) ∧ gB σ' 63 s = lN (at1 - bg) ∧ oth s σ σ' ∧ FR [] [] [] [62, 63] σ σ' := by
  unfold f_M_placeSegment_246
  rw [Mr62 hm, bs, lN_sub h1, Ms62 hm hs, bs, Mr63 hm, bs, lN_sub h2, Ms63 hm hs, bs]
  have f1 := FR_B σ 62 (vp_updL (gB σ 62) s (lN (top - bg)))
  refine ⟨_, rfl, ?_, ?_, oth_tr oth_set oth_set, FR_trans (FR_mono f1 (by decide) (by decide) (by decide) (by decide)) (FR_mono (FR_B _ 63 _) (by decide) (by decide) (by decide) (by decide))⟩
  · rw [gB_sB, if_neg (by decide), gB_sB, if_pos rfl, vp_eq]
  · rw [gB_sB, if_pos rfl, vp_eq]
end MSE
section MSF
variable {F m T : Nat} {h : px_H} {tb : Nat → Nat → Nat} {tO tn tq : Nat → Nat} {ll : List Nat} {D : Nat → Prop} {B : Nat → Nat} {ad : Nat → Nat}
theorem RAd_FR {σ σ' : px_S} {I J A Bs : List Nat} (hh : RAd σ ll D ad) (f : FR I J A Bs σ σ') (h1 : 57 ∉ Bs ∧ 58 ∉ Bs) : RAd σ' ll D ad := fun P x hx hd => by rw [f.2.2.2 57 h1.1, f.2.2.2 58 h1.2]; exact hh P x hx hd
/-- what is laid, known -/
def LYo (T : Nat) (tb : Nat → Nat → Nat) (ll : List Nat) : Prop := T ≤ 64 ∧ llP T tb ll ∧ ll.Nodup ∧ ∀ x, x ∈ ll → zS tb x ≤ 16384 ∧ alS tb x ≤ 4096
theorem ar_6 {a K : Nat} (ha : a ≤ 1536) : a * 20480 ≤ 31457280 := by
  have := Nat.mul_le_mul_right 20480 ha
  omega
theorem q_pSeg0 {σ : px_S} {fe mem : Nat} {th : Bool} (hm : m ≤ h.length) (hF : 65536 < F) (hY : LYo T tb ll) (hD : ∀ x, D x → cnd tb 0 x = false) (hB : ∀ t, t < T → OB σ t (tO t) (tn t) (tb t)) (hL : RLa σ tq tb ll) (hA : RAd σ ll D ad) (h59 : gA σ 59 0 = bI th) (h64 : gJ σ 64 = lN fe) (hfe : fe < 2 ^ 38) (hmem : mem < 2 ^ 38) (G : px_PG) (hG : G = ll.foldl (pg1 tb 0 th) (bgN mem (upN fe 16) th, ad, none)) : ∃ σ', f_M_placeSegment F m (nI 0) (lN mem) (mh m h σ) = some ((), mh m h σ') ∧ RSeg σ' 0 (upN fe 16) (bgN mem (upN fe 16) th) (G.1 - bgN mem (upN fe 16) th) (G.1 - bgN mem (upN fe 16) th) ∧ gJ σ' 80 = lN G.1 ∧ RAd σ' ll (fun x => D x ∨ cnd tb 0 x = true) G.2.1 ∧ oth 0 σ σ' ∧ FR [] [80, 81] [] [57, 58, 60, 61, 62, 63] σ σ' := by
  obtain ⟨hT, hl, hnd, hZ⟩ := hY
  have u1 := upN_le (v := fe) (a := 16) (by decide)
  have u2 := upN_le (v := mem) (a := 4096) (by decide)
  have hbg : bgN mem (upN fe 16) th < mem + 8192 := by unfold bgN; have := Nat.mod_lt (upN fe 16) (show 4096 > 0 by decide); split <;> omega
  obtain ⟨σ1, a1, a2, a3, a4, a5⟩ := q_pSeg_pre (F := F) (h := h) (s := 0) hm (by decide) h59 h64 (by omega) (show mem < 2 ^ 50 by omega)
  generalize hbgv : bgN mem (upN fe 16) th = bg at *
  obtain ⟨σ2, b1, b2, b3, b4, b5⟩ := q_placeGroup (F := F) (h := h) (g := 0) (th := th) (D := D) (s := (bg, ad, none)) hm hF hT hl hnd hZ (by decide) hD (fun t ht => OB_FR (hB t ht) a5 (by decide)) (RLa_FR hL a5 (by decide) (by decide)) (show bg < _ by omega) (fun v hv => nomatch hv) (RAd_FR hA a5 (by decide)) (fun q => absurd q (by decide))
  rw [← hG] at b1 b2
  have hmon := pgs_m (g := 0) (th := th) ll (bg, ad, none) hZ
  rw [← hG] at hmon
  have hmon1 : bg ≤ G.1 := hmon.1
  have f80 := FR_J σ2 80 (lN G.1)
  obtain ⟨σ3, d1, d2, d3, d4, d5⟩ := q_pSeg_246 (F := F) (h := h) (σ := sJ σ2 80 (lN G.1)) (s := 0) (bg := bg) (at1 := G.1) (top := G.1) hm (by decide) hmon1 hmon1
  refine ⟨σ3, ?_, ⟨?_, ?_, d2, d3⟩, ?_, ?_, ?_, ?_⟩
  · rw [a1]
    unfold f_M_placeSegment_68 f_M_placeSegment_116 f_M_placeSegment_126 f_M_placeSegment_139
    have g59 : gA σ1 59 0 = bI th := by rw [a5.2.2.1 59 (by decide)]; exact h59
    rw [Mr59 hm, bs, Ma59 hm (by decide), bs, g59, e_o hm, bs, if_pos (show 0 < 2 by decide), b1, xb_mk, if_neg (show ¬ nI 0 = nI 2 by decide), if_pos (show nI 0 = 0 from rfl), Mp80 hm, bs, if_neg (show ¬ nI 0 = nI 1 by decide), if_neg (show ¬ nI 0 = nI 2 by decide)]
    exact d1
  · rw [d5.2.2.2 60 (by decide), f80.2.2.2 60 (by decide), b5.2.2.2 60 (by decide)]; exact a2
  · rw [d5.2.2.2 61 (by decide), f80.2.2.2 61 (by decide), b5.2.2.2 61 (by decide)]; exact a3
  · rw [d5.2.1 80 (by decide), gJ_sJ, if_pos rfl]
  · exact RAd_FR (RAd_FR b2 f80 (by decide)) d5 (by decide)
  · exact oth_tr a4 (oth_tr (oth_FR b5 (by decide)) (oth_tr (oth_FR f80 (by decide)) d4))
  · exact FR_trans (FR_mono a5 (by decide) (by decide) (by decide) (by decide)) (FR_trans (FR_mono b5 (by decide) (by decide) (by decide) (by decide)) (FR_trans (FR_mono f80 (by decide) (by decide) (by decide) (by decide)) (FR_mono d5 (by decide) (by decide) (by decide) (by decide))))
theorem q_pSeg1 {σ : px_S} {fe mem : Nat} {th : Bool} (hm : m ≤ h.length) (hF : 65540 < F) (hY : LYo T tb ll) (hD : ∀ x, D x → cnd tb 1 x = false ∧ sS tb x = false) (hW : RWp σ T tO tn tq tb ll B) (hn : ndB B (nd0 B tO tb ll)) (hI : PIn B (nd0 B tO tb ll) (pf0 B tO tb ll)) (hr : RPo σ B (nd0 B tO tb ll) (pf0 B tO tb ll)) (hA : RAd σ ll D ad) (h59 : gA σ 59 1 = bI th) (h64 : gJ σ 64 = lN fe) (hfe : fe < 2 ^ 38) (hmem : mem < 2 ^ 38) (G : px_PG) (hG : G = ll.foldl (pg1 tb 1 th) (bgN mem (upN fe 16) th, ad, none)) : ∃ σ', f_M_placeSegment F m (nI 1) (lN mem) (mh m h σ) = some ((), mh m h σ') ∧ RSeg σ' 1 (upN fe 16) (bgN mem (upN fe 16) th) (G.1 + psz B (pf0 B tO tb ll) - bgN mem (upN fe 16) th) (G.1 + psz B (pf0 B tO tb ll) - bgN mem (upN fe 16) th) ∧ gJ σ' 90 = lN G.1 ∧ RAd σ' ll (fun x => (D x ∨ cnd tb 1 x = true) ∨ sS tb x = true) (psF B (pf0 B tO tb ll) tO tb G.1 G.2.1) ∧ oth 1 σ σ' ∧ FR [] [81, 90] [] [57, 58, 60, 61, 62, 63] σ σ' := by
  obtain ⟨hT, hl, hnd, hZ⟩ := hY
  have u1 := upN_le (v := fe) (a := 16) (by decide)
  have u2 := upN_le (v := mem) (a := 4096) (by decide)
  have hbg : bgN mem (upN fe 16) th < mem + 8192 := by unfold bgN; have := Nat.mod_lt (upN fe 16) (show 4096 > 0 by decide); split <;> omega
  obtain ⟨σ1, a1, a2, a3, a4, a5⟩ := q_pSeg_pre (F := F) (h := h) (s := 1) hm (by decide) h59 h64 (by omega) (show mem < 2 ^ 50 by omega)
  generalize hbgv : bgN mem (upN fe 16) th = bg at *
  have hW1 := RWp_FR hW a5 (by decide) (by decide)
  obtain ⟨σ2, b1, b2, b3, b4, b5⟩ := q_placeGroup (F := F) (h := h) (g := 1) (th := th) (D := D) (s := (bg, ad, none)) hm (by omega) hT hl hnd hZ (by decide) (fun x hx => (hD x hx).1) hW1.1 hW1.2.1 (show bg < _ by omega) (fun v hv => nomatch hv) (RAd_FR hA a5 (by decide)) (fun q => absurd q (by decide))
  rw [← hG] at b1 b2
  have hmon := pgs_m (g := 1) (th := th) ll (bg, ad, none) hZ
  rw [← hG] at hmon
  have hmon1 : bg ≤ G.1 := hmon.1
  have hmon2 : G.1 ≤ bg + ll.length * 20480 := hmon.2
  have h6 := ar_6 (K := 0) hl.1
  have hsz := PIn_sz hI
  obtain ⟨σ3, c1, c2, c3, c4⟩ := q_placeStrings (F := F) (h := h) (pp := G.1) (D := fun x => D x ∨ cnd tb 1 x = true) (ad := G.2.1) hm hF hl hnd hn hI (fun x hx => hx.elim (fun q => (hD x q).2) (fun q => by
    unfold cnd at q
    rw [Bool.and_eq_true] at q
    have q2 := q.2
    rw [decide_eq_true rfl, Bool.true_and] at q2
    cases es : sS tb x with
    | false => rfl
    | true => rw [es] at q2; cases q2)) (by omega) (RWp_FR hW1 b5 (by decide) (by decide)) (RPo_FR (RPo_FR hr a5 (by decide) (by decide)) b5 (by decide) (by decide)) b2
  generalize hA2 : G.1 + psz B (pf0 B tO tb ll) = at2 at *
  obtain ⟨σ4, d1, d2, d3, d4, d5⟩ := q_pSeg_246 (F := F) (h := h) (σ := σ3) (s := 1) (bg := bg) (at1 := at2) (top := at2) hm (by decide) (by omega) (by omega)
  refine ⟨σ4, ?_, ⟨?_, ?_, d2, d3⟩, ?_, ?_, ?_, ?_⟩
  · rw [a1]
    unfold f_M_placeSegment_68 f_M_placeSegment_116 f_M_placeSegment_126 f_M_placeSegment_139
    have g59 : gA σ1 59 1 = bI th := by rw [a5.2.2.1 59 (by decide)]; exact h59
    rw [Mr59 hm, bs, Ma59 hm (by decide), bs, g59, e_o hm, bs, if_pos (show 1 < 2 by decide), b1, xb_mk, if_neg (show ¬ nI 1 = nI 2 by decide), if_neg (show ¬ nI 1 = 0 by decide), if_pos rfl, e_o hm, bs, c1, xb_mk, if_neg (show ¬ nI 1 = nI 2 by decide)]
    exact d1
  · rw [d5.2.2.2 60 (by decide), c4.2.2.2 60 (by decide), b5.2.2.2 60 (by decide)]; exact a2
  · rw [d5.2.2.2 61 (by decide), c4.2.2.2 61 (by decide), b5.2.2.2 61 (by decide)]; exact a3
  · rw [d5.2.1 90 (by decide)]; exact c3
  · exact RAd_FR c2 d5 (by decide)
  · exact oth_tr a4 (oth_tr (oth_FR b5 (by decide)) (oth_tr (oth_FR c4 (by decide)) d4))
  · exact FR_trans (FR_mono a5 (by decide) (by decide) (by decide) (by decide)) (FR_trans (FR_mono b5 (by decide) (by decide) (by decide) (by decide)) (FR_trans (FR_mono c4 (by decide) (by decide) (by decide) (by decide)) (FR_mono d5 (by decide) (by decide) (by decide) (by decide))))
end MSF
end
section
/-! placeSegment of the reference: the third -/
theorem pgs_b {tb : Nat → Nat → Nat} {g : Nat} {th : Bool} : ∀ (l : List Nat) (s : px_PG), (∀ x, x ∈ l → zS tb x ≤ 16384 ∧ alS tb x ≤ 4096) → (∀ v, s.2.2 = some v → v ≤ s.1) → ∀ v, (l.foldl (pg1 tb g th) s).2.2 = some v → v ≤ (l.foldl (pg1 tb g th) s).1 := by
  intro l
  induction l with
  | nil => intro s _ h v hv; exact h v hv
  | cons x l ih =>
    intro s hz h
    rw [List.foldl_cons]
    refine ih _ (fun y hy => hz y (List.mem_cons_of_mem _ hy)) (fun v hv => ?_)
    have hm := pg1_m (g := g) (th := th) (s := s) (hz x List.mem_cons_self)
    unfold pg1 at hv hm ⊢
    by_cases c : cnd tb g x = true
    · rw [if_pos c] at hv hm ⊢
      have hv : (if g = 3 then some (s.2.2.getD (pgA tb th s.1 x)) else s.2.2) = some v := hv
      show v ≤ pgA tb th s.1 x + zS tb x
      have hm : s.1 ≤ pgA tb th s.1 x + zS tb x ∧ _ := hm
      by_cases c3 : g = 3
      · rw [if_pos c3] at hv
        have := Option.some.inj hv
        cases e : s.2.2 with
        | none => rw [e] at this; have : pgA tb th s.1 x = v := this; omega
        | some w => rw [e] at this; have h6 : w = v := this; have := h w e; omega
      · rw [if_neg c3] at hv
        have := h v hv
        omega
    · rw [if_neg c] at hv ⊢
      exact h v hv
theorem cnd_x {tb : Nat → Nat → Nat} {g g' x : Nat} (h : cnd tb g x = true) (hne : g ≠ g') : cnd tb g' x = false := by
  unfold cnd at *
  rw [Bool.and_eq_true] at h
  rw [decide_eq_false (fun q => hne ((of_decide_eq_true h.1).symm.trans q)), Bool.false_and]
section MSZ
variable {F m T : Nat} {h : px_H} {tb : Nat → Nat → Nat} {tO tn tq : Nat → Nat} {ll od : List Nat} {D : Nat → Prop} {ad : Nat → Nat} {xs : px_NL} {on : Bool} {rn : Nat → Bool}
theorem q_pSeg2 {σ : px_S} {fe mem ns : Nat} {th : Bool} {na : Nat → Nat} (hm : m ≤ h.length) (hF : 65536 < F) (hY : LYo T tb ll) (hD : ∀ x, D x → cnd tb 4 x = false ∧ cnd tb 5 x = false ∧ cnd tb 2 x = false ∧ cnd tb 3 x = false) (hB : ∀ t, t < T → OB σ t (tO t) (tn t) (tb t)) (hR : RWg σ tq tb ll xs od on rn ns) (hok : okL xs) (hod : ∀ d, d ∈ od → d < xs.length) (hcm : cmOK xs) (hns : ns ≤ 2800) (hA : RAd σ ll D ad) (hNa : RNa σ xs.length na) (h59 : gA σ 59 2 = bI th) (h64 : gJ σ 64 = lN fe) (hfe : fe < 2 ^ 37) (hmem : mem < 2 ^ 37) (bg : Nat) (hbg0 : bg = bgN mem (upN fe 16) th) (G4 G5 G2 G3 CM : px_PG) (sp : Nat) (e4 : G4 = ll.foldl (pg1 tb 4 th) (bg, ad, none)) (e5 : G5 = ll.foldl (pg1 tb 5 th) (G4.1, G4.2.1, none)) (e2 : G2 = ll.foldl (pg1 tb 2 th) (G4.1, G5.2.1, none)) (esp : sp = if 0 < ns then upN G2.1 8 else G2.1) (e3 : G3 = ll.foldl (pg1 tb 3 th) (sp + 8 * ns, G2.2.1, none)) (ec : CM = od.foldl (pc1 xs on rn th) (G3.1, na, G3.2.2)) : ∃ σ', f_M_placeSegment F m (nI 2) (lN mem) (mh m h σ) = some ((), mh m h σ') ∧ RSeg σ' 2 (upN fe 16) bg (sp + 8 * ns - bg) (CM.1 - bg) ∧ gJ σ' 79 = lN sp ∧ gJ σ' 81 = lN (CM.2.2.getD CM.1) ∧ RAd σ' ll (fun x => D x ∨ cnd tb 4 x = true ∨ cnd tb 5 x = true ∨ cnd tb 2 x = true ∨ cnd tb 3 x = true) G3.2.1 ∧ RNa σ' xs.length CM.2.1 ∧ oth 2 σ σ' ∧ FR [] [79, 81] [] [29, 57, 58, 60, 61, 62, 63] σ σ' := by
  obtain ⟨hT, hl, hnd, hZ⟩ := hY
  have hl1 := hl.1
  have h6 := ar_6 (K := 0) hl1
  have u1 := upN_le (v := fe) (a := 16) (by decide)
  have u2 := upN_le (v := mem) (a := 4096) (by decide)
  have hbg : bg < mem + 8192 := by rw [hbg0]; unfold bgN; have := Nat.mod_lt (upN fe 16) (show 4096 > 0 by decide); split <;> omega
  obtain ⟨σ1, a1, a2, a3, a4, a5⟩ := q_pSeg_pre (F := F) (h := h) (s := 2) hm (by decide) h59 h64 (by omega) (show mem < 2 ^ 50 by omega)
  rw [← hbg0] at a1 a3
  have hR1 := RWg_FR hR a5 (by decide) (by decide) (by decide)
  obtain ⟨σ2, b1, b2, b3, b4, b5⟩ := q_placeGroup (F := F) (h := h) (g := 4) (th := th) (D := D) (s := (bg, ad, none)) hm hF hT hl hnd hZ (by decide) (fun x hx => (hD x hx).1) (fun t ht => OB_FR (hB t ht) a5 (by decide)) hR1.1 (show bg < _ by omega) (fun v hv => nomatch hv) (RAd_FR hA a5 (by decide)) (fun q => absurd q (by decide))
  rw [← e4] at b1 b2
  have m4 := pgs_m (g := 4) (th := th) ll (bg, ad, none) hZ
  rw [← e4] at m4
  have m41 : bg ≤ G4.1 := m4.1
  have m42 : G4.1 ≤ bg + ll.length * 20480 := m4.2
  have F2 : FR [] [79, 81] [] [29, 57, 58, 60, 61, 62, 63] σ σ2 := FR_trans (FR_mono a5 (by decide) (by decide) (by decide) (by decide)) (FR_mono b5 (by decide) (by decide) (by decide) (by decide))
  have hR2 := RWg_FR hR F2 (by decide) (by decide) (by decide)
  obtain ⟨σ3, c1, c2, c3, c4, c5⟩ := q_placeGroup (F := F) (h := h) (g := 5) (th := th) (D := fun x => D x ∨ cnd tb 4 x = true) (s := (G4.1, G4.2.1, none)) hm hF hT hl hnd hZ (by decide) (fun x hx => hx.elim (fun q => (hD x q).2.1) (fun q => cnd_x q (by decide))) (fun t ht => OB_FR (hB t ht) F2 (by decide)) hR2.1 (show G4.1 < _ by omega) (fun v hv => nomatch hv) b2 (fun q => absurd q (by decide))
  rw [← e5] at c1 c2
  have F3 := FR_trans F2 (FR_mono c5 (I' := []) (J' := [79, 81]) (A' := []) (B' := [29, 57, 58, 60, 61, 62, 63]) (by decide) (by decide) (by decide) (by decide))
  have hR3 := RWg_FR hR F3 (by decide) (by decide) (by decide)
  obtain ⟨σ4, d1, d2, d3, d4, d5⟩ := q_placeGroup (F := F) (h := h) (g := 2) (th := th) (D := fun x => (D x ∨ cnd tb 4 x = true) ∨ cnd tb 5 x = true) (s := (G4.1, G5.2.1, none)) hm hF hT hl hnd hZ (by decide) (fun x hx => hx.elim (fun q => q.elim (fun q => (hD x q).2.2.1) (fun q => cnd_x q (by decide))) (fun q => cnd_x q (by decide))) (fun t ht => OB_FR (hB t ht) F3 (by decide)) hR3.1 (show G4.1 < _ by omega) (fun v hv => nomatch hv) c2 (fun q => absurd q (by decide))
  rw [← e2] at d1 d2
  have m2 := pgs_m (g := 2) (th := th) ll (G4.1, G5.2.1, none) hZ
  rw [← e2] at m2
  have m21 : G4.1 ≤ G2.1 := m2.1
  have m22 : G2.1 ≤ G4.1 + ll.length * 20480 := m2.2
  have F4 := FR_trans F3 (FR_mono d5 (I' := []) (J' := [79, 81]) (A' := []) (B' := [29, 57, 58, 60, 61, 62, 63]) (by decide) (by decide) (by decide) (by decide))
  have hsp : G2.1 ≤ sp ∧ sp < G2.1 + 8 := by
    rw [esp]
    split
    · have := upN_le (v := G2.1) (a := 8) (by decide); omega
    · omega
  obtain ⟨σ5, hσ5⟩ : ∃ z, z = sJ (sJ σ4 79 (lN sp)) 81 (-1 : Int64) := ⟨_, rfl⟩
  have f5 : FR [] [79, 81] [] [29, 57, 58, 60, 61, 62, 63] σ4 σ5 := by
    rw [hσ5]
    exact FR_trans (FR_mono (FR_J σ4 79 _) (by decide) (by decide) (by decide) (by decide)) (FR_mono (FR_J _ 81 _) (by decide) (by decide) (by decide) (by decide))
  have f5b : FR [] [79, 81] [] [] σ4 σ5 := by
    rw [hσ5]
    exact FR_trans (FR_mono (FR_J σ4 79 _) (by decide) (by decide) (by decide) (by decide)) (FR_mono (FR_J _ 81 _) (by decide) (by decide) (by decide) (by decide))
  have F5 := FR_trans F4 f5
  have hR5 := RWg_FR hR F5 (by decide) (by decide) (by decide)
  have g81 : gJ σ5 81 = (-1 : Int64) := by rw [hσ5, gJ_sJ, if_pos rfl]
  have g79 : gJ σ5 79 = lN sp := by rw [hσ5, gJ_sJ, if_neg (by decide), gJ_sJ, if_pos rfl]
  obtain ⟨σ6, k1, k2, k3, k4, k5⟩ := q_placeGroup (F := F) (h := h) (g := 3) (th := th) (D := fun x => ((D x ∨ cnd tb 4 x = true) ∨ cnd tb 5 x = true) ∨ cnd tb 2 x = true) (s := (sp + 8 * ns, G2.2.1, none)) hm hF hT hl hnd hZ (by decide) (fun x hx => hx.elim (fun q => q.elim (fun q => q.elim (fun q => (hD x q).2.2.2) (fun q => cnd_x q (by decide))) (fun q => cnd_x q (by decide))) (fun q => cnd_x q (by decide))) (fun t ht => OB_FR (hB t ht) F5 (by decide)) hR5.1 (show sp + 8 * ns < _ by omega) (fun v hv => nomatch hv) (RAd_FR d2 f5b (by decide)) (fun _ => g81)
  rw [← e3] at k1 k2 k3
  have m3 := pgs_m (g := 3) (th := th) ll (sp + 8 * ns, G2.2.1, none) hZ
  rw [← e3] at m3
  have m31 : sp + 8 * ns ≤ G3.1 := m3.1
  have m32 : G3.1 ≤ sp + 8 * ns + ll.length * 20480 := m3.2
  have hb3 := pgs_b (g := 3) (th := th) ll (sp + 8 * ns, G2.2.1, none) hZ (fun v hv => nomatch hv)
  rw [← e3] at hb3
  have F6 := FR_trans F5 (FR_mono k5 (I' := []) (J' := [79, 81]) (A' := []) (B' := [29, 57, 58, 60, 61, 62, 63]) (by decide) (by decide) (by decide) (by decide))
  have hR6 := RWg_FR hR F6 (by decide) (by decide) (by decide)
  have hNa6 : RNa σ6 xs.length na := fun n hn => by
    rw [k5.2.2.2 29 (by decide), f5b.2.2.2 29 (by decide), d5.2.2.2 29 (by decide), c5.2.2.2 29 (by decide), b5.2.2.2 29 (by decide), a5.2.2.2 29 (by decide)]
    exact hNa n hn
  obtain ⟨σ7, p1, p2, p3, p4, p5⟩ := q_placeCommons (F := F) (h := h) (th := th) (on := on) (rn := rn) (s := (G3.1, na, G3.2.2)) hm hF hok hod hcm hR6.2.1 hR6.2.2.1 hR6.2.2.2.1 (show G3.1 < _ by omega) (fun v hv => by have := hb3 v hv; omega) hNa6 (k3 rfl)
  rw [← ec] at p1 p2 p3 p4
  have mc := pcs_m (on := on) (rn := rn) (th := th) hcm od (G3.1, na, G3.2.2) hod
  rw [← ec] at mc
  have mc1 : G3.1 ≤ CM.1 := mc.1
  have F7 := FR_trans F6 (FR_mono p5 (I' := []) (J' := [79, 81]) (A' := []) (B' := [29, 57, 58, 60, 61, 62, 63]) (by decide) (by decide) (by decide) (by decide))
  have q79 : gJ σ7 79 = lN sp := by rw [p5.2.1 79 (by decide), k5.2.1 79 (by decide)]; exact g79
  -- the last steps
  have f8 := FR_J σ7 81 (lN (CM.2.2.getD CM.1))
  obtain ⟨σ9, r1, r2, r3, r4, r5⟩ := q_pSeg_246 (F := F) (h := h) (σ := sJ σ7 81 (lN (CM.2.2.getD CM.1))) (s := 2) (bg := bg) (at1 := CM.1) (top := sp + 8 * ns) hm (by decide) (by omega) (by omega)
  have e169 : ∀ w, f_M_placeSegment_169 F m (nI 2) (lN bg) m (lN sp) (mh m h σ4) = w → w = some ((), mh m h σ9) := by
    intro w hw
    rw [← hw]
    unfold f_M_placeSegment_169 f_M_placeSegment_243
    have q74 : gI (sJ σ4 79 (lN sp)) 74 = nI ns := by rw [gI_sJ, F4.1 74 (by decide)]; exact hR.2.2.2.2
    have p59 : gA σ5 59 2 = bI th := by rw [F5.2.2.1 59 (by decide)]; exact h59
    have p592 : gA σ6 59 2 = bI th := by rw [F6.2.2.1 59 (by decide)]; exact h59
    have et : lN sp + (8 : Int64) * lN ns = lN (sp + 8 * ns) := by rw [show (8 : Int64) = lN 8 from rfl, lN_mul, lN_add]
    rw [Mp79 hm, bs, Mg79 hm, bs, gJ_sJ, if_pos rfl, Mg74 hm, bs, q74, nI_l (by omega), et, Mp81 hm, bs, ← hσ5, Mr59 hm, bs, Ma59 hm (by decide), bs, p59, e_o hm, bs, k1, xb_mk, Mr59 hm, bs, Ma59 hm (by decide), bs, p592, e_o hm, bs, p1, xb_mk, Mg81 hm, bs, p3]
    cases eb : CM.2.2 with
    | none =>
      rw [if_neg (show ¬ lN 0 ≤ bsV none by decide), Mp81 hm, bs]
      rw [eb] at r1
      exact r1
    | some v =>
      have hv := p4 v eb
      rw [eb] at r1
      rw [if_pos (show lN 0 ≤ bsV (some v) from (pk_lLE (by decide) (by omega)).mpr (Nat.zero_le _)), bs, show bsV (some v) = lN v from rfl, Mp81 hm, bs]
      exact r1
  refine ⟨σ9, ?_, ⟨?_, ?_, r2, r3⟩, ?_, ?_, ?_, ?_, ?_, ?_⟩
  · rw [a1]
    have p59 : gA σ1 59 2 = bI th := by rw [a5.2.2.1 59 (by decide)]; exact h59
    have p592 : gA σ2 59 2 = bI th := by rw [F2.2.2.1 59 (by decide)]; exact h59
    have p593 : gA σ3 59 2 = bI th := by rw [F3.2.2.1 59 (by decide)]; exact h59
    have q74 : gI σ4 74 = nI ns := by rw [F4.1 74 (by decide)]; exact hR.2.2.2.2
    unfold f_M_placeSegment_68 f_M_placeSegment_116 f_M_placeSegment_126 f_M_placeSegment_139
    rw [Mr59 hm, bs, Ma59 hm (by decide), bs, p59, e_o hm, bs, if_neg (show ¬ 2 < 2 by decide), b1, xb_mk, if_pos rfl, Mr59 hm, bs, Ma59 hm (by decide), bs, p592, e_o hm, bs, c1, xb_mk, Mr59 hm, bs, Ma59 hm (by decide), bs, p593, e_o hm, bs, d1, xb_mk, if_neg (show ¬ nI 2 = 0 by decide), if_neg (show ¬ nI 2 = nI 1 by decide), if_pos rfl, Mg74 hm, bs, q74]
    by_cases cn : 0 < ns
    · rw [if_pos cn] at esp
      rw [if_neg (show ¬ nI ns ≤ 0 from nI_ge (a := 0) cn (by omega)), show (8 : Int64) = lN 8 from rfl, q_up (by decide) (by omega), xb_mk, ← esp]
      exact e169 _ rfl
    · rw [if_neg cn] at esp
      rw [if_pos (show nI ns ≤ 0 by rw [show ns = 0 by omega]; decide), ← esp]
      exact e169 _ rfl
  · rw [r5.2.2.2 60 (by decide), f8.2.2.2 60 (by decide), p5.2.2.2 60 (by decide), k5.2.2.2 60 (by decide), f5b.2.2.2 60 (by decide), d5.2.2.2 60 (by decide), c5.2.2.2 60 (by decide), b5.2.2.2 60 (by decide)]; exact a2
  · rw [r5.2.2.2 61 (by decide), f8.2.2.2 61 (by decide), p5.2.2.2 61 (by decide), k5.2.2.2 61 (by decide), f5b.2.2.2 61 (by decide), d5.2.2.2 61 (by decide), c5.2.2.2 61 (by decide), b5.2.2.2 61 (by decide)]; exact a3
  · rw [r5.2.1 79 (by decide), f8.2.1 79 (by decide)]; exact q79
  · rw [r5.2.1 81 (by decide), gJ_sJ, if_pos rfl]
  · intro P x hx hd
    rw [r5.2.2.2 57 (by decide), r5.2.2.2 58 (by decide), f8.2.2.2 57 (by decide), f8.2.2.2 58 (by decide), p5.2.2.2 57 (by decide), p5.2.2.2 58 (by decide)]
    refine k2 P x hx ?_
    rcases hd with q | q | q | q | q
    · exact Or.inl (Or.inl (Or.inl (Or.inl q)))
    · exact Or.inl (Or.inl (Or.inl (Or.inr q)))
    · exact Or.inl (Or.inl (Or.inr q))
    · exact Or.inl (Or.inr q)
    · exact Or.inr q
  · intro n hn
    rw [r5.2.2.2 29 (by decide), f8.2.2.2 29 (by decide)]; exact p2 n hn
  · exact oth_tr a4 (oth_tr (oth_FR b5 (by decide)) (oth_tr (oth_FR c5 (by decide)) (oth_tr (oth_FR d5 (by decide)) (oth_tr (oth_FR f5b (by decide)) (oth_tr (oth_FR k5 (by decide)) (oth_tr (oth_FR p5 (by decide)) (oth_tr (oth_FR f8 (by decide)) r4)))))))
  · exact FR_trans F7 (FR_trans (FR_mono f8 (by decide) (by decide) (by decide) (by decide)) (FR_mono r5 (by decide) (by decide) (by decide) (by decide)))
end MSZ
end
