/-! nodeOf of the reference -/
def rst (B : Nat → Nat) : Nat → Nat → List Nat
  | _, 0 => []
  | x, c + 1 => if B x = 0 then [] else B x :: rst B (x + 1) c
/-- the bytes from x on, up to a byte 0 -/
def st (B : Nat → Nat) (x : Nat) : List Nat := rst B x (65536 - x)
theorem st_s {B : Nat → Nat} {x : Nat} (h : x < 65536) : st B x = if B x = 0 then [] else B x :: st B (x + 1) := by
  unfold st
  rw [show 65536 - x = (65536 - (x + 1)) + 1 by omega]
  rfl
theorem st_0 {B : Nat → Nat} {x : Nat} (h : x < 65536) (h0 : B x = 0) : st B x = [] := by rw [st_s h, if_pos h0]
theorem st_n {B : Nat → Nat} {x : Nat} (h : x < 65536) (h0 : B x ≠ 0) : st B x = B x :: st B (x + 1) := by rw [st_s h, if_neg h0]
/-- where the string that ends at p + d begins -/
def frm (B : Nat → Nat) (p : Nat) : Nat → Nat
  | 0 => p
  | d + 1 => if B (p + d) = 0 then p + d + 1 else frm B p d
theorem frm_s {B : Nat → Nat} {p d : Nat} : frm B p (d + 1) = if B (p + d) = 0 then p + d + 1 else frm B p d := rfl
theorem frm_le {B : Nat → Nat} {p : Nat} : ∀ d, p ≤ frm B p d ∧ frm B p d ≤ p + d ∧ ∀ x, frm B p d ≤ x → x < p + d → B x ≠ 0 := by
  intro d
  induction d with
  | zero => exact ⟨Nat.le_refl _, Nat.le_refl _, fun x h1 h2 => by have : p ≤ x := h1; omega⟩
  | succ d ih =>
    rw [frm_s]
    by_cases c : B (p + d) = 0
    · rw [if_pos c]; exact ⟨by omega, by omega, fun x h1 h2 => by omega⟩
    · rw [if_neg c]
      refine ⟨ih.1, by omega, fun x h1 h2 => ?_⟩
      by_cases e : x = p + d
      · rw [e]; exact c
      · exact ih.2.2 x h1 (by omega)
theorem nodup_img {f : Nat → List Nat} : ∀ (N : Nat) (l : List (List Nat)), l.Nodup → (∀ s, s ∈ l → ∃ x, x < N ∧ s = f x) → l.length ≤ N := by
  intro N
  induction N with
  | zero =>
    intro l _ h
    cases l with
    | nil => exact Nat.le_refl _
    | cons y l =>
      obtain ⟨x, hx, _⟩ := h y List.mem_cons_self
      omega
  | succ N ih =>
    intro l hd h
    by_cases c : f N ∈ l
    · have e := List.length_erase_of_mem c
      have hp : 0 < l.length := List.length_pos_of_mem c
      have := ih (l.erase (f N)) (hd.erase (f N)) (fun s hs => by
        have hm := (List.Nodup.mem_erase_iff hd).mp hs
        obtain ⟨x, h1, h2⟩ := h s hm.2
        have : x ≠ N := fun q => hm.1 (by rw [h2, q])
        exact ⟨x, by omega, h2⟩)
      omega
    · have := ih l hd (fun s hs => by
        obtain ⟨x, h1, h2⟩ := h s hs
        have : x ≠ N := fun q => c (by rw [← q, ← h2]; exact hs)
        exact ⟨x, by omega, h2⟩)
      omega
/-- every node is a string of the bytes -/
def ndB (B : Nat → Nat) (nd : List (List Nat)) : Prop := ∀ s, s ∈ nd → ∃ x, x < 65537 ∧ s = st B x
theorem ndB_ent {B : Nat → Nat} {nd : List (List Nat)} {x : Nat} (h : ndB B nd) (hx : x < 65537) : ndB B (ent (st B x) nd) := fun s hs => by
  rcases ent_mem.mp hs with e | e
  · exact ⟨x, hx, e⟩
  · exact h s e
/-- where the pool's strings with these ends end -/
def RPe (σ : px_S) (nd : List (List Nat)) (pe : List Nat → Option Nat) : Prop := (∀ k u, nd[k]? = some u → gA σ 94 (k + 1) = tdA (pe u)) ∧ ∀ u, u ∉ nd → pe u = none
/-- the nodes of a string's ends -/
def ndS (B : Nat → Nat) (p : Nat) : Nat → List (List Nat) → List (List Nat)
  | 0, nd => nd
  | d + 1, nd => if B (p + d) = 0 then nd else ndS B p d (ent (st B (p + d)) nd)
theorem ndS_s {B : Nat → Nat} {p d : Nat} {nd : List (List Nat)} : ndS B p (d + 1) nd = if B (p + d) = 0 then nd else ndS B p d (ent (st B (p + d)) nd) := rfl
theorem ndS_mem {B : Nat → Nat} {p : Nat} {w : List Nat} : ∀ (d : Nat) (nd : List (List Nat)), w ∈ ndS B p d nd ↔ w ∈ nd ∨ ∃ x, frm B p d ≤ x ∧ x < p + d ∧ w = st B x := by
  intro d
  induction d with
  | zero => intro nd; exact ⟨Or.inl, fun q => q.elim id (fun ⟨x, h1, h2, _⟩ => by have : p ≤ x := h1; omega)⟩
  | succ d ih =>
    intro nd
    rw [ndS_s, frm_s]
    by_cases c : B (p + d) = 0
    · rw [if_pos c, if_pos c]
      exact ⟨Or.inl, fun q => q.elim id (fun ⟨x, h1, h2, _⟩ => by omega)⟩
    · rw [if_neg c, if_neg c, ih, ent_mem]
      have hf := frm_le (B := B) (p := p) d
      constructor
      · rintro ((e | e) | ⟨x, h1, h2, h3⟩)
        · exact Or.inr ⟨p + d, hf.2.1, by omega, e⟩
        · exact Or.inl e
        · exact Or.inr ⟨x, h1, by omega, h3⟩
      · rintro (e | ⟨x, h1, h2, h3⟩)
        · exact Or.inl (Or.inr e)
        · by_cases e : x = p + d
          · exact Or.inl (Or.inl (by rw [h3, e]))
          · exact Or.inr ⟨x, h1, by omega, h3⟩
section MND
variable {F m p : Nat} {h : px_H} {B : Nat → Nat} {pe : List Nat → Option Nat}
/-- the files' bytes are B -/
def RB (σ : px_S) (B : Nat → Nat) : Prop := (∀ k, isB (gA σ 6 k)) ∧ ∀ x, B x = b8 (gA σ 6 x)
theorem RB_byt {σ : px_S} (hb : RB σ B) (x : Nat) : gA σ 6 x = byt (B x) := by rw [hb.2 x]; exact hb.1 x
theorem RB_0 {σ : px_S} (hb : RB σ B) (x : Nat) : gA σ 6 x = 0 ↔ B x = 0 := by rw [hb.2 x]; exact isB_eq (hb.1 x) (c := 0) (by decide)
theorem RB_lt {σ : px_S} (hb : RB σ B) (x : Nat) : B x < 256 := by rw [hb.2 x]; exact b8_lt _
theorem RB_FR {σ σ' : px_S} {I J A Bs : List Nat} (hb : RB σ B) (f : FR I J A Bs σ σ') (h6 : 6 ∉ A) : RB σ' B := by
  unfold RB
  rw [f.2.2.1 6 h6]; exact hb
theorem back_lt {a : Nat} (ha : a < 2 ^ 30) : nI a - nI 1 < nI a := by
  rw [Int32.lt_iff_toInt_lt, nI_subI ha (by decide), nI_toInt (by omega)]
  omega
theorem q_nO_8 (hm : m ≤ h.length) (hF : 65540 < F) : ∀ (d k g : Nat) (σ : px_S) (nd : List (List Nat)), d < g → p + d ≤ 65535 → RB σ B → TR σ nd → ndB B nd → RPe σ nd pe → nd[k]? = some (st B (p + d)) → ∃ σ' k', f_M_nodeOf_8 F g m (nI p) (nI 1) (nI (k + 1)) (nI (p + d) - nI 1) (mh m h σ) = some (nI (k' + 1), mh m h σ') ∧ (ndS B p d nd)[k']? = some (st B (frm B p d)) ∧ TR σ' (ndS B p d nd) ∧ ndB B (ndS B p d nd) ∧ RPe σ' (ndS B p d nd) pe ∧ ((∀ x, frm B p d ≤ x → x < p + d → st B x ∈ nd) → σ' = σ) ∧ FR [89] [] trA [] σ σ' := by
  intro d
  induction d with
  | zero =>
    intro k g σ nd hg hp hb ht hn hpe hk
    obtain ⟨g, rfl⟩ : ∃ x, g = x + 1 := ⟨g - 1, by omega⟩
    unfold f_M_nodeOf_8 f_M_nodeOf_46
    rw [if_pos (by rw [Nat.add_zero]; exact back_lt (by omega))]
    exact ⟨σ, k, rfl, hk, ht, hn, hpe, fun _ => rfl, FR_refl σ⟩
  | succ d ih =>
    intro k g σ nd hg hp hb ht hn hpe hk
    obtain ⟨g, rfl⟩ : ∃ x, g = x + 1 := ⟨g - 1, by omega⟩
    have e1 : nI (p + (d + 1)) - nI 1 = nI (p + d) := by rw [pk_sub (by omega)]; rfl
    unfold f_M_nodeOf_8 f_M_nodeOf_46
    rw [e1, if_neg (nI_nlt (by omega) (by omega)), Mr6 hm, bs, Ma6 hm (by omega), bs, bs, ndS_s, frm_s]
    by_cases c : B (p + d) = 0
    · rw [if_pos ((RB_0 hb _).mpr c), if_pos c, if_pos c]
      exact ⟨σ, k, rfl, hk, ht, hn, hpe, fun _ => rfl, FR_refl σ⟩
    · have es : st B (p + d) = B (p + d) :: st B (p + (d + 1)) := st_n (by omega) c
      have hlen : nd.length ≤ 65536 ∨ B (p + d) :: st B (p + (d + 1)) ∈ nd := by
        by_cases q : B (p + d) :: st B (p + (d + 1)) ∈ nd
        · exact Or.inr q
        · left
          have h1 : (nd ++ [st B (p + d)]).Nodup := by
            rw [List.nodup_append]
            exact ⟨ht.2.2.1, List.nodup_cons.mpr ⟨List.not_mem_nil, List.nodup_nil⟩, fun x hx y hy e => q (by rw [List.mem_singleton.mp hy, es] at e; exact e ▸ hx)⟩
          have := nodup_img (f := st B) 65537 _ h1 (fun s hs => by
            rcases List.mem_append.mp hs with hs | hs
            · exact hn s hs
            · exact ⟨p + d, by omega, List.mem_singleton.mp hs⟩)
          rw [List.length_append] at this
          have : nd.length + 1 ≤ 65537 := this
          omega
      rw [if_neg (fun q => c ((RB_0 hb _).mp q)), if_neg c, if_neg c, e_o hm, Ma6 hm (by omega), bs, bs, RB_byt hb]
      have hl2 : nd.length ≤ 65537 := nodup_img (f := st B) 65537 _ ht.2.2.1 hn
      have hkl := (List.getElem?_eq_some_iff.mp hk).1
      have key : ∃ σ1, f_M_childOf F m (nI (k + 1)) (byt (B (p + d))) (nI 1) (mh m h σ) = some (nI (plc (B (p + d) :: st B (p + (d + 1))) nd + 1), mh m h σ1) ∧ TR σ1 (ent (B (p + d) :: st B (p + (d + 1))) nd) ∧ (B (p + d) :: st B (p + (d + 1)) ∈ nd → σ1 = σ) ∧ (B (p + d) :: st B (p + (d + 1)) ∉ nd → gA σ1 94 = upd (gA σ 94) (nd.length + 1) (Int32.ofInt (-1))) ∧ FR [89] [] trA [] σ σ1 := by
        by_cases q : nd.length ≤ 65536
        · exact q_childOf hm hF ht q (RB_lt hb _) hk (Or.inl rfl)
        · exact q_childOf7 hm hF ht (by omega) (RB_lt hb _) hk (hlen.elim (fun z => absurd z q) id)
      obtain ⟨σ1, a1, a2, a3, a4, a5⟩ := key
      rw [a1, xb_mk, nI_back]
      have hp1 : (ent (B (p + d) :: st B (p + (d + 1))) nd)[plc (B (p + d) :: st B (p + (d + 1))) nd]? = some (st B (p + d)) := by
        rw [es]
        unfold ent plc
        cases e : idx (B (p + d) :: st B (p + (d + 1))) 0 nd with
        | none => rw [if_neg (by decide)]; show (nd ++ _)[nd.length]? = _; rw [List.getElem?_append_right (Nat.le_refl _), Nat.sub_self]; rfl
        | some i =>
          rw [if_pos (show (some i).isSome = true from rfl)]
          have := idx_some e
          rw [Nat.sub_zero] at this
          exact this
      have hpe1 : RPe σ1 (ent (B (p + d) :: st B (p + (d + 1))) nd) pe := by
        by_cases q : B (p + d) :: st B (p + (d + 1)) ∈ nd
        · have e3 : ent (B (p + d) :: st B (p + (d + 1))) nd = nd := by unfold ent; rw [if_pos (idx_iff.mpr q)]
          rw [e3, a3 q]; exact hpe
        · have e3 : ent (B (p + d) :: st B (p + (d + 1))) nd = nd ++ [B (p + d) :: st B (p + (d + 1))] := by unfold ent; rw [if_neg (fun z => q (idx_iff.mp z))]
          rw [e3]
          refine ⟨fun j u hu => ?_, fun u hu => hpe.2 u (fun z => hu (List.mem_append_left _ z))⟩
          rw [a4 q]
          by_cases cj : j < nd.length
          · rw [List.getElem?_append_left cj] at hu
            rw [upd_ne (by omega)]; exact hpe.1 j u hu
          · have hl := (List.getElem?_eq_some_iff.mp hu).1
            rw [List.length_append] at hl
            have hl : j < nd.length + 1 := hl
            have ej : j = nd.length := by omega
            rw [ej, List.getElem?_append_right (Nat.le_refl _), Nat.sub_self] at hu
            have hu : B (p + d) :: st B (p + (d + 1)) = u := Option.some.inj hu
            rw [ej, upd_eq, ← hu, hpe.2 _ q]
            rfl
      have hn1 : ndB B (ent (B (p + d) :: st B (p + (d + 1))) nd) := by rw [← es]; exact ndB_ent hn (by omega)
      rw [← es] at a2 hp1 hpe1 hn1 a3
      rw [← es]
      obtain ⟨σ2, k2, b1, b2, b3, b4, b5, b6, b7⟩ := ih (plc (st B (p + d)) nd) g σ1 _ (by omega) (by omega) (RB_FR hb a5 (by decide)) a2 hn1 hpe1 hp1
      refine ⟨σ2, k2, b1, b2, b3, b4, b5, fun hh => ?_, FR_trans a5 b7⟩
      have hf := frm_le (B := B) (p := p) d
      rw [b6 (fun x h1 h2 => ent_mem.mpr (Or.inr (hh x h1 (by omega)))), a3 (hh (p + d) hf.2.1 (by omega))]
end MND
