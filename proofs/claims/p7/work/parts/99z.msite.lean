/-! symbolAddress, siteAddress, isOfStrings, siteValue of the reference -/
/-- what the sites read -/
def RFn (σ : px_S) (T : Nat) (tO tn tq : Nat → Nat) (tb : Nat → Nat → Nat) (dr : Nat → Bool) (xs : px_NL) (on : Bool) (R : Nat → Bool) (ll : List Nat) (B : Nat → Nat) (sl : List Nat) (NA : Nat → Int64) (ad : Nat → Nat) (sp tp pp : Nat) : Prop := (RWp σ T tO tn tq tb ll B ∧ RPo σ B (nd0 B tO tb ll) (pf0 B tO tb ll)) ∧ (RDr σ dr ∧ RSt σ on R ∧ RL σ xs) ∧ RSl tb xs σ sl ∧ (∀ j, j < xs.length → gB σ 29 j = NA j) ∧ (∀ x, x ∈ ll → gB σ 58 x = lN (ad x)) ∧ gJ σ 79 = lN sp ∧ gJ σ 87 = lN tp ∧ gJ σ 90 = lN pp ∧ gI σ 14 = nI T
/-- what is known of that -/
def FNo (T : Nat) (tO : Nat → Nat) (tb : Nat → Nat → Nat) (dr : Nat → Bool) (xs : px_NL) (sy : Nat → Nat → Bool) (ll : List Nat) (B : Nat → Nat) (sl : List Nat) : Prop := WP T tb dr xs ∧ llP T tb ll ∧ ndB B (nd0 B tO tb ll) ∧ PIn B (nd0 B tO tb ll) (pf0 B tO tb ll) ∧ llS T tb sy ll ∧ SLN T tb ∧ SLI T tb sl
def syA (tb : Nat → Nat → Nat) (xs : px_NL) (OV : Nat → Nat → Int64) (NA : Nat → Int64) (t k : Nat) : Int64 := if k = 0 then lN 0 else if yB (tb t) k = 0 then OV t k else NA (plc (yT (tb t) k) (xs.map Prod.fst))
def siA (tb : Nat → Nat → Nat) (ad : Nat → Nat) (t i j : Nat) : Int64 := lN (ad (24 * t + oI (tb t) i) + sL (tb t) i j)
def ofS (tb : Nat → Nat → Nat) (dr : Nat → Bool) (sy : Nat → Nat → Bool) (t k : Nat) : Bool := decide (k ≠ 0 ∧ yB (tb t) k = 0 ∧ tb t (yP (tb t) k + 4) % 16 = 3) && (isN tb t (wNo dr t (tb t) k) && (sy t (wNo dr t (tb t) k) && oStr (tb t) (wNo dr t (tb t) k)))
section MSV
variable {F m T t k i j : Nat} {h : px_H} {σ : px_S} {B : Nat → Nat} {tb : Nat → Nat → Nat} {tO tn tq : Nat → Nat} {dr : Nat → Bool} {xs : px_NL} {ll sl : List Nat} {on : Bool} {R : Nat → Bool} {NA : Nat → Int64} {ad : Nat → Nat} {sp tp pp : Nat}
theorem lN_mod (a : Nat) : lN a = lN (a % 2 ^ 64) := by
  apply Int64.toBitVec_inj.mp
  show BitVec.ofNat 64 a = BitVec.ofNat 64 (a % 2 ^ 64)
  exact BitVec.eq_of_toNat_eq (by rw [BitVec.toNat_ofNat, BitVec.toNat_ofNat, Nat.mod_mod])
theorem O_b15 {o n x : Nat} {b : Nat → Nat} (hb : OB σ t o n b) (hx : x < n) : gA σ 6 (o + x) &&& nI 15 = nI (b x % 16) := by
  have h1 := pk_and (m := nI 15) (gA σ 6 (o + x)) 4 (by decide)
  have h2 := O_b8 hb hx
  unfold b8 at h2
  rw [h1, ← h2]
  congr 1
  omega
theorem q_symbolAddress (hm : m ≤ h.length) (hF : 65540 < F) (hf : RFn σ T tO tn tq tb dr xs on R ll B sl NA ad sp tp pp) (hN : FNo T tO tb dr xs (sta tb dr on R) ll B sl) (ht : t < T) (hk : k < oM (tb t)) : f_M_symbolAddress F m (nI t) (nI k) (mh m h σ) = some (syA tb xs (ownV B (pf0 B tO tb ll) tO tb dr (sta tb dr on R) pp ad) NA t k, mh m h σ) := by
  obtain ⟨⟨hW, hpo⟩, ⟨hd, hs, hr⟩, hsl, hna, had, h79, h87, h90, h14⟩ := hf
  obtain ⟨n1, n2, n3, n4, n5, n6, n7⟩ := hN
  have hb := hW.1 t ht
  have hB16 := OB_yB (k := k) hb
  have hM := w2_M (OB_w hb)
  unfold f_M_symbolAddress f_M_symbolAddress_43 syA
  by_cases c0 : k = 0
  · rw [if_pos (by rw [c0]; rfl), if_pos c0]
  · rw [if_neg (show ¬ nI k = 0 from fun q => c0 ((nI_eq (b := 0) (by omega) (by decide)).mp q)), if_neg c0, e_o hm, bs, O_obj hm hb, xb_mk, e_o hm, bs, O_bind hm (by omega) hb hk, xb_mk]
    by_cases c1 : yB (tb t) k = 0
    · have hc : yW (tb t) k ≠ 65522 := by
        have hy := OB_y hb (show 1 ≤ k by omega) hk
        unfold yOK at hy
        exact (of_decide_eq_true hy).2.2.1 c1
      rw [if_pos (by rw [c1]; rfl), if_pos c1, e_o hm, bs, q_own hm hF hW n2 n3 hpo n4 hd hs n5 h90 (fun x hx _ => had x hx) ht (by omega) hk hc, xb_mk]
    · obtain ⟨x, x1, x2, x3⟩ := plc_ix (n1.2.2.2.1 t k ht (by omega) hk c1)
      have hil := (List.getElem?_eq_some_iff.mp x1).1
      have hxl : xs.length ≤ 4096 := by have := hr.1.2.1; rw [List.length_map] at this; exact this
      rw [if_neg (show ¬ nI (yB (tb t) k) = 0 from fun q => c1 ((nI_eq (b := 0) (by omega) (by decide)).mp q)), if_neg c1, Mr29 hm, bs, e_o hm, bs, O_obj hm hb, xb_mk, e_o hm, bs, O_name hm (by omega) hb hr (by omega) hk c1, xb_mk, x3]
      rw [show tdA (some (plc (yT (tb t) k) (xs.map Prod.fst))) = nI (plc (yT (tb t) k) (xs.map Prod.fst)) from rfl, Ma29 hm (by omega), bs, hna _ hil]
theorem q_siteAddress (hm : m ≤ h.length) (hF : 65540 < F) (hf : RFn σ T tO tn tq tb dr xs on R ll B sl NA ad sp tp pp) (hN : FNo T tO tb dr xs (sta tb dr on R) ll B sl) (ht : t < T) (h1 : 1 ≤ i) (hi : i < oS (tb t)) (hs : isS (tb t) i = true) (hj : j < sN (tb t) i) (hsta : sta tb dr on R t (oI (tb t) i) = true) (h1o : 1 ≤ oI (tb t) i) : f_M_siteAddress F m (nI t) (nI i) (nI j) (mh m h σ) = some (siA tb ad t i j, mh m h σ) := by
  obtain ⟨⟨hW, hpo⟩, ⟨hd, hst, hr⟩, hsl, hna, had, h79, h87, h90, h14⟩ := hf
  obtain ⟨n1, n2, n3, n4, n5, n6, n7⟩ := hN
  have hb := hW.1 t ht
  have he := eSit_0 hb.2.2.2.1 h1 hi hs
  have hS24 := (OB_w hb).1.2.1.2
  have ht64 := hb.1.1
  have hp := OB_sP hb h1 hi hs hj
  have hin := n5 t (oI (tb t) i) ht h1o he.1 hsta
  have hio := he.1
  unfold f_M_siteAddress siA
  rw [Mr58 hm, bs, e_o hm, bs, O_obj hm hb, xb_mk, e_o hm, bs, O_info hm (by omega) hb hi, xb_mk, lN_i, pk_mul, nI_add, Ma58 hm (by omega), bs, had _ hin, e_o hm, bs, O_obj hm hb, xb_mk, e_o hm, bs, O_site hm (by omega) hb hi, xb_mk, e_o hm, bs, O_sL hm (by omega) hb hp, xb_mk, lN_add]
theorem q_isOfStrings (hm : m ≤ h.length) (hF : 65540 < F) (hf : RFn σ T tO tn tq tb dr xs on R ll B sl NA ad sp tp pp) (ht : t < T) (hk : k < oM (tb t)) : f_M_isOfStrings F m (nI t) (nI k) (mh m h σ) = some (bI (ofS tb dr (sta tb dr on R) t k), mh m h σ) := by
  obtain ⟨⟨hW, hpo⟩, ⟨hd, hst, hr⟩, hsl, hna, had, h79, h87, h90, h14⟩ := hf
  have hb := hW.1 t ht
  have hB16 := OB_yB (k := k) hb
  have hM := w2_M (OB_w hb)
  have hyP := w2_y (OB_w hb) hk
  have hwl := wNo_lt (k := k) (dr := dr) hb
  unfold f_M_isOfStrings f_M_isOfStrings_39 f_M_isOfStrings_83 f_M_isOfStrings_84 ofS
  rw [e_o hm, bs, O_obj hm hb, xb_mk]
  by_cases c0 : k = 0
  · rw [if_pos (by rw [c0]; rfl), decide_eq_false (fun q => q.1 c0)]; rfl
  · rw [if_neg (show ¬ nI k = 0 from fun q => c0 ((nI_eq (b := 0) (by omega) (by decide)).mp q)), e_o hm, bs, O_bind hm (by omega) hb hk, xb_mk]
    by_cases c1 : yB (tb t) k = 0
    · have hx : yP (tb t) k + 4 < tn t := by omega
      rw [if_pos (by rw [c1]; rfl), Mr6 hm, bs, e_o hm, bs, O_sym hm (by omega) hb, xb_mk, nI_add, Nat.add_assoc, O_byte hm hb hx, bs, O_b15 hb hx]
      by_cases c2 : tb t (yP (tb t) k + 4) % 16 = 3
      · rw [if_pos (by rw [c2]), e_o hm, bs, O_wNo hm (by omega) hb hd hk, xb_mk, e_o hm, bs, q_isSectionNow hm (by omega) hb (by omega), xb_mk, decide_eq_true ⟨c0, c1, c2⟩, Bool.true_and]
        cases en : isN tb t (wNo dr t (tb t) k) with
        | false => rw [if_pos (show bI false = 0 from rfl), xz_0] <;> rfl
        | true =>
          have hwo : wNo dr t (tb t) k < oS (tb t) := by
            unfold isN at en
            rw [Bool.and_eq_true] at en
            exact (of_decide_eq_true en.1).2
          rw [if_neg (show ¬ bI true = 0 by decide), e_o hm, bs, q_stays hm (by omega) hb hd hst hwo, xb_mk, Bool.true_and]
          cases sta tb dr on R t (wNo dr t (tb t) k) with
          | false => rw [if_pos (show bI false = 0 from rfl), xz_0] <;> rfl
          | true =>
            rw [if_neg (show ¬ bI true = 0 by decide), e_o hm, bs, q_isStrings hm (by omega) hb hwo, xb_mk, Bool.true_and]
            cases oStr (tb t) (wNo dr t (tb t) k) with
            | false => rw [if_pos (show bI false = 0 from rfl), xz_0] <;> rfl
            | true => rw [if_neg (show ¬ bI true = 0 by decide), xz_1] <;> rfl
      · rw [if_neg (fun q => c2 ((nI_eq (by omega) (by decide)).mp q)), decide_eq_false (fun q => c2 q.2.2)]; rfl
    · rw [if_neg (show ¬ nI (yB (tb t) k) = 0 from fun q => c1 ((nI_eq (b := 0) (by omega) (by decide)).mp q)), decide_eq_false (fun q => c1 q.2.1)]; rfl
end MSV
