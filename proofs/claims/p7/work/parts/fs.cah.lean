/-! pack of the class: what stands ahead of a member, with sizes (steps spelled out by sf/pp.py) -/
theorem wdN_c (v : Nat) : 1 ≤ wdN v ∧ wdN v ≤ 5 := by
  unfold wdN
  split
  · omega
  · split
    · omega
    · split
      · omega
      · split <;> omega
section CAH
variable {F : Nat} {c : px_CT} {sk : Nat → Nat × Nat × Nat} {L : Nat} {zb : Option Nat} {τ0 τ : px_TT} {r A n cc k p v : Nat}
theorem sz_fillp {j d : Nat} {w : Int32} (hF : 65540 < F) (hr : TRw r A n) (hd : 1 ≤ d) (hp : p ≤ 65536) (hj : j ≤ 64) (hcc : cc ≤ n → p + j = cc + d) (hI : SZ zb sk L τ0 r n cc τ) : Sf sk L (SZ zb sk L τ0 r n (cc + d)) Any (f_Row_fillTo F c r ((nI p + nI j).toInt64) w (cH sk L τ)) := by
  rw [nI_add, nI_l (by omega)]
  exact sz_Rw hI.1 hI.2.2 hr (k_fillToZ (by omega) (by omega) (SI_row hI.1 hr) hI.2.1 hd hcc)
theorem sz_ahead (hF : 65540 < F) (hr : TRw r A n) (hk : 1 ≤ k) (hk3 : k ≤ 3) (hp : p ≤ 65536) (hv : v ≤ 99999) (hcc : cc ≤ n → p + k = cc) (hI : SZ zb sk L τ0 r n cc τ) : Sf sk L (SZ zb sk L τ0 r n (cc + (60 - k))) Any (f_Scribe_writeAhead F c r (nI v) (nI p) (cH sk L τ)) := by
  have orr := (SI_row hI.1 hr).1
  have hb := wdN_c v
  unfold f_Scribe_writeAhead
  rw [c_o orr, bs]
  refine sz_x (sz_fillp (d := 48 - k) hF hr (by omega) hp (by decide) (fun w => by have := hcc w; omega) hI) (fun _ τ1 _ i1 => ?_)
  rw [c_o orr, bs]
  refine sz_x (sz_dec hF hr hv i1) (fun _ τ2 _ i2 => ?_)
  rw [c_o orr, bs]
  refine sz_x (sz_fillp (p := p) (d := 10 - wdN v) hF hr (by omega) hp (by decide) (fun w => by have := hcc (by omega); omega) i2) (fun _ τ3 _ i3 => ?_)
  rw [c_o orr, bs]
  refine sz_x (sz_put hF hr (by decide) i3) (fun _ τ4 _ i4 => ?_)
  rw [show cc + (60 - k) = cc + (48 - k) + wdN v + (10 - wdN v) + 2 by omega]
  exact sf_r any i4
end CAH
