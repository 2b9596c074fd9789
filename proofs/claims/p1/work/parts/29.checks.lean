/-! p1: the closed calls, computed -/
noncomputable def fx (z : px_Sz) (ce : Nat) : px_Sz := (px_ts z.1 z.2.1 (.inr (ce, [])), z.2.1 + 1, z.2.2.1 - 1, z.2.2.2 - 6)
noncomputable def fk_g (n : Nat) (z : px_Sz) (m o : Nat) : Bool := match fe n m_H_readTapeName [.ref 0] z with
  | some (.inl (some (.int r)), z1) => r == 0 && (fz_ok z1 6 && (fi (fx z1 13) m && (match fe n m_M_isTapeName [.ref m] (fx z1 13) with
    | some (.inl (some (.int b)), z2) => b == 0 && (fany (fg z2 m 12 2) && flo z2 o)
    | _ => false)))
  | _ => false
theorem fk_t1 : fz 60000 20000 (fun z m o => ff z m o && (fk_w 60000 m_L_add m_M_add [] z m o && (fk_w 60000 m_L_drop m_M_drop [] z m o && (fk_w 60000 m_L_wish m_M_wish [] z m o && (fk_w 60000 m_L_named m_M_named [] z m o && (fk_w 60000 m_L_map m_M_map [] z m o && (fk_wl 60000 m_L_address m_M_address [] z m o && (fk_v 60000 m_H_forget m_M_forget z m && (fk_d 60000 m_H_boot m_M_boot [.int (nI 0)] z m && (fk_d 60000 m_H_boot m_M_boot [.int (nI 1)] z m && fk_g 60000 z m o)))))))))) = true := by decide +kernel
theorem fk_t2 : fz 60000 20000 (fun z m o => (List.range 19).all (fun j => fk_wl 60000 m_L_look m_M_look [.int (nI j)] z m o)) = true := by decide +kernel
