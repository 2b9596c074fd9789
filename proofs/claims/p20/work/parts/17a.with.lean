/-- what the tables say of a method with handlers -/
def px_MW (mj : Nat) : Prop := Cond.codeWith (pg_mn mj) (pg_by mj) (pg_ml mj) (pg_rt mj) (pg_xt mj) ∈ pg_Ts ∧ Cond.initialized (pg_mn mj).cls ∈ pg_Ts ∧ Cond.static (pg_mn mj) ∈ pg_Ts ∧ plainName (pg_mn mj).cls = true ∧ pg_ml mj ≤ 45 ∧ ((pg_mn mj).cls ≠ "java/lang/invoke/MethodHandle" ∧ (pg_mn mj).cls ≠ "java/lang/invoke/VarHandle") ∧ (parseMethodDescriptor (pg_mn mj).desc).map (fun d => d.parameters.length) = some (pg_np mj)
set_option maxRecDepth 1000000 in
theorem pg_ww_m_L_feed : px_MW m_L_feed := ⟨pg_at (i := 1819) (by rfl) (by rfl), pg_at (i := 0) (by rfl) (by rfl), pg_at (i := 1818) (by rfl) (by rfl), by decide +kernel, by decide, by decide, by decide +kernel⟩
set_option maxRecDepth 1000000 in
theorem pg_ww_m_L_add : px_MW m_L_add := ⟨pg_at (i := 1848) (by rfl) (by rfl), pg_at (i := 0) (by rfl) (by rfl), pg_at (i := 1847) (by rfl) (by rfl), by decide +kernel, by decide, by decide, by decide +kernel⟩
set_option maxRecDepth 1000000 in
theorem pg_ww_m_L_drop : px_MW m_L_drop := ⟨pg_at (i := 1971) (by rfl) (by rfl), pg_at (i := 0) (by rfl) (by rfl), pg_at (i := 1970) (by rfl) (by rfl), by decide +kernel, by decide, by decide, by decide +kernel⟩
set_option maxRecDepth 1000000 in
theorem pg_ww_m_L_give : px_MW m_L_give := ⟨pg_at (i := 1979) (by rfl) (by rfl), pg_at (i := 0) (by rfl) (by rfl), pg_at (i := 1978) (by rfl) (by rfl), by decide +kernel, by decide, by decide, by decide +kernel⟩
set_option maxRecDepth 1000000 in
theorem pg_ww_m_L_wish : px_MW m_L_wish := ⟨pg_at (i := 1996) (by rfl) (by rfl), pg_at (i := 0) (by rfl) (by rfl), pg_at (i := 1995) (by rfl) (by rfl), by decide +kernel, by decide, by decide, by decide +kernel⟩
set_option maxRecDepth 1000000 in
theorem pg_ww_m_L_named : px_MW m_L_named := ⟨pg_at (i := 2004) (by rfl) (by rfl), pg_at (i := 0) (by rfl) (by rfl), pg_at (i := 2003) (by rfl) (by rfl), by decide +kernel, by decide, by decide, by decide +kernel⟩
set_option maxRecDepth 1000000 in
theorem pg_ww_m_L_list : px_MW m_L_list := ⟨pg_at (i := 2030) (by rfl) (by rfl), pg_at (i := 0) (by rfl) (by rfl), pg_at (i := 2029) (by rfl) (by rfl), by decide +kernel, by decide, by decide, by decide +kernel⟩
set_option maxRecDepth 1000000 in
theorem pg_ww_m_L_sum : px_MW m_L_sum := ⟨pg_at (i := 2079) (by rfl) (by rfl), pg_at (i := 0) (by rfl) (by rfl), pg_at (i := 2078) (by rfl) (by rfl), by decide +kernel, by decide, by decide, by decide +kernel⟩
set_option maxRecDepth 1000000 in
theorem pg_ww_m_L_map : px_MW m_L_map := ⟨pg_at (i := 2089) (by rfl) (by rfl), pg_at (i := 0) (by rfl) (by rfl), pg_at (i := 2088) (by rfl) (by rfl), by decide +kernel, by decide, by decide, by decide +kernel⟩
set_option maxRecDepth 1000000 in
theorem pg_ww_m_L_address : px_MW m_L_address := ⟨pg_at (i := 2102) (by rfl) (by rfl), pg_at (i := 0) (by rfl) (by rfl), pg_at (i := 2101) (by rfl) (by rfl), by decide +kernel, by decide, by decide, by decide +kernel⟩
set_option maxRecDepth 1000000 in
theorem pg_ww_m_L_taken : px_MW m_L_taken := ⟨pg_at (i := 2109) (by rfl) (by rfl), pg_at (i := 0) (by rfl) (by rfl), pg_at (i := 2108) (by rfl) (by rfl), by decide +kernel, by decide, by decide, by decide +kernel⟩
set_option maxRecDepth 1000000 in
theorem pg_ww_m_L_cause : px_MW m_L_cause := ⟨pg_at (i := 2117) (by rfl) (by rfl), pg_at (i := 0) (by rfl) (by rfl), pg_at (i := 2116) (by rfl) (by rfl), by decide +kernel, by decide, by decide, by decide +kernel⟩
set_option maxRecDepth 1000000 in
theorem pg_ww_m_L_section : px_MW m_L_section := ⟨pg_at (i := 2125) (by rfl) (by rfl), pg_at (i := 0) (by rfl) (by rfl), pg_at (i := 2124) (by rfl) (by rfl), by decide +kernel, by decide, by decide, by decide +kernel⟩
set_option maxRecDepth 1000000 in
theorem pg_ww_m_L_place : px_MW m_L_place := ⟨pg_at (i := 2134) (by rfl) (by rfl), pg_at (i := 0) (by rfl) (by rfl), pg_at (i := 2133) (by rfl) (by rfl), by decide +kernel, by decide, by decide, by decide +kernel⟩
set_option maxRecDepth 1000000 in
theorem pg_ww_m_L_out : px_MW m_L_out := ⟨pg_at (i := 2142) (by rfl) (by rfl), pg_at (i := 0) (by rfl) (by rfl), pg_at (i := 2141) (by rfl) (by rfl), by decide +kernel, by decide, by decide, by decide +kernel⟩
set_option maxRecDepth 1000000 in
theorem pg_ww_m_L_look : px_MW m_L_look := ⟨pg_at (i := 2150) (by rfl) (by rfl), pg_at (i := 0) (by rfl) (by rfl), pg_at (i := 2149) (by rfl) (by rfl), by decide +kernel, by decide, by decide, by decide +kernel⟩
