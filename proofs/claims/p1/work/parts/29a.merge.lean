theorem fk_t3 : fz 60000 20000 (fun z m o => fk_d 60000 m_H_merge m_M_merge [] z m) = true := by decide +kernel
