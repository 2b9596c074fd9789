theorem fk_t4 : fz 60000 20000 (fun z m o => fk_d 60000 m_H_pack m_M_pack [] z m) = true := by decide +kernel
