theorem fk_t5 : fz 60000 20000 (fun z m o => fk_d 60000 m_H_link m_M_link [.int (nI 0)] z m) = true := by decide +kernel
