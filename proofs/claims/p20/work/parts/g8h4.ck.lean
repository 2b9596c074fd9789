theorem ckp4 : fz 60000 20000 (fun z _ _ => chkP z 768) = true := by decide +kernel
