theorem ckp0 : fz 60000 20000 (fun z _ _ => chkP z 0) = true := by decide +kernel
