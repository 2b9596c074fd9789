theorem ckp6 : fz 60000 20000 (fun z _ _ => chkP z 1152) = true := by decide +kernel
