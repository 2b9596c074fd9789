theorem ckp7 : fz 60000 20000 (fun z _ _ => chkP z 1344) = true := by decide +kernel
