theorem ckp5 : fz 60000 20000 (fun z _ _ => chkP z 960) = true := by decide +kernel
