theorem ckp1 : fz 60000 20000 (fun z _ _ => chkP z 192) = true := by decide +kernel
