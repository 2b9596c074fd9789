theorem ckp3 : fz 60000 20000 (fun z _ _ => chkP z 576) = true := by decide +kernel
