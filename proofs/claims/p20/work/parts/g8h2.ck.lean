theorem ckp2 : fz 60000 20000 (fun z _ _ => chkP z 384) = true := by decide +kernel
