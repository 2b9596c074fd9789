theorem ck3 : fz 60000 20000 (fun z _ _ => chkN z) = true := by decide +kernel
