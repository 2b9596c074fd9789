theorem ck2 : fz 60000 20000 (fun z _ _ => chkB z && chkC z) = true := by decide +kernel
