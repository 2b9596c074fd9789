theorem ck7 : fz 60000 20000 (fun z _ _ => chkZ 1758 256 z && chkZ 1786 256 z) = true := by decide +kernel
