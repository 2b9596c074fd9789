theorem ck6 : fz 60000 20000 (fun z _ _ => chkZ 1727 32 z && (chkZ 1728 256 z && chkZ 1729 256 z)) = true := by decide +kernel
