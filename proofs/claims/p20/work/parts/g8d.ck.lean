theorem ck4 : fz 60000 20000 (fun z _ _ => chkZ 2 32 z && (chkZ 4 256 z && chkZ 6 256 z)) = true := by decide +kernel
