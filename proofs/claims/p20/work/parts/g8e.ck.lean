theorem ck5 : fz 60000 20000 (fun z _ _ => chkZ 8 256 z && (chkZ 1712 256 z && (chkZ 1715 6 z && chkZ 1720 256 z))) = true := by decide +kernel
