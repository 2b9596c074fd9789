/-! the reference's fields one by one: generated (genst.py) -/
section MF
variable {m : Nat} {h : px_H} {σ : px_S}
theorem Mg0 (hm : m ≤ h.length) : xgI (mh m h σ) 12 0 m = some (gI σ 0) := e_gI hm rfl
theorem Mp0 (hm : m ≤ h.length) (v : Int32) : xpI (mh m h σ) 12 0 m v = some (mh m h (sI σ 0 v)) := e_pI hm rfl v
theorem Mr1 (hm : m ≤ h.length) : xgR (mh m h σ) 12 1 m = some (m + 1) := e_gR (k := 1) hm (Or.inl rfl)
theorem Ma1 (hm : m ≤ h.length) {i : Nat} (hi : i < 8192) : xaI (mh m h σ) 0 (m + 1) (nI i) = some (gA σ 1 i) := e_aI (k := 1) hm rfl hi
theorem Ms1 (hm : m ≤ h.length) {i : Nat} (hi : i < 8192) (v : Int32) : xsI (mh m h σ) 0 (m + 1) (nI i) v = some (mh m h (sA σ 1 (upd (gA σ 1) i v))) := e_sI (k := 1) hm rfl hi v
theorem Mg2 (hm : m ≤ h.length) : xgI (mh m h σ) 12 2 m = some (gI σ 2) := e_gI hm rfl
theorem Mp2 (hm : m ≤ h.length) (v : Int32) : xpI (mh m h σ) 12 2 m v = some (mh m h (sI σ 2 v)) := e_pI hm rfl v
theorem Mr3 (hm : m ≤ h.length) : xgR (mh m h σ) 12 3 m = some (m + 2) := e_gR (k := 3) hm (Or.inl rfl)
theorem Ma3 (hm : m ≤ h.length) {i : Nat} (hi : i < 65536) : xaI (mh m h σ) 0 (m + 2) (nI i) = some (gA σ 3 i) := e_aI (k := 3) hm rfl hi
theorem Ms3 (hm : m ≤ h.length) {i : Nat} (hi : i < 65536) (v : Int32) : xsI (mh m h σ) 0 (m + 2) (nI i) v = some (mh m h (sA σ 3 (upd (gA σ 3) i v))) := e_sI (k := 3) hm rfl hi v
theorem Mg4 (hm : m ≤ h.length) : xgI (mh m h σ) 12 4 m = some (gI σ 4) := e_gI hm rfl
theorem Mp4 (hm : m ≤ h.length) (v : Int32) : xpI (mh m h σ) 12 4 m v = some (mh m h (sI σ 4 v)) := e_pI hm rfl v
theorem Mg5 (hm : m ≤ h.length) : xgI (mh m h σ) 12 5 m = some (gI σ 5) := e_gI hm rfl
theorem Mp5 (hm : m ≤ h.length) (v : Int32) : xpI (mh m h σ) 12 5 m v = some (mh m h (sI σ 5 v)) := e_pI hm rfl v
theorem Mr6 (hm : m ≤ h.length) : xgR (mh m h σ) 12 6 m = some (m + 3) := e_gR (k := 6) hm (Or.inl rfl)
theorem Ma6 (hm : m ≤ h.length) {i : Nat} (hi : i < 65536) : xaI (mh m h σ) 0 (m + 3) (nI i) = some (gA σ 6 i) := e_aI (k := 6) hm rfl hi
theorem Ms6 (hm : m ≤ h.length) {i : Nat} (hi : i < 65536) (v : Int32) : xsI (mh m h σ) 0 (m + 3) (nI i) v = some (mh m h (sA σ 6 (upd (gA σ 6) i v))) := e_sI (k := 6) hm rfl hi v
theorem Mr7 (hm : m ≤ h.length) : xgR (mh m h σ) 12 7 m = some (m + 4) := e_gR (k := 7) hm (Or.inl rfl)
theorem Ma7 (hm : m ≤ h.length) {i : Nat} (hi : i < 8) : xaI (mh m h σ) 1 (m + 4) (nI i) = some (gA σ 7 i) := e_aI (k := 7) hm rfl hi
theorem Ms7 (hm : m ≤ h.length) {i : Nat} (hi : i < 8) (v : Int32) : xsI (mh m h σ) 1 (m + 4) (nI i) v = some (mh m h (sA σ 7 (upd (gA σ 7) i v))) := e_sI (k := 7) hm rfl hi v
theorem Mr8 (hm : m ≤ h.length) : xgR (mh m h σ) 12 8 m = some (m + 5) := e_gR (k := 8) hm (Or.inl rfl)
theorem Ma8 (hm : m ≤ h.length) {i : Nat} (hi : i < 8) : xaI (mh m h σ) 1 (m + 5) (nI i) = some (gA σ 8 i) := e_aI (k := 8) hm rfl hi
theorem Ms8 (hm : m ≤ h.length) {i : Nat} (hi : i < 8) (v : Int32) : xsI (mh m h σ) 1 (m + 5) (nI i) v = some (mh m h (sA σ 8 (upd (gA σ 8) i v))) := e_sI (k := 8) hm rfl hi v
theorem Mr9 (hm : m ≤ h.length) : xgR (mh m h σ) 12 9 m = some (m + 6) := e_gR (k := 9) hm (Or.inl rfl)
theorem Ma9 (hm : m ≤ h.length) {i : Nat} (hi : i < 64) : xaI (mh m h σ) 1 (m + 6) (nI i) = some (gA σ 9 i) := e_aI (k := 9) hm rfl hi
theorem Ms9 (hm : m ≤ h.length) {i : Nat} (hi : i < 64) (v : Int32) : xsI (mh m h σ) 1 (m + 6) (nI i) v = some (mh m h (sA σ 9 (upd (gA σ 9) i v))) := e_sI (k := 9) hm rfl hi v
theorem Mr10 (hm : m ≤ h.length) : xgR (mh m h σ) 12 10 m = some (m + 7) := e_gR (k := 10) hm (Or.inl rfl)
theorem Ma10 (hm : m ≤ h.length) {i : Nat} (hi : i < 64) : xaI (mh m h σ) 1 (m + 7) (nI i) = some (gA σ 10 i) := e_aI (k := 10) hm rfl hi
theorem Ms10 (hm : m ≤ h.length) {i : Nat} (hi : i < 64) (v : Int32) : xsI (mh m h σ) 1 (m + 7) (nI i) v = some (mh m h (sA σ 10 (upd (gA σ 10) i v))) := e_sI (k := 10) hm rfl hi v
theorem Mr11 (hm : m ≤ h.length) : xgR (mh m h σ) 12 11 m = some (m + 8) := e_gR (k := 11) hm (Or.inl rfl)
theorem Ma11 (hm : m ≤ h.length) {i : Nat} (hi : i < 8) : xaI (mh m h σ) 3 (m + 8) (nI i) = some (gA σ 11 i) := e_aI (k := 11) hm rfl hi
theorem Ms11 (hm : m ≤ h.length) {i : Nat} (hi : i < 8) (v : Int32) : xsI (mh m h σ) 3 (m + 8) (nI i) v = some (mh m h (sA σ 11 (upd (gA σ 11) i v))) := e_sI (k := 11) hm rfl hi v
theorem Mr12 (hm : m ≤ h.length) : xgR (mh m h σ) 12 12 m = some (m + 9) := e_gR (k := 12) hm (Or.inl rfl)
theorem Ma12 (hm : m ≤ h.length) {i : Nat} (hi : i < 64) : xaI (mh m h σ) 3 (m + 9) (nI i) = some (gA σ 12 i) := e_aI (k := 12) hm rfl hi
theorem Ms12 (hm : m ≤ h.length) {i : Nat} (hi : i < 64) (v : Int32) : xsI (mh m h σ) 3 (m + 9) (nI i) v = some (mh m h (sA σ 12 (upd (gA σ 12) i v))) := e_sI (k := 12) hm rfl hi v
theorem Mg13 (hm : m ≤ h.length) : xgI (mh m h σ) 12 13 m = some (gI σ 13) := e_gI hm rfl
theorem Mp13 (hm : m ≤ h.length) (v : Int32) : xpI (mh m h σ) 12 13 m v = some (mh m h (sI σ 13 v)) := e_pI hm rfl v
theorem Mg14 (hm : m ≤ h.length) : xgI (mh m h σ) 12 14 m = some (gI σ 14) := e_gI hm rfl
theorem Mp14 (hm : m ≤ h.length) (v : Int32) : xpI (mh m h σ) 12 14 m v = some (mh m h (sI σ 14 v)) := e_pI hm rfl v
theorem Mg15 (hm : m ≤ h.length) : xgI (mh m h σ) 12 15 m = some (gI σ 15) := e_gI hm rfl
theorem Mp15 (hm : m ≤ h.length) (v : Int32) : xpI (mh m h σ) 12 15 m v = some (mh m h (sI σ 15 v)) := e_pI hm rfl v
theorem Mg16 (hm : m ≤ h.length) : xgJ (mh m h σ) 12 16 m = some (gJ σ 16) := e_gJ hm rfl
theorem Mp16 (hm : m ≤ h.length) (v : Int64) : xpJ (mh m h σ) 12 16 m v = some (mh m h (sJ σ 16 v)) := e_pJ hm rfl v
theorem Mr17 (hm : m ≤ h.length) : xgR (mh m h σ) 12 17 m = some (m + 10) := e_gR (k := 17) hm (Or.inl rfl)
theorem Ma17 (hm : m ≤ h.length) {i : Nat} (hi : i < 64) : xaI (mh m h σ) 1 (m + 10) (nI i) = some (gA σ 17 i) := e_aI (k := 17) hm rfl hi
theorem Ms17 (hm : m ≤ h.length) {i : Nat} (hi : i < 64) (v : Int32) : xsI (mh m h σ) 1 (m + 10) (nI i) v = some (mh m h (sA σ 17 (upd (gA σ 17) i v))) := e_sI (k := 17) hm rfl hi v
theorem Mr18 (hm : m ≤ h.length) : xgR (mh m h σ) 12 18 m = some (m + 11) := e_gR (k := 18) hm (Or.inl rfl)
theorem Ma18 (hm : m ≤ h.length) {i : Nat} (hi : i < 64) : xaI (mh m h σ) 3 (m + 11) (nI i) = some (gA σ 18 i) := e_aI (k := 18) hm rfl hi
theorem Ms18 (hm : m ≤ h.length) {i : Nat} (hi : i < 64) (v : Int32) : xsI (mh m h σ) 3 (m + 11) (nI i) v = some (mh m h (sA σ 18 (upd (gA σ 18) i v))) := e_sI (k := 18) hm rfl hi v
theorem Mr19 (hm : m ≤ h.length) : xgR (mh m h σ) 12 19 m = some (m + 12) := e_gR (k := 19) hm (Or.inl rfl)
theorem Ma19 (hm : m ≤ h.length) {i : Nat} (hi : i < 8) : xaI (mh m h σ) 3 (m + 12) (nI i) = some (gA σ 19 i) := e_aI (k := 19) hm rfl hi
theorem Ms19 (hm : m ≤ h.length) {i : Nat} (hi : i < 8) (v : Int32) : xsI (mh m h σ) 3 (m + 12) (nI i) v = some (mh m h (sA σ 19 (upd (gA σ 19) i v))) := e_sI (k := 19) hm rfl hi v
theorem Mg20 (hm : m ≤ h.length) : xgI (mh m h σ) 12 20 m = some (gI σ 20) := e_gI hm rfl
theorem Mp20 (hm : m ≤ h.length) (v : Int32) : xpI (mh m h σ) 12 20 m v = some (mh m h (sI σ 20 v)) := e_pI hm rfl v
theorem Mr21 (hm : m ≤ h.length) : xgR (mh m h σ) 12 21 m = some (m + 13) := e_gR (k := 21) hm (Or.inl rfl)
theorem Ma21 (hm : m ≤ h.length) {i : Nat} (hi : i < 81920) : xaI (mh m h σ) 0 (m + 13) (nI i) = some (gA σ 21 i) := e_aI (k := 21) hm rfl hi
theorem Ms21 (hm : m ≤ h.length) {i : Nat} (hi : i < 81920) (v : Int32) : xsI (mh m h σ) 0 (m + 13) (nI i) v = some (mh m h (sA σ 21 (upd (gA σ 21) i v))) := e_sI (k := 21) hm rfl hi v
theorem Mr22 (hm : m ≤ h.length) : xgR (mh m h σ) 12 22 m = some (m + 14) := e_gR (k := 22) hm (Or.inl rfl)
theorem Ma22 (hm : m ≤ h.length) {i : Nat} (hi : i < 4096) : xaI (mh m h σ) 1 (m + 14) (nI i) = some (gA σ 22 i) := e_aI (k := 22) hm rfl hi
theorem Ms22 (hm : m ≤ h.length) {i : Nat} (hi : i < 4096) (v : Int32) : xsI (mh m h σ) 1 (m + 14) (nI i) v = some (mh m h (sA σ 22 (upd (gA σ 22) i v))) := e_sI (k := 22) hm rfl hi v
theorem Mr23 (hm : m ≤ h.length) : xgR (mh m h σ) 12 23 m = some (m + 15) := e_gR (k := 23) hm (Or.inl rfl)
theorem Ma23 (hm : m ≤ h.length) {i : Nat} (hi : i < 4096) : xaI (mh m h σ) 1 (m + 15) (nI i) = some (gA σ 23 i) := e_aI (k := 23) hm rfl hi
theorem Ms23 (hm : m ≤ h.length) {i : Nat} (hi : i < 4096) (v : Int32) : xsI (mh m h σ) 1 (m + 15) (nI i) v = some (mh m h (sA σ 23 (upd (gA σ 23) i v))) := e_sI (k := 23) hm rfl hi v
theorem Mr24 (hm : m ≤ h.length) : xgR (mh m h σ) 12 24 m = some (m + 16) := e_gR (k := 24) hm (Or.inl rfl)
theorem Ma24 (hm : m ≤ h.length) {i : Nat} (hi : i < 4096) : xaI (mh m h σ) 1 (m + 16) (nI i) = some (gA σ 24 i) := e_aI (k := 24) hm rfl hi
theorem Ms24 (hm : m ≤ h.length) {i : Nat} (hi : i < 4096) (v : Int32) : xsI (mh m h σ) 1 (m + 16) (nI i) v = some (mh m h (sA σ 24 (upd (gA σ 24) i v))) := e_sI (k := 24) hm rfl hi v
theorem Mr25 (hm : m ≤ h.length) : xgR (mh m h σ) 12 25 m = some (m + 17) := e_gR (k := 25) hm (Or.inl rfl)
theorem Ma25 (hm : m ≤ h.length) {i : Nat} (hi : i < 4096) : xaI (mh m h σ) 1 (m + 17) (nI i) = some (gA σ 25 i) := e_aI (k := 25) hm rfl hi
theorem Ms25 (hm : m ≤ h.length) {i : Nat} (hi : i < 4096) (v : Int32) : xsI (mh m h σ) 1 (m + 17) (nI i) v = some (mh m h (sA σ 25 (upd (gA σ 25) i v))) := e_sI (k := 25) hm rfl hi v
theorem Mr26 (hm : m ≤ h.length) : xgR (mh m h σ) 12 26 m = some (m + 18) := e_gR (k := 26) hm (Or.inl rfl)
theorem Ma26 (hm : m ≤ h.length) {i : Nat} (hi : i < 4096) : xaI (mh m h σ) 1 (m + 18) (nI i) = some (gA σ 26 i) := e_aI (k := 26) hm rfl hi
theorem Ms26 (hm : m ≤ h.length) {i : Nat} (hi : i < 4096) (v : Int32) : xsI (mh m h σ) 1 (m + 18) (nI i) v = some (mh m h (sA σ 26 (upd (gA σ 26) i v))) := e_sI (k := 26) hm rfl hi v
theorem Mr27 (hm : m ≤ h.length) : xgR (mh m h σ) 12 27 m = some (m + 19) := e_gR (k := 27) hm (Or.inl rfl)
theorem Ma27 (hm : m ≤ h.length) {i : Nat} (hi : i < 4096) : xaI (mh m h σ) 1 (m + 19) (nI i) = some (gA σ 27 i) := e_aI (k := 27) hm rfl hi
theorem Ms27 (hm : m ≤ h.length) {i : Nat} (hi : i < 4096) (v : Int32) : xsI (mh m h σ) 1 (m + 19) (nI i) v = some (mh m h (sA σ 27 (upd (gA σ 27) i v))) := e_sI (k := 27) hm rfl hi v
theorem Mr28 (hm : m ≤ h.length) : xgR (mh m h σ) 12 28 m = some (m + 20) := e_gR (k := 28) hm (Or.inl rfl)
theorem Ma28 (hm : m ≤ h.length) {i : Nat} (hi : i < 4096) : xaI (mh m h σ) 3 (m + 20) (nI i) = some (gA σ 28 i) := e_aI (k := 28) hm rfl hi
theorem Ms28 (hm : m ≤ h.length) {i : Nat} (hi : i < 4096) (v : Int32) : xsI (mh m h σ) 3 (m + 20) (nI i) v = some (mh m h (sA σ 28 (upd (gA σ 28) i v))) := e_sI (k := 28) hm rfl hi v
theorem Mr29 (hm : m ≤ h.length) : xgR (mh m h σ) 12 29 m = some (m + 21) := e_gR (k := 29) hm (Or.inr rfl)
theorem Ma29 (hm : m ≤ h.length) {i : Nat} (hi : i < 4096) : xaJ (mh m h σ) 2 (m + 21) (nI i) = some (gB σ 29 i) := e_aJ (k := 29) hm rfl hi
theorem Ms29 (hm : m ≤ h.length) {i : Nat} (hi : i < 4096) (v : Int64) : xsJ (mh m h σ) 2 (m + 21) (nI i) v = some (mh m h (sB σ 29 (vp_updL (gB σ 29) i v))) := e_sJ (k := 29) hm rfl hi v
theorem Mr30 (hm : m ≤ h.length) : xgR (mh m h σ) 12 30 m = some (m + 22) := e_gR (k := 30) hm (Or.inr rfl)
theorem Ma30 (hm : m ≤ h.length) {i : Nat} (hi : i < 4096) : xaJ (mh m h σ) 2 (m + 22) (nI i) = some (gB σ 30 i) := e_aJ (k := 30) hm rfl hi
theorem Ms30 (hm : m ≤ h.length) {i : Nat} (hi : i < 4096) (v : Int64) : xsJ (mh m h σ) 2 (m + 22) (nI i) v = some (mh m h (sB σ 30 (vp_updL (gB σ 30) i v))) := e_sJ (k := 30) hm rfl hi v
theorem Mg31 (hm : m ≤ h.length) : xgI (mh m h σ) 12 31 m = some (gI σ 31) := e_gI hm rfl
theorem Mp31 (hm : m ≤ h.length) (v : Int32) : xpI (mh m h σ) 12 31 m v = some (mh m h (sI σ 31 v)) := e_pI hm rfl v
theorem Mg32 (hm : m ≤ h.length) : xgI (mh m h σ) 12 32 m = some (gI σ 32) := e_gI hm rfl
theorem Mp32 (hm : m ≤ h.length) (v : Int32) : xpI (mh m h σ) 12 32 m v = some (mh m h (sI σ 32 v)) := e_pI hm rfl v
theorem Mr33 (hm : m ≤ h.length) : xgR (mh m h σ) 12 33 m = some (m + 23) := e_gR (k := 33) hm (Or.inl rfl)
theorem Ma33 (hm : m ≤ h.length) {i : Nat} (hi : i < 320) : xaI (mh m h σ) 0 (m + 23) (nI i) = some (gA σ 33 i) := e_aI (k := 33) hm rfl hi
theorem Ms33 (hm : m ≤ h.length) {i : Nat} (hi : i < 320) (v : Int32) : xsI (mh m h σ) 0 (m + 23) (nI i) v = some (mh m h (sA σ 33 (upd (gA σ 33) i v))) := e_sI (k := 33) hm rfl hi v
theorem Mr34 (hm : m ≤ h.length) : xgR (mh m h σ) 12 34 m = some (m + 24) := e_gR (k := 34) hm (Or.inl rfl)
theorem Ma34 (hm : m ≤ h.length) {i : Nat} (hi : i < 320) : xaI (mh m h σ) 0 (m + 24) (nI i) = some (gA σ 34 i) := e_aI (k := 34) hm rfl hi
theorem Ms34 (hm : m ≤ h.length) {i : Nat} (hi : i < 320) (v : Int32) : xsI (mh m h σ) 0 (m + 24) (nI i) v = some (mh m h (sA σ 34 (upd (gA σ 34) i v))) := e_sI (k := 34) hm rfl hi v
theorem Mr35 (hm : m ≤ h.length) : xgR (mh m h σ) 12 35 m = some (m + 25) := e_gR (k := 35) hm (Or.inl rfl)
theorem Ma35 (hm : m ≤ h.length) {i : Nat} (hi : i < 16) : xaI (mh m h σ) 1 (m + 25) (nI i) = some (gA σ 35 i) := e_aI (k := 35) hm rfl hi
theorem Ms35 (hm : m ≤ h.length) {i : Nat} (hi : i < 16) (v : Int32) : xsI (mh m h σ) 1 (m + 25) (nI i) v = some (mh m h (sA σ 35 (upd (gA σ 35) i v))) := e_sI (k := 35) hm rfl hi v
theorem Mr36 (hm : m ≤ h.length) : xgR (mh m h σ) 12 36 m = some (m + 26) := e_gR (k := 36) hm (Or.inl rfl)
theorem Ma36 (hm : m ≤ h.length) {i : Nat} (hi : i < 16) : xaI (mh m h σ) 1 (m + 26) (nI i) = some (gA σ 36 i) := e_aI (k := 36) hm rfl hi
theorem Ms36 (hm : m ≤ h.length) {i : Nat} (hi : i < 16) (v : Int32) : xsI (mh m h σ) 1 (m + 26) (nI i) v = some (mh m h (sA σ 36 (upd (gA σ 36) i v))) := e_sI (k := 36) hm rfl hi v
theorem Mr37 (hm : m ≤ h.length) : xgR (mh m h σ) 12 37 m = some (m + 27) := e_gR (k := 37) hm (Or.inr rfl)
theorem Ma37 (hm : m ≤ h.length) {i : Nat} (hi : i < 16) : xaJ (mh m h σ) 2 (m + 27) (nI i) = some (gB σ 37 i) := e_aJ (k := 37) hm rfl hi
theorem Ms37 (hm : m ≤ h.length) {i : Nat} (hi : i < 16) (v : Int64) : xsJ (mh m h σ) 2 (m + 27) (nI i) v = some (mh m h (sB σ 37 (vp_updL (gB σ 37) i v))) := e_sJ (k := 37) hm rfl hi v
theorem Mr38 (hm : m ≤ h.length) : xgR (mh m h σ) 12 38 m = some (m + 28) := e_gR (k := 38) hm (Or.inl rfl)
theorem Ma38 (hm : m ≤ h.length) {i : Nat} (hi : i < 4096) : xaI (mh m h σ) 1 (m + 28) (nI i) = some (gA σ 38 i) := e_aI (k := 38) hm rfl hi
theorem Ms38 (hm : m ≤ h.length) {i : Nat} (hi : i < 4096) (v : Int32) : xsI (mh m h σ) 1 (m + 28) (nI i) v = some (mh m h (sA σ 38 (upd (gA σ 38) i v))) := e_sI (k := 38) hm rfl hi v
theorem Mr39 (hm : m ≤ h.length) : xgR (mh m h σ) 12 39 m = some (m + 29) := e_gR (k := 39) hm (Or.inl rfl)
theorem Ma39 (hm : m ≤ h.length) {i : Nat} (hi : i < 4096) : xaI (mh m h σ) 1 (m + 29) (nI i) = some (gA σ 39 i) := e_aI (k := 39) hm rfl hi
theorem Ms39 (hm : m ≤ h.length) {i : Nat} (hi : i < 4096) (v : Int32) : xsI (mh m h σ) 1 (m + 29) (nI i) v = some (mh m h (sA σ 39 (upd (gA σ 39) i v))) := e_sI (k := 39) hm rfl hi v
theorem Mr40 (hm : m ≤ h.length) : xgR (mh m h σ) 12 40 m = some (m + 30) := e_gR (k := 40) hm (Or.inl rfl)
theorem Ma40 (hm : m ≤ h.length) {i : Nat} (hi : i < 64) : xaI (mh m h σ) 1 (m + 30) (nI i) = some (gA σ 40 i) := e_aI (k := 40) hm rfl hi
theorem Ms40 (hm : m ≤ h.length) {i : Nat} (hi : i < 64) (v : Int32) : xsI (mh m h σ) 1 (m + 30) (nI i) v = some (mh m h (sA σ 40 (upd (gA σ 40) i v))) := e_sI (k := 40) hm rfl hi v
theorem Mr41 (hm : m ≤ h.length) : xgR (mh m h σ) 12 41 m = some (m + 31) := e_gR (k := 41) hm (Or.inr rfl)
theorem Ma41 (hm : m ≤ h.length) {i : Nat} (hi : i < 4096) : xaJ (mh m h σ) 2 (m + 31) (nI i) = some (gB σ 41 i) := e_aJ (k := 41) hm rfl hi
theorem Ms41 (hm : m ≤ h.length) {i : Nat} (hi : i < 4096) (v : Int64) : xsJ (mh m h σ) 2 (m + 31) (nI i) v = some (mh m h (sB σ 41 (vp_updL (gB σ 41) i v))) := e_sJ (k := 41) hm rfl hi v
theorem Mr42 (hm : m ≤ h.length) : xgR (mh m h σ) 12 42 m = some (m + 32) := e_gR (k := 42) hm (Or.inl rfl)
theorem Ma42 (hm : m ≤ h.length) {i : Nat} (hi : i < 65536) : xaI (mh m h σ) 0 (m + 32) (nI i) = some (gA σ 42 i) := e_aI (k := 42) hm rfl hi
theorem Ms42 (hm : m ≤ h.length) {i : Nat} (hi : i < 65536) (v : Int32) : xsI (mh m h σ) 0 (m + 32) (nI i) v = some (mh m h (sA σ 42 (upd (gA σ 42) i v))) := e_sI (k := 42) hm rfl hi v
theorem Mg43 (hm : m ≤ h.length) : xgI (mh m h σ) 12 43 m = some (gI σ 43) := e_gI hm rfl
theorem Mp43 (hm : m ≤ h.length) (v : Int32) : xpI (mh m h σ) 12 43 m v = some (mh m h (sI σ 43 v)) := e_pI hm rfl v
theorem Mg44 (hm : m ≤ h.length) : xgI (mh m h σ) 12 44 m = some (gI σ 44) := e_gI hm rfl
theorem Mp44 (hm : m ≤ h.length) (v : Int32) : xpI (mh m h σ) 12 44 m v = some (mh m h (sI σ 44 v)) := e_pI hm rfl v
theorem Mr45 (hm : m ≤ h.length) : xgR (mh m h σ) 12 45 m = some (m + 33) := e_gR (k := 45) hm (Or.inl rfl)
theorem Ma45 (hm : m ≤ h.length) {i : Nat} (hi : i < 2800) : xaI (mh m h σ) 1 (m + 33) (nI i) = some (gA σ 45 i) := e_aI (k := 45) hm rfl hi
theorem Ms45 (hm : m ≤ h.length) {i : Nat} (hi : i < 2800) (v : Int32) : xsI (mh m h σ) 1 (m + 33) (nI i) v = some (mh m h (sA σ 45 (upd (gA σ 45) i v))) := e_sI (k := 45) hm rfl hi v
theorem Mr46 (hm : m ≤ h.length) : xgR (mh m h σ) 12 46 m = some (m + 34) := e_gR (k := 46) hm (Or.inl rfl)
theorem Ma46 (hm : m ≤ h.length) {i : Nat} (hi : i < 2800) : xaI (mh m h σ) 1 (m + 34) (nI i) = some (gA σ 46 i) := e_aI (k := 46) hm rfl hi
theorem Ms46 (hm : m ≤ h.length) {i : Nat} (hi : i < 2800) (v : Int32) : xsI (mh m h σ) 1 (m + 34) (nI i) v = some (mh m h (sA σ 46 (upd (gA σ 46) i v))) := e_sI (k := 46) hm rfl hi v
theorem Mr47 (hm : m ≤ h.length) : xgR (mh m h σ) 12 47 m = some (m + 35) := e_gR (k := 47) hm (Or.inr rfl)
theorem Ma47 (hm : m ≤ h.length) {i : Nat} (hi : i < 2800) : xaJ (mh m h σ) 2 (m + 35) (nI i) = some (gB σ 47 i) := e_aJ (k := 47) hm rfl hi
theorem Ms47 (hm : m ≤ h.length) {i : Nat} (hi : i < 2800) (v : Int64) : xsJ (mh m h σ) 2 (m + 35) (nI i) v = some (mh m h (sB σ 47 (vp_updL (gB σ 47) i v))) := e_sJ (k := 47) hm rfl hi v
theorem Mg48 (hm : m ≤ h.length) : xgI (mh m h σ) 12 48 m = some (gI σ 48) := e_gI hm rfl
theorem Mp48 (hm : m ≤ h.length) (v : Int32) : xpI (mh m h σ) 12 48 m v = some (mh m h (sI σ 48 v)) := e_pI hm rfl v
theorem Mr49 (hm : m ≤ h.length) : xgR (mh m h σ) 12 49 m = some (m + 36) := e_gR (k := 49) hm (Or.inl rfl)
theorem Ma49 (hm : m ≤ h.length) {i : Nat} (hi : i < 4096) : xaI (mh m h σ) 1 (m + 36) (nI i) = some (gA σ 49 i) := e_aI (k := 49) hm rfl hi
theorem Ms49 (hm : m ≤ h.length) {i : Nat} (hi : i < 4096) (v : Int32) : xsI (mh m h σ) 1 (m + 36) (nI i) v = some (mh m h (sA σ 49 (upd (gA σ 49) i v))) := e_sI (k := 49) hm rfl hi v
theorem Mg50 (hm : m ≤ h.length) : xgI (mh m h σ) 12 50 m = some (gI σ 50) := e_gI hm rfl
theorem Mp50 (hm : m ≤ h.length) (v : Int32) : xpI (mh m h σ) 12 50 m v = some (mh m h (sI σ 50 v)) := e_pI hm rfl v
theorem Mr51 (hm : m ≤ h.length) : xgR (mh m h σ) 12 51 m = some (m + 37) := e_gR (k := 51) hm (Or.inl rfl)
theorem Ma51 (hm : m ≤ h.length) {i : Nat} (hi : i < 1536) : xaI (mh m h σ) 1 (m + 37) (nI i) = some (gA σ 51 i) := e_aI (k := 51) hm rfl hi
theorem Ms51 (hm : m ≤ h.length) {i : Nat} (hi : i < 1536) (v : Int32) : xsI (mh m h σ) 1 (m + 37) (nI i) v = some (mh m h (sA σ 51 (upd (gA σ 51) i v))) := e_sI (k := 51) hm rfl hi v
theorem Mr52 (hm : m ≤ h.length) : xgR (mh m h σ) 12 52 m = some (m + 38) := e_gR (k := 52) hm (Or.inl rfl)
theorem Ma52 (hm : m ≤ h.length) {i : Nat} (hi : i < 1536) : xaI (mh m h σ) 1 (m + 38) (nI i) = some (gA σ 52 i) := e_aI (k := 52) hm rfl hi
theorem Ms52 (hm : m ≤ h.length) {i : Nat} (hi : i < 1536) (v : Int32) : xsI (mh m h σ) 1 (m + 38) (nI i) v = some (mh m h (sA σ 52 (upd (gA σ 52) i v))) := e_sI (k := 52) hm rfl hi v
theorem Mr53 (hm : m ≤ h.length) : xgR (mh m h σ) 12 53 m = some (m + 39) := e_gR (k := 53) hm (Or.inl rfl)
theorem Ma53 (hm : m ≤ h.length) {i : Nat} (hi : i < 1536) : xaI (mh m h σ) 1 (m + 39) (nI i) = some (gA σ 53 i) := e_aI (k := 53) hm rfl hi
theorem Ms53 (hm : m ≤ h.length) {i : Nat} (hi : i < 1536) (v : Int32) : xsI (mh m h σ) 1 (m + 39) (nI i) v = some (mh m h (sA σ 53 (upd (gA σ 53) i v))) := e_sI (k := 53) hm rfl hi v
theorem Mr54 (hm : m ≤ h.length) : xgR (mh m h σ) 12 54 m = some (m + 40) := e_gR (k := 54) hm (Or.inl rfl)
theorem Ma54 (hm : m ≤ h.length) {i : Nat} (hi : i < 1536) : xaI (mh m h σ) 1 (m + 40) (nI i) = some (gA σ 54 i) := e_aI (k := 54) hm rfl hi
theorem Ms54 (hm : m ≤ h.length) {i : Nat} (hi : i < 1536) (v : Int32) : xsI (mh m h σ) 1 (m + 40) (nI i) v = some (mh m h (sA σ 54 (upd (gA σ 54) i v))) := e_sI (k := 54) hm rfl hi v
theorem Mr55 (hm : m ≤ h.length) : xgR (mh m h σ) 12 55 m = some (m + 41) := e_gR (k := 55) hm (Or.inl rfl)
theorem Ma55 (hm : m ≤ h.length) {i : Nat} (hi : i < 1536) : xaI (mh m h σ) 1 (m + 41) (nI i) = some (gA σ 55 i) := e_aI (k := 55) hm rfl hi
theorem Ms55 (hm : m ≤ h.length) {i : Nat} (hi : i < 1536) (v : Int32) : xsI (mh m h σ) 1 (m + 41) (nI i) v = some (mh m h (sA σ 55 (upd (gA σ 55) i v))) := e_sI (k := 55) hm rfl hi v
theorem Mr56 (hm : m ≤ h.length) : xgR (mh m h σ) 12 56 m = some (m + 42) := e_gR (k := 56) hm (Or.inl rfl)
theorem Ma56 (hm : m ≤ h.length) {i : Nat} (hi : i < 1536) : xaI (mh m h σ) 1 (m + 42) (nI i) = some (gA σ 56 i) := e_aI (k := 56) hm rfl hi
theorem Ms56 (hm : m ≤ h.length) {i : Nat} (hi : i < 1536) (v : Int32) : xsI (mh m h σ) 1 (m + 42) (nI i) v = some (mh m h (sA σ 56 (upd (gA σ 56) i v))) := e_sI (k := 56) hm rfl hi v
theorem Mr57 (hm : m ≤ h.length) : xgR (mh m h σ) 12 57 m = some (m + 43) := e_gR (k := 57) hm (Or.inr rfl)
theorem Ma57 (hm : m ≤ h.length) {i : Nat} (hi : i < 1536) : xaJ (mh m h σ) 2 (m + 43) (nI i) = some (gB σ 57 i) := e_aJ (k := 57) hm rfl hi
theorem Ms57 (hm : m ≤ h.length) {i : Nat} (hi : i < 1536) (v : Int64) : xsJ (mh m h σ) 2 (m + 43) (nI i) v = some (mh m h (sB σ 57 (vp_updL (gB σ 57) i v))) := e_sJ (k := 57) hm rfl hi v
theorem Mr58 (hm : m ≤ h.length) : xgR (mh m h σ) 12 58 m = some (m + 44) := e_gR (k := 58) hm (Or.inr rfl)
theorem Ma58 (hm : m ≤ h.length) {i : Nat} (hi : i < 1536) : xaJ (mh m h σ) 2 (m + 44) (nI i) = some (gB σ 58 i) := e_aJ (k := 58) hm rfl hi
theorem Ms58 (hm : m ≤ h.length) {i : Nat} (hi : i < 1536) (v : Int64) : xsJ (mh m h σ) 2 (m + 44) (nI i) v = some (mh m h (sB σ 58 (vp_updL (gB σ 58) i v))) := e_sJ (k := 58) hm rfl hi v
theorem Mr59 (hm : m ≤ h.length) : xgR (mh m h σ) 12 59 m = some (m + 45) := e_gR (k := 59) hm (Or.inl rfl)
theorem Ma59 (hm : m ≤ h.length) {i : Nat} (hi : i < 3) : xaI (mh m h σ) 3 (m + 45) (nI i) = some (gA σ 59 i) := e_aI (k := 59) hm rfl hi
theorem Ms59 (hm : m ≤ h.length) {i : Nat} (hi : i < 3) (v : Int32) : xsI (mh m h σ) 3 (m + 45) (nI i) v = some (mh m h (sA σ 59 (upd (gA σ 59) i v))) := e_sI (k := 59) hm rfl hi v
theorem Mr60 (hm : m ≤ h.length) : xgR (mh m h σ) 12 60 m = some (m + 46) := e_gR (k := 60) hm (Or.inr rfl)
theorem Ma60 (hm : m ≤ h.length) {i : Nat} (hi : i < 3) : xaJ (mh m h σ) 2 (m + 46) (nI i) = some (gB σ 60 i) := e_aJ (k := 60) hm rfl hi
theorem Ms60 (hm : m ≤ h.length) {i : Nat} (hi : i < 3) (v : Int64) : xsJ (mh m h σ) 2 (m + 46) (nI i) v = some (mh m h (sB σ 60 (vp_updL (gB σ 60) i v))) := e_sJ (k := 60) hm rfl hi v
theorem Mr61 (hm : m ≤ h.length) : xgR (mh m h σ) 12 61 m = some (m + 47) := e_gR (k := 61) hm (Or.inr rfl)
theorem Ma61 (hm : m ≤ h.length) {i : Nat} (hi : i < 3) : xaJ (mh m h σ) 2 (m + 47) (nI i) = some (gB σ 61 i) := e_aJ (k := 61) hm rfl hi
theorem Ms61 (hm : m ≤ h.length) {i : Nat} (hi : i < 3) (v : Int64) : xsJ (mh m h σ) 2 (m + 47) (nI i) v = some (mh m h (sB σ 61 (vp_updL (gB σ 61) i v))) := e_sJ (k := 61) hm rfl hi v
theorem Mr62 (hm : m ≤ h.length) : xgR (mh m h σ) 12 62 m = some (m + 48) := e_gR (k := 62) hm (Or.inr rfl)
theorem Ma62 (hm : m ≤ h.length) {i : Nat} (hi : i < 3) : xaJ (mh m h σ) 2 (m + 48) (nI i) = some (gB σ 62 i) := e_aJ (k := 62) hm rfl hi
theorem Ms62 (hm : m ≤ h.length) {i : Nat} (hi : i < 3) (v : Int64) : xsJ (mh m h σ) 2 (m + 48) (nI i) v = some (mh m h (sB σ 62 (vp_updL (gB σ 62) i v))) := e_sJ (k := 62) hm rfl hi v
theorem Mr63 (hm : m ≤ h.length) : xgR (mh m h σ) 12 63 m = some (m + 49) := e_gR (k := 63) hm (Or.inr rfl)
theorem Ma63 (hm : m ≤ h.length) {i : Nat} (hi : i < 3) : xaJ (mh m h σ) 2 (m + 49) (nI i) = some (gB σ 63 i) := e_aJ (k := 63) hm rfl hi
theorem Ms63 (hm : m ≤ h.length) {i : Nat} (hi : i < 3) (v : Int64) : xsJ (mh m h σ) 2 (m + 49) (nI i) v = some (mh m h (sB σ 63 (vp_updL (gB σ 63) i v))) := e_sJ (k := 63) hm rfl hi v
theorem Mg64 (hm : m ≤ h.length) : xgJ (mh m h σ) 12 64 m = some (gJ σ 64) := e_gJ hm rfl
theorem Mp64 (hm : m ≤ h.length) (v : Int64) : xpJ (mh m h σ) 12 64 m v = some (mh m h (sJ σ 64 v)) := e_pJ hm rfl v
theorem Mr65 (hm : m ≤ h.length) : xgR (mh m h σ) 12 65 m = some (m + 50) := e_gR (k := 65) hm (Or.inl rfl)
theorem Ma65 (hm : m ≤ h.length) {i : Nat} (hi : i < 1536) : xaI (mh m h σ) 3 (m + 50) (nI i) = some (gA σ 65 i) := e_aI (k := 65) hm rfl hi
theorem Ms65 (hm : m ≤ h.length) {i : Nat} (hi : i < 1536) (v : Int32) : xsI (mh m h σ) 3 (m + 50) (nI i) v = some (mh m h (sA σ 65 (upd (gA σ 65) i v))) := e_sI (k := 65) hm rfl hi v
theorem Mr66 (hm : m ≤ h.length) : xgR (mh m h σ) 12 66 m = some (m + 51) := e_gR (k := 66) hm (Or.inl rfl)
theorem Ma66 (hm : m ≤ h.length) {i : Nat} (hi : i < 1536) : xaI (mh m h σ) 3 (m + 51) (nI i) = some (gA σ 66 i) := e_aI (k := 66) hm rfl hi
theorem Ms66 (hm : m ≤ h.length) {i : Nat} (hi : i < 1536) (v : Int32) : xsI (mh m h σ) 3 (m + 51) (nI i) v = some (mh m h (sA σ 66 (upd (gA σ 66) i v))) := e_sI (k := 66) hm rfl hi v
theorem Mr67 (hm : m ≤ h.length) : xgR (mh m h σ) 12 67 m = some (m + 52) := e_gR (k := 67) hm (Or.inl rfl)
theorem Ma67 (hm : m ≤ h.length) {i : Nat} (hi : i < 4096) : xaI (mh m h σ) 3 (m + 52) (nI i) = some (gA σ 67 i) := e_aI (k := 67) hm rfl hi
theorem Ms67 (hm : m ≤ h.length) {i : Nat} (hi : i < 4096) (v : Int32) : xsI (mh m h σ) 3 (m + 52) (nI i) v = some (mh m h (sA σ 67 (upd (gA σ 67) i v))) := e_sI (k := 67) hm rfl hi v
theorem Mg68 (hm : m ≤ h.length) : xgI (mh m h σ) 12 68 m = some (gI σ 68) := e_gI hm rfl
theorem Mp68 (hm : m ≤ h.length) (v : Int32) : xpI (mh m h σ) 12 68 m v = some (mh m h (sI σ 68 v)) := e_pI hm rfl v
theorem Mz68 (hm : m ≤ h.length) (c : Bool) : xpZ (mh m h σ) 12 68 m (bI c) = some (mh m h (sI σ 68 (bI c))) := e_pZ hm rfl c
theorem Mg69 (hm : m ≤ h.length) : xgI (mh m h σ) 12 69 m = some (gI σ 69) := e_gI hm rfl
theorem Mp69 (hm : m ≤ h.length) (v : Int32) : xpI (mh m h σ) 12 69 m v = some (mh m h (sI σ 69 v)) := e_pI hm rfl v
theorem Mg70 (hm : m ≤ h.length) : xgI (mh m h σ) 12 70 m = some (gI σ 70) := e_gI hm rfl
theorem Mp70 (hm : m ≤ h.length) (v : Int32) : xpI (mh m h σ) 12 70 m v = some (mh m h (sI σ 70 v)) := e_pI hm rfl v
theorem Mr71 (hm : m ≤ h.length) : xgR (mh m h σ) 12 71 m = some (m + 53) := e_gR (k := 71) hm (Or.inl rfl)
theorem Ma71 (hm : m ≤ h.length) {i : Nat} (hi : i < 1536) : xaI (mh m h σ) 1 (m + 53) (nI i) = some (gA σ 71 i) := e_aI (k := 71) hm rfl hi
theorem Ms71 (hm : m ≤ h.length) {i : Nat} (hi : i < 1536) (v : Int32) : xsI (mh m h σ) 1 (m + 53) (nI i) v = some (mh m h (sA σ 71 (upd (gA σ 71) i v))) := e_sI (k := 71) hm rfl hi v
theorem Mr72 (hm : m ≤ h.length) : xgR (mh m h σ) 12 72 m = some (m + 54) := e_gR (k := 72) hm (Or.inl rfl)
theorem Ma72 (hm : m ≤ h.length) {i : Nat} (hi : i < 1536) : xaI (mh m h σ) 1 (m + 54) (nI i) = some (gA σ 72 i) := e_aI (k := 72) hm rfl hi
theorem Ms72 (hm : m ≤ h.length) {i : Nat} (hi : i < 1536) (v : Int32) : xsI (mh m h σ) 1 (m + 54) (nI i) v = some (mh m h (sA σ 72 (upd (gA σ 72) i v))) := e_sI (k := 72) hm rfl hi v
theorem Mr73 (hm : m ≤ h.length) : xgR (mh m h σ) 12 73 m = some (m + 55) := e_gR (k := 73) hm (Or.inl rfl)
theorem Ma73 (hm : m ≤ h.length) {i : Nat} (hi : i < 4096) : xaI (mh m h σ) 1 (m + 55) (nI i) = some (gA σ 73 i) := e_aI (k := 73) hm rfl hi
theorem Ms73 (hm : m ≤ h.length) {i : Nat} (hi : i < 4096) (v : Int32) : xsI (mh m h σ) 1 (m + 55) (nI i) v = some (mh m h (sA σ 73 (upd (gA σ 73) i v))) := e_sI (k := 73) hm rfl hi v
theorem Mg74 (hm : m ≤ h.length) : xgI (mh m h σ) 12 74 m = some (gI σ 74) := e_gI hm rfl
theorem Mp74 (hm : m ≤ h.length) (v : Int32) : xpI (mh m h σ) 12 74 m v = some (mh m h (sI σ 74 v)) := e_pI hm rfl v
theorem Mr75 (hm : m ≤ h.length) : xgR (mh m h σ) 12 75 m = some (m + 56) := e_gR (k := 75) hm (Or.inl rfl)
theorem Ma75 (hm : m ≤ h.length) {i : Nat} (hi : i < 2800) : xaI (mh m h σ) 1 (m + 56) (nI i) = some (gA σ 75 i) := e_aI (k := 75) hm rfl hi
theorem Ms75 (hm : m ≤ h.length) {i : Nat} (hi : i < 2800) (v : Int32) : xsI (mh m h σ) 1 (m + 56) (nI i) v = some (mh m h (sA σ 75 (upd (gA σ 75) i v))) := e_sI (k := 75) hm rfl hi v
theorem Mr76 (hm : m ≤ h.length) : xgR (mh m h σ) 12 76 m = some (m + 57) := e_gR (k := 76) hm (Or.inl rfl)
theorem Ma76 (hm : m ≤ h.length) {i : Nat} (hi : i < 2800) : xaI (mh m h σ) 1 (m + 57) (nI i) = some (gA σ 76 i) := e_aI (k := 76) hm rfl hi
theorem Ms76 (hm : m ≤ h.length) {i : Nat} (hi : i < 2800) (v : Int32) : xsI (mh m h σ) 1 (m + 57) (nI i) v = some (mh m h (sA σ 76 (upd (gA σ 76) i v))) := e_sI (k := 76) hm rfl hi v
theorem Mr77 (hm : m ≤ h.length) : xgR (mh m h σ) 12 77 m = some (m + 58) := e_gR (k := 77) hm (Or.inl rfl)
theorem Ma77 (hm : m ≤ h.length) {i : Nat} (hi : i < 2800) : xaI (mh m h σ) 1 (m + 58) (nI i) = some (gA σ 77 i) := e_aI (k := 77) hm rfl hi
theorem Ms77 (hm : m ≤ h.length) {i : Nat} (hi : i < 2800) (v : Int32) : xsI (mh m h σ) 1 (m + 58) (nI i) v = some (mh m h (sA σ 77 (upd (gA σ 77) i v))) := e_sI (k := 77) hm rfl hi v
theorem Mr78 (hm : m ≤ h.length) : xgR (mh m h σ) 12 78 m = some (m + 59) := e_gR (k := 78) hm (Or.inl rfl)
theorem Ma78 (hm : m ≤ h.length) {i : Nat} (hi : i < 2800) : xaI (mh m h σ) 3 (m + 59) (nI i) = some (gA σ 78 i) := e_aI (k := 78) hm rfl hi
theorem Ms78 (hm : m ≤ h.length) {i : Nat} (hi : i < 2800) (v : Int32) : xsI (mh m h σ) 3 (m + 59) (nI i) v = some (mh m h (sA σ 78 (upd (gA σ 78) i v))) := e_sI (k := 78) hm rfl hi v
theorem Mg79 (hm : m ≤ h.length) : xgJ (mh m h σ) 12 79 m = some (gJ σ 79) := e_gJ hm rfl
theorem Mp79 (hm : m ≤ h.length) (v : Int64) : xpJ (mh m h σ) 12 79 m v = some (mh m h (sJ σ 79 v)) := e_pJ hm rfl v
theorem Mg80 (hm : m ≤ h.length) : xgJ (mh m h σ) 12 80 m = some (gJ σ 80) := e_gJ hm rfl
theorem Mp80 (hm : m ≤ h.length) (v : Int64) : xpJ (mh m h σ) 12 80 m v = some (mh m h (sJ σ 80 v)) := e_pJ hm rfl v
theorem Mg81 (hm : m ≤ h.length) : xgJ (mh m h σ) 12 81 m = some (gJ σ 81) := e_gJ hm rfl
theorem Mp81 (hm : m ≤ h.length) (v : Int64) : xpJ (mh m h σ) 12 81 m v = some (mh m h (sJ σ 81 v)) := e_pJ hm rfl v
theorem Mg82 (hm : m ≤ h.length) : xgI (mh m h σ) 12 82 m = some (gI σ 82) := e_gI hm rfl
theorem Mp82 (hm : m ≤ h.length) (v : Int32) : xpI (mh m h σ) 12 82 m v = some (mh m h (sI σ 82 v)) := e_pI hm rfl v
theorem Mz82 (hm : m ≤ h.length) (c : Bool) : xpZ (mh m h σ) 12 82 m (bI c) = some (mh m h (sI σ 82 (bI c))) := e_pZ hm rfl c
theorem Mg83 (hm : m ≤ h.length) : xgJ (mh m h σ) 12 83 m = some (gJ σ 83) := e_gJ hm rfl
theorem Mp83 (hm : m ≤ h.length) (v : Int64) : xpJ (mh m h σ) 12 83 m v = some (mh m h (sJ σ 83 v)) := e_pJ hm rfl v
theorem Mg84 (hm : m ≤ h.length) : xgJ (mh m h σ) 12 84 m = some (gJ σ 84) := e_gJ hm rfl
theorem Mp84 (hm : m ≤ h.length) (v : Int64) : xpJ (mh m h σ) 12 84 m v = some (mh m h (sJ σ 84 v)) := e_pJ hm rfl v
theorem Mg85 (hm : m ≤ h.length) : xgJ (mh m h σ) 12 85 m = some (gJ σ 85) := e_gJ hm rfl
theorem Mp85 (hm : m ≤ h.length) (v : Int64) : xpJ (mh m h σ) 12 85 m v = some (mh m h (sJ σ 85 v)) := e_pJ hm rfl v
theorem Mg86 (hm : m ≤ h.length) : xgJ (mh m h σ) 12 86 m = some (gJ σ 86) := e_gJ hm rfl
theorem Mp86 (hm : m ≤ h.length) (v : Int64) : xpJ (mh m h σ) 12 86 m v = some (mh m h (sJ σ 86 v)) := e_pJ hm rfl v
theorem Mg87 (hm : m ≤ h.length) : xgJ (mh m h σ) 12 87 m = some (gJ σ 87) := e_gJ hm rfl
theorem Mp87 (hm : m ≤ h.length) (v : Int64) : xpJ (mh m h σ) 12 87 m v = some (mh m h (sJ σ 87 v)) := e_pJ hm rfl v
theorem Mg88 (hm : m ≤ h.length) : xgI (mh m h σ) 12 88 m = some (gI σ 88) := e_gI hm rfl
theorem Mp88 (hm : m ≤ h.length) (v : Int32) : xpI (mh m h σ) 12 88 m v = some (mh m h (sI σ 88 v)) := e_pI hm rfl v
theorem Mg89 (hm : m ≤ h.length) : xgI (mh m h σ) 12 89 m = some (gI σ 89) := e_gI hm rfl
theorem Mp89 (hm : m ≤ h.length) (v : Int32) : xpI (mh m h σ) 12 89 m v = some (mh m h (sI σ 89 v)) := e_pI hm rfl v
theorem Mg90 (hm : m ≤ h.length) : xgJ (mh m h σ) 12 90 m = some (gJ σ 90) := e_gJ hm rfl
theorem Mp90 (hm : m ≤ h.length) (v : Int64) : xpJ (mh m h σ) 12 90 m v = some (mh m h (sJ σ 90 v)) := e_pJ hm rfl v
theorem Mr91 (hm : m ≤ h.length) : xgR (mh m h σ) 12 91 m = some (m + 60) := e_gR (k := 91) hm (Or.inl rfl)
theorem Ma91 (hm : m ≤ h.length) {i : Nat} (hi : i < 65536) : xaI (mh m h σ) 0 (m + 60) (nI i) = some (gA σ 91 i) := e_aI (k := 91) hm rfl hi
theorem Ms91 (hm : m ≤ h.length) {i : Nat} (hi : i < 65536) (v : Int32) : xsI (mh m h σ) 0 (m + 60) (nI i) v = some (mh m h (sA σ 91 (upd (gA σ 91) i v))) := e_sI (k := 91) hm rfl hi v
theorem Mr92 (hm : m ≤ h.length) : xgR (mh m h σ) 12 92 m = some (m + 61) := e_gR (k := 92) hm (Or.inl rfl)
theorem Ma92 (hm : m ≤ h.length) {i : Nat} (hi : i < 65540) : xaI (mh m h σ) 1 (m + 61) (nI i) = some (gA σ 92 i) := e_aI (k := 92) hm rfl hi
theorem Ms92 (hm : m ≤ h.length) {i : Nat} (hi : i < 65540) (v : Int32) : xsI (mh m h σ) 1 (m + 61) (nI i) v = some (mh m h (sA σ 92 (upd (gA σ 92) i v))) := e_sI (k := 92) hm rfl hi v
theorem Mr93 (hm : m ≤ h.length) : xgR (mh m h σ) 12 93 m = some (m + 62) := e_gR (k := 93) hm (Or.inl rfl)
theorem Ma93 (hm : m ≤ h.length) {i : Nat} (hi : i < 65540) : xaI (mh m h σ) 1 (m + 62) (nI i) = some (gA σ 93 i) := e_aI (k := 93) hm rfl hi
theorem Ms93 (hm : m ≤ h.length) {i : Nat} (hi : i < 65540) (v : Int32) : xsI (mh m h σ) 1 (m + 62) (nI i) v = some (mh m h (sA σ 93 (upd (gA σ 93) i v))) := e_sI (k := 93) hm rfl hi v
theorem Mr94 (hm : m ≤ h.length) : xgR (mh m h σ) 12 94 m = some (m + 63) := e_gR (k := 94) hm (Or.inl rfl)
theorem Ma94 (hm : m ≤ h.length) {i : Nat} (hi : i < 65540) : xaI (mh m h σ) 1 (m + 63) (nI i) = some (gA σ 94 i) := e_aI (k := 94) hm rfl hi
theorem Ms94 (hm : m ≤ h.length) {i : Nat} (hi : i < 65540) (v : Int32) : xsI (mh m h σ) 1 (m + 63) (nI i) v = some (mh m h (sA σ 94 (upd (gA σ 94) i v))) := e_sI (k := 94) hm rfl hi v
theorem Mr95 (hm : m ≤ h.length) : xgR (mh m h σ) 12 95 m = some (m + 64) := e_gR (k := 95) hm (Or.inl rfl)
theorem Ma95 (hm : m ≤ h.length) {i : Nat} (hi : i < 65540) : xaI (mh m h σ) 0 (m + 64) (nI i) = some (gA σ 95 i) := e_aI (k := 95) hm rfl hi
theorem Ms95 (hm : m ≤ h.length) {i : Nat} (hi : i < 65540) (v : Int32) : xsI (mh m h σ) 0 (m + 64) (nI i) v = some (mh m h (sA σ 95 (upd (gA σ 95) i v))) := e_sI (k := 95) hm rfl hi v
theorem Mr96 (hm : m ≤ h.length) : xgR (mh m h σ) 12 96 m = some (m + 65) := e_gR (k := 96) hm (Or.inl rfl)
theorem Ma96 (hm : m ≤ h.length) {i : Nat} (hi : i < 24) : xaI (mh m h σ) 3 (m + 65) (nI i) = some (gA σ 96 i) := e_aI (k := 96) hm rfl hi
theorem Ms96 (hm : m ≤ h.length) {i : Nat} (hi : i < 24) (v : Int32) : xsI (mh m h σ) 3 (m + 65) (nI i) v = some (mh m h (sA σ 96 (upd (gA σ 96) i v))) := e_sI (k := 96) hm rfl hi v
theorem Mr97 (hm : m ≤ h.length) : xgR (mh m h σ) 12 97 m = some (m + 66) := e_gR (k := 97) hm (Or.inl rfl)
theorem Ma97 (hm : m ≤ h.length) {i : Nat} (hi : i < 27) : xaI (mh m h σ) 0 (m + 66) (nI i) = some (gA σ 97 i) := e_aI (k := 97) hm rfl hi
theorem Ms97 (hm : m ≤ h.length) {i : Nat} (hi : i < 27) (v : Int32) : xsI (mh m h σ) 0 (m + 66) (nI i) v = some (mh m h (sA σ 97 (upd (gA σ 97) i v))) := e_sI (k := 97) hm rfl hi v
theorem Mg98 (hm : m ≤ h.length) : xgI (mh m h σ) 12 98 m = some (gI σ 98) := e_gI hm rfl
theorem Mp98 (hm : m ≤ h.length) (v : Int32) : xpI (mh m h σ) 12 98 m v = some (mh m h (sI σ 98 v)) := e_pI hm rfl v
theorem Mz98 (hm : m ≤ h.length) (c : Bool) : xpZ (mh m h σ) 12 98 m (bI c) = some (mh m h (sI σ 98 (bI c))) := e_pZ hm rfl c
theorem Mr99 (hm : m ≤ h.length) : xgR (mh m h σ) 12 99 m = some (m + 67) := e_gR (k := 99) hm (Or.inl rfl)
theorem Ma99 (hm : m ≤ h.length) {i : Nat} (hi : i < 65536) : xaI (mh m h σ) 0 (m + 67) (nI i) = some (gA σ 99 i) := e_aI (k := 99) hm rfl hi
theorem Ms99 (hm : m ≤ h.length) {i : Nat} (hi : i < 65536) (v : Int32) : xsI (mh m h σ) 0 (m + 67) (nI i) v = some (mh m h (sA σ 99 (upd (gA σ 99) i v))) := e_sI (k := 99) hm rfl hi v
theorem Mr100 (hm : m ≤ h.length) : xgR (mh m h σ) 12 100 m = some (m + 68) := e_gR (k := 100) hm (Or.inl rfl)
theorem Ma100 (hm : m ≤ h.length) {i : Nat} (hi : i < 65536) : xaI (mh m h σ) 0 (m + 68) (nI i) = some (gA σ 100 i) := e_aI (k := 100) hm rfl hi
theorem Ms100 (hm : m ≤ h.length) {i : Nat} (hi : i < 65536) (v : Int32) : xsI (mh m h σ) 0 (m + 68) (nI i) v = some (mh m h (sA σ 100 (upd (gA σ 100) i v))) := e_sI (k := 100) hm rfl hi v
theorem Mg101 (hm : m ≤ h.length) : xgI (mh m h σ) 12 101 m = some (gI σ 101) := e_gI hm rfl
theorem Mp101 (hm : m ≤ h.length) (v : Int32) : xpI (mh m h σ) 12 101 m v = some (mh m h (sI σ 101 v)) := e_pI hm rfl v
theorem Mg102 (hm : m ≤ h.length) : xgI (mh m h σ) 12 102 m = some (gI σ 102) := e_gI hm rfl
theorem Mp102 (hm : m ≤ h.length) (v : Int32) : xpI (mh m h σ) 12 102 m v = some (mh m h (sI σ 102 v)) := e_pI hm rfl v
theorem Mg103 (hm : m ≤ h.length) : xgI (mh m h σ) 12 103 m = some (gI σ 103) := e_gI hm rfl
theorem Mp103 (hm : m ≤ h.length) (v : Int32) : xpI (mh m h σ) 12 103 m v = some (mh m h (sI σ 103 v)) := e_pI hm rfl v
theorem Mg104 (hm : m ≤ h.length) : xgJ (mh m h σ) 12 104 m = some (gJ σ 104) := e_gJ hm rfl
theorem Mp104 (hm : m ≤ h.length) (v : Int64) : xpJ (mh m h σ) 12 104 m v = some (mh m h (sJ σ 104 v)) := e_pJ hm rfl v
theorem Mr105 (hm : m ≤ h.length) : xgR (mh m h σ) 12 105 m = some (m + 69) := e_gR (k := 105) hm (Or.inr rfl)
theorem Ma105 (hm : m ≤ h.length) {i : Nat} (hi : i < 8) : xaJ (mh m h σ) 2 (m + 69) (nI i) = some (gB σ 105 i) := e_aJ (k := 105) hm rfl hi
theorem Ms105 (hm : m ≤ h.length) {i : Nat} (hi : i < 8) (v : Int64) : xsJ (mh m h σ) 2 (m + 69) (nI i) v = some (mh m h (sB σ 105 (vp_updL (gB σ 105) i v))) := e_sJ (k := 105) hm rfl hi v
theorem Mr106 (hm : m ≤ h.length) : xgR (mh m h σ) 12 106 m = some (m + 70) := e_gR (k := 106) hm (Or.inr rfl)
theorem Ma106 (hm : m ≤ h.length) {i : Nat} (hi : i < 8) : xaJ (mh m h σ) 2 (m + 70) (nI i) = some (gB σ 106 i) := e_aJ (k := 106) hm rfl hi
theorem Ms106 (hm : m ≤ h.length) {i : Nat} (hi : i < 8) (v : Int64) : xsJ (mh m h σ) 2 (m + 70) (nI i) v = some (mh m h (sB σ 106 (vp_updL (gB σ 106) i v))) := e_sJ (k := 106) hm rfl hi v
theorem Mr107 (hm : m ≤ h.length) : xgR (mh m h σ) 12 107 m = some (m + 71) := e_gR (k := 107) hm (Or.inr rfl)
theorem Ma107 (hm : m ≤ h.length) {i : Nat} (hi : i < 8) : xaJ (mh m h σ) 2 (m + 71) (nI i) = some (gB σ 107 i) := e_aJ (k := 107) hm rfl hi
theorem Ms107 (hm : m ≤ h.length) {i : Nat} (hi : i < 8) (v : Int64) : xsJ (mh m h σ) 2 (m + 71) (nI i) v = some (mh m h (sB σ 107 (vp_updL (gB σ 107) i v))) := e_sJ (k := 107) hm rfl hi v
theorem Mr108 (hm : m ≤ h.length) : xgR (mh m h σ) 12 108 m = some (m + 72) := e_gR (k := 108) hm (Or.inr rfl)
theorem Ma108 (hm : m ≤ h.length) {i : Nat} (hi : i < 8) : xaJ (mh m h σ) 2 (m + 72) (nI i) = some (gB σ 108 i) := e_aJ (k := 108) hm rfl hi
theorem Ms108 (hm : m ≤ h.length) {i : Nat} (hi : i < 8) (v : Int64) : xsJ (mh m h σ) 2 (m + 72) (nI i) v = some (mh m h (sB σ 108 (vp_updL (gB σ 108) i v))) := e_sJ (k := 108) hm rfl hi v
theorem Mr109 (hm : m ≤ h.length) : xgR (mh m h σ) 12 109 m = some (m + 73) := e_gR (k := 109) hm (Or.inr rfl)
theorem Ma109 (hm : m ≤ h.length) {i : Nat} (hi : i < 8) : xaJ (mh m h σ) 2 (m + 73) (nI i) = some (gB σ 109 i) := e_aJ (k := 109) hm rfl hi
theorem Ms109 (hm : m ≤ h.length) {i : Nat} (hi : i < 8) (v : Int64) : xsJ (mh m h σ) 2 (m + 73) (nI i) v = some (mh m h (sB σ 109 (vp_updL (gB σ 109) i v))) := e_sJ (k := 109) hm rfl hi v
theorem Mr110 (hm : m ≤ h.length) : xgR (mh m h σ) 12 110 m = some (m + 74) := e_gR (k := 110) hm (Or.inr rfl)
theorem Ma110 (hm : m ≤ h.length) {i : Nat} (hi : i < 8) : xaJ (mh m h σ) 2 (m + 74) (nI i) = some (gB σ 110 i) := e_aJ (k := 110) hm rfl hi
theorem Ms110 (hm : m ≤ h.length) {i : Nat} (hi : i < 8) (v : Int64) : xsJ (mh m h σ) 2 (m + 74) (nI i) v = some (mh m h (sB σ 110 (vp_updL (gB σ 110) i v))) := e_sJ (k := 110) hm rfl hi v
theorem Mr111 (hm : m ≤ h.length) : xgR (mh m h σ) 12 111 m = some (m + 75) := e_gR (k := 111) hm (Or.inr rfl)
theorem Ma111 (hm : m ≤ h.length) {i : Nat} (hi : i < 8) : xaJ (mh m h σ) 2 (m + 75) (nI i) = some (gB σ 111 i) := e_aJ (k := 111) hm rfl hi
theorem Ms111 (hm : m ≤ h.length) {i : Nat} (hi : i < 8) (v : Int64) : xsJ (mh m h σ) 2 (m + 75) (nI i) v = some (mh m h (sB σ 111 (vp_updL (gB σ 111) i v))) := e_sJ (k := 111) hm rfl hi v
theorem Mr112 (hm : m ≤ h.length) : xgR (mh m h σ) 12 112 m = some (m + 76) := e_gR (k := 112) hm (Or.inr rfl)
theorem Ma112 (hm : m ≤ h.length) {i : Nat} (hi : i < 8) : xaJ (mh m h σ) 2 (m + 76) (nI i) = some (gB σ 112 i) := e_aJ (k := 112) hm rfl hi
theorem Ms112 (hm : m ≤ h.length) {i : Nat} (hi : i < 8) (v : Int64) : xsJ (mh m h σ) 2 (m + 76) (nI i) v = some (mh m h (sB σ 112 (vp_updL (gB σ 112) i v))) := e_sJ (k := 112) hm rfl hi v
theorem Mr113 (hm : m ≤ h.length) : xgR (mh m h σ) 12 113 m = some (m + 77) := e_gR (k := 113) hm (Or.inr rfl)
theorem Ma113 (hm : m ≤ h.length) {i : Nat} (hi : i < 8) : xaJ (mh m h σ) 2 (m + 77) (nI i) = some (gB σ 113 i) := e_aJ (k := 113) hm rfl hi
theorem Ms113 (hm : m ≤ h.length) {i : Nat} (hi : i < 8) (v : Int64) : xsJ (mh m h σ) 2 (m + 77) (nI i) v = some (mh m h (sB σ 113 (vp_updL (gB σ 113) i v))) := e_sJ (k := 113) hm rfl hi v
theorem Mr114 (hm : m ≤ h.length) : xgR (mh m h σ) 12 114 m = some (m + 78) := e_gR (k := 114) hm (Or.inr rfl)
theorem Ma114 (hm : m ≤ h.length) {i : Nat} (hi : i < 8) : xaJ (mh m h σ) 2 (m + 78) (nI i) = some (gB σ 114 i) := e_aJ (k := 114) hm rfl hi
theorem Ms114 (hm : m ≤ h.length) {i : Nat} (hi : i < 8) (v : Int64) : xsJ (mh m h σ) 2 (m + 78) (nI i) v = some (mh m h (sB σ 114 (vp_updL (gB σ 114) i v))) := e_sJ (k := 114) hm rfl hi v
theorem Mg115 (hm : m ≤ h.length) : xgI (mh m h σ) 12 115 m = some (gI σ 115) := e_gI hm rfl
theorem Mp115 (hm : m ≤ h.length) (v : Int32) : xpI (mh m h σ) 12 115 m v = some (mh m h (sI σ 115 v)) := e_pI hm rfl v
theorem Mr116 (hm : m ≤ h.length) : xgR (mh m h σ) 12 116 m = some (m + 79) := e_gR (k := 116) hm (Or.inl rfl)
theorem Ma116 (hm : m ≤ h.length) {i : Nat} (hi : i < 6) : xaI (mh m h σ) 0 (m + 79) (nI i) = some (gA σ 116 i) := e_aI (k := 116) hm rfl hi
theorem Ms116 (hm : m ≤ h.length) {i : Nat} (hi : i < 6) (v : Int32) : xsI (mh m h σ) 0 (m + 79) (nI i) v = some (mh m h (sA σ 116 (upd (gA σ 116) i v))) := e_sI (k := 116) hm rfl hi v
theorem Mr117 (hm : m ≤ h.length) : xgR (mh m h σ) 12 117 m = some (m + 80) := e_gR (k := 117) hm (Or.inl rfl)
theorem Ma117 (hm : m ≤ h.length) {i : Nat} (hi : i < 1536) : xaI (mh m h σ) 1 (m + 80) (nI i) = some (gA σ 117 i) := e_aI (k := 117) hm rfl hi
theorem Ms117 (hm : m ≤ h.length) {i : Nat} (hi : i < 1536) (v : Int32) : xsI (mh m h σ) 1 (m + 80) (nI i) v = some (mh m h (sA σ 117 (upd (gA σ 117) i v))) := e_sI (k := 117) hm rfl hi v
theorem Mr118 (hm : m ≤ h.length) : xgR (mh m h σ) 12 118 m = some (m + 81) := e_gR (k := 118) hm (Or.inl rfl)
theorem Ma118 (hm : m ≤ h.length) {i : Nat} (hi : i < 4096) : xaI (mh m h σ) 1 (m + 81) (nI i) = some (gA σ 118 i) := e_aI (k := 118) hm rfl hi
theorem Ms118 (hm : m ≤ h.length) {i : Nat} (hi : i < 4096) (v : Int32) : xsI (mh m h σ) 1 (m + 81) (nI i) v = some (mh m h (sA σ 118 (upd (gA σ 118) i v))) := e_sI (k := 118) hm rfl hi v
theorem Mr119 (hm : m ≤ h.length) : xgR (mh m h σ) 12 119 m = some (m + 82) := e_gR (k := 119) hm (Or.inl rfl)
theorem Ma119 (hm : m ≤ h.length) {i : Nat} (hi : i < 4096) : xaI (mh m h σ) 1 (m + 82) (nI i) = some (gA σ 119 i) := e_aI (k := 119) hm rfl hi
theorem Ms119 (hm : m ≤ h.length) {i : Nat} (hi : i < 4096) (v : Int32) : xsI (mh m h σ) 1 (m + 82) (nI i) v = some (mh m h (sA σ 119 (upd (gA σ 119) i v))) := e_sI (k := 119) hm rfl hi v
theorem Mr120 (hm : m ≤ h.length) : xgR (mh m h σ) 12 120 m = some (m + 83) := e_gR (k := 120) hm (Or.inl rfl)
theorem Ma120 (hm : m ≤ h.length) {i : Nat} (hi : i < 24) : xaI (mh m h σ) 1 (m + 83) (nI i) = some (gA σ 120 i) := e_aI (k := 120) hm rfl hi
theorem Ms120 (hm : m ≤ h.length) {i : Nat} (hi : i < 24) (v : Int32) : xsI (mh m h σ) 1 (m + 83) (nI i) v = some (mh m h (sA σ 120 (upd (gA σ 120) i v))) := e_sI (k := 120) hm rfl hi v
theorem Mr121 (hm : m ≤ h.length) : xgR (mh m h σ) 12 121 m = some (m + 84) := e_gR (k := 121) hm (Or.inl rfl)
theorem Ma121 (hm : m ≤ h.length) {i : Nat} (hi : i < 24) : xaI (mh m h σ) 1 (m + 84) (nI i) = some (gA σ 121 i) := e_aI (k := 121) hm rfl hi
theorem Ms121 (hm : m ≤ h.length) {i : Nat} (hi : i < 24) (v : Int32) : xsI (mh m h σ) 1 (m + 84) (nI i) v = some (mh m h (sA σ 121 (upd (gA σ 121) i v))) := e_sI (k := 121) hm rfl hi v
theorem Mr122 (hm : m ≤ h.length) : xgR (mh m h σ) 12 122 m = some (m + 85) := e_gR (k := 122) hm (Or.inl rfl)
theorem Ma122 (hm : m ≤ h.length) {i : Nat} (hi : i < 64) : xaI (mh m h σ) 1 (m + 85) (nI i) = some (gA σ 122 i) := e_aI (k := 122) hm rfl hi
theorem Ms122 (hm : m ≤ h.length) {i : Nat} (hi : i < 64) (v : Int32) : xsI (mh m h σ) 1 (m + 85) (nI i) v = some (mh m h (sA σ 122 (upd (gA σ 122) i v))) := e_sI (k := 122) hm rfl hi v
theorem Mg123 (hm : m ≤ h.length) : xgI (mh m h σ) 12 123 m = some (gI σ 123) := e_gI hm rfl
theorem Mp123 (hm : m ≤ h.length) (v : Int32) : xpI (mh m h σ) 12 123 m v = some (mh m h (sI σ 123 v)) := e_pI hm rfl v
theorem Mg124 (hm : m ≤ h.length) : xgI (mh m h σ) 12 124 m = some (gI σ 124) := e_gI hm rfl
theorem Mp124 (hm : m ≤ h.length) (v : Int32) : xpI (mh m h σ) 12 124 m v = some (mh m h (sI σ 124 v)) := e_pI hm rfl v
theorem Mg125 (hm : m ≤ h.length) : xgI (mh m h σ) 12 125 m = some (gI σ 125) := e_gI hm rfl
theorem Mp125 (hm : m ≤ h.length) (v : Int32) : xpI (mh m h σ) 12 125 m v = some (mh m h (sI σ 125 v)) := e_pI hm rfl v
theorem Mg126 (hm : m ≤ h.length) : xgI (mh m h σ) 12 126 m = some (gI σ 126) := e_gI hm rfl
theorem Mp126 (hm : m ≤ h.length) (v : Int32) : xpI (mh m h σ) 12 126 m v = some (mh m h (sI σ 126 v)) := e_pI hm rfl v
theorem Mz126 (hm : m ≤ h.length) (c : Bool) : xpZ (mh m h σ) 12 126 m (bI c) = some (mh m h (sI σ 126 (bI c))) := e_pZ hm rfl c
theorem Mg127 (hm : m ≤ h.length) : xgI (mh m h σ) 12 127 m = some (gI σ 127) := e_gI hm rfl
theorem Mp127 (hm : m ≤ h.length) (v : Int32) : xpI (mh m h σ) 12 127 m v = some (mh m h (sI σ 127 v)) := e_pI hm rfl v
theorem Mr128 (hm : m ≤ h.length) : xgR (mh m h σ) 12 128 m = some (m + 86) := e_gR (k := 128) hm (Or.inl rfl)
theorem Ma128 (hm : m ≤ h.length) {i : Nat} (hi : i < 64) : xaI (mh m h σ) 1 (m + 86) (nI i) = some (gA σ 128 i) := e_aI (k := 128) hm rfl hi
theorem Ms128 (hm : m ≤ h.length) {i : Nat} (hi : i < 64) (v : Int32) : xsI (mh m h σ) 1 (m + 86) (nI i) v = some (mh m h (sA σ 128 (upd (gA σ 128) i v))) := e_sI (k := 128) hm rfl hi v
theorem Mr129 (hm : m ≤ h.length) : xgR (mh m h σ) 12 129 m = some (m + 87) := e_gR (k := 129) hm (Or.inl rfl)
theorem Ma129 (hm : m ≤ h.length) {i : Nat} (hi : i < 64) : xaI (mh m h σ) 1 (m + 87) (nI i) = some (gA σ 129 i) := e_aI (k := 129) hm rfl hi
theorem Ms129 (hm : m ≤ h.length) {i : Nat} (hi : i < 64) (v : Int32) : xsI (mh m h σ) 1 (m + 87) (nI i) v = some (mh m h (sA σ 129 (upd (gA σ 129) i v))) := e_sI (k := 129) hm rfl hi v
end MF
