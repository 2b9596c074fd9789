/-! the constant tables: types and contents -/
def pg_ctl : List (FieldType × List Int32) := [(.byte, [33, 60, 97, 114, 99, 104, 62, 10]), (.int, [5, 4, 6]), (.byte, [127, 69, 76, 70, 2, 1, 1]), (.int, [0, 1, 4, 5, 2, 3]), (.int, [0, 1, 2, 2, 2, 2]), (.int, [6, 2, 3])]
def pg_ctv (j : Nat) : FieldType × Nat × (Nat → Int32) := ((pg_ctl.getD j (.int, [])).1, (pg_ctl.getD j (.int, [])).2.length, fun i => (pg_ctl.getD j (.int, [])).2.getD i 0)
def pg_slx : List Nat := [1692, 1469, 1442, 1021, 1371, 2025]
def pg_srx : List Nat := [1827, 1838, 1853, 1976, 1990, 1992, 2001, 2009, 2053, 2084, 2114, 2130, 2139, 2147, 2155, 365, 949, 954, 955, 956, 2074, 1120, 1243, 1244]
def pg_aox : List Nat := [71, 160, 282]
def pg_inh : Nat := 1
