/-! THE PURE MACHINE AS A FUNCTION: heap, its length, what room is left (cells, slots); fuel, depth -/
noncomputable section
abbrev px_T : Type := List (List (List (Option px_PE)))
/-- lists, as the kernel likes them -/
def px_ix {α : Type} (l : List α) : Nat → Option α := List.rec (motive := fun _ => Nat → Option α) (fun _ => none) (fun h _ ih k => Nat.rec (motive := fun _ => Option α) (some h) (fun n _ => ih n) k) l
def px_lset {α : Type} (l : List α) : Nat → α → List α := List.rec (motive := fun _ => Nat → α → List α) (fun _ _ => []) (fun h t ih k v => Nat.rec (motive := fun _ => List α) (v :: t) (fun n _ => h :: ih n v) k) l
def px_gd {α : Type} (l : List α) (k : Nat) (d : α) : α := match px_ix l k with
  | some x => x
  | none => d
def px_tg (t : px_T) (k : Nat) : Option px_PE := px_gd (px_gd (px_gd t (k / 256) []) (k / 16 % 16) []) (k % 16) none
def px_tin (t : px_T) (k : Nat) : Bool := match px_ix (px_gd (px_gd t (k / 256) []) (k / 16 % 16) []) (k % 16) with
  | some _ => true
  | none => false
def px_ts (t : px_T) (k : Nat) (e : px_PE) : px_T := px_lset t (k / 256) (px_lset (px_gd t (k / 256) []) (k / 16 % 16) (px_lset (px_gd (px_gd t (k / 256) []) (k / 16 % 16) []) (k % 16) (some e)))
def px_t0 : px_T := List.replicate 16 (List.replicate 16 (List.replicate 16 none))
abbrev px_Sz : Type := px_T × Nat × Nat × Nat
abbrev px_Cd : Type := List (Nat × Instr × Nat × Nat × Nat)
def px_seek (t : Nat) : px_Cd → px_Cd
  | [] => []
  | q :: r => if Nat.beq q.1 t then q :: r else px_seek t r
def pm_fitB (ty : FieldType) (v : Value) : Bool := match ty, v with
  | .int, .int _ => true
  | .long, .long _ => true
  | .boolean, .int x => x == 0 || x == 1
  | .byte, .int x => decide (-128 ≤ x) && (decide (x ≤ 127) && decide (x.toInt8.toInt32 = x))
  | .object _, .ref _ => true
  | .object _, .null => true
  | .object _, .retAddr _ => true
  | .array _, .ref _ => true
  | .array _, .null => true
  | .array _, .retAddr _ => true
  | _, _ => false
def px_isRet (i : Instr) (rt : Option FieldType) (v : Value) : Bool := match i, rt, v with
  | .ireturn, some .int, .int _ => true
  | .ireturn, some .boolean, .int x => x == 0 || x == 1
  | .lreturn, some .long, .long _ => true
  | .areturn, some (.object _), v => Nat.beq (pm_kd v) 2
  | .areturn, some (.array _), v => Nat.beq (pm_kd v) 2
  | _, _, _ => false
/-- a conditional jump: does it jump, and what is left on the stack; (target needed) -/
def px_br (i : Instr) (st : List Value) : Option (Bool × Int × List Value) := match i with
  | .ifCond c off => match st with
    | .int x :: r => match c with
      | .eq => some (decide (x = 0), off, r)
      | .ne => some (decide (¬ x = 0), off, r)
      | .lt => some (decide (x < 0), off, r)
      | .ge => some (decide (0 ≤ x), off, r)
      | .gt => some (decide (0 < x), off, r)
      | .le => some (decide (x ≤ 0), off, r)
    | _ => none
  | .if_icmp c off => match st with
    | .int y :: .int x :: r => match c with
      | .eq => some (decide (x = y), off, r)
      | .ne => some (decide (¬ x = y), off, r)
      | .lt => some (decide (x < y), off, r)
      | .ge => some (decide (y ≤ x), off, r)
      | .gt => some (decide (y < x), off, r)
      | .le => some (decide (x ≤ y), off, r)
    | _ => none
  | .ifnull off => match st with
    | .null :: r => some (true, off, r)
    | .ref _ :: r => some (false, off, r)
    | .retAddr _ :: r => some (false, off, r)
    | _ => none
  | .ifnonnull off => match st with
    | .null :: r => some (false, off, r)
    | .ref _ :: r => some (true, off, r)
    | .retAddr _ :: r => some (true, off, r)
    | _ => none
  | .goto off => some (true, off, st)
  | _ => none
def px_inB (i : Int32) (n : Nat) : Bool := !(decide (i < 0) || Nat.ble n i.toNatClampNeg)
/-- what an array holds at i -/
def px_ald (i : Instr) (ph : px_T) (a : Nat) (ix : Int32) : Option Value := match px_tg ph a with
  | some (.inl (t, n, f)) => if px_inB ix n then (match i, f with
    | .iaload, .inl f => if Nat.beq t 1 then some (.int (f ix.toNatClampNeg)) else none
    | .baload, .inl f => if Nat.beq t 0 || Nat.beq t 3 then some (.int (f ix.toNatClampNeg)) else none
    | .laload, .inr (.inl f) => if Nat.beq t 2 then some (.long (f ix.toNatClampNeg)) else none
    | .aaload, .inr (.inr (.inr (.inr f))) => if Nat.ble 4 t && Nat.blt t 7 then some (va_rf (f ix.toNatClampNeg)) else none
    | _, _ => none) else none
  | _ => none
def px_cld (i : Instr) (j : Nat) (ix : Int32) : Option Value := if Nat.blt 0 j && Nat.blt j pg_nc then (if px_inB ix (pg_ctv (j - 1)).2.1 then (match i, (pg_ctv (j - 1)).1 with
    | .iaload, .int => some (.int ((pg_ctv (j - 1)).2.2 ix.toNatClampNeg))
    | .baload, .byte => some (.int ((pg_ctv (j - 1)).2.2 ix.toNatClampNeg))
    | _, _ => none) else none) else none
def px_ast (i : Instr) (ph : px_T) (a : Nat) (ix : Int32) (v : Value) : Option px_PE := match px_tg ph a with
  | some (.inl (t, n, f)) => if px_inB ix n then (match i, f, v with
    | .iastore, .inl f, .int x => if Nat.beq t 1 then some (.inl (t, n, .inl (upd f ix.toNatClampNeg x))) else none
    | .bastore, .inl f, .int x => if Nat.beq t 0 then some (.inl (t, n, .inl (upd f ix.toNatClampNeg x.toInt8.toInt32))) else if Nat.beq t 3 then some (.inl (t, n, .inl (upd f ix.toNatClampNeg (x &&& 1)))) else none
    | .lastore, .inr (.inl f), .long x => if Nat.beq t 2 then some (.inl (t, n, .inr (.inl (vp_updL f ix.toNatClampNeg x)))) else none
    | .aastore, .inr (.inr (.inr (.inr f))), .null => if Nat.ble 4 t && Nat.blt t 7 then some (.inl (t, n, .inr (.inr (.inr (.inr (va_up f ix.toNatClampNeg none)))))) else none
    | .aastore, .inr (.inr (.inr (.inr f))), .ref w => (match px_tg ph w with
      | some (.inr (ci, _)) => if Nat.blt ci 16 && (Nat.ble 4 t && Nat.blt t 7 && decide (pg_ty[t]? = some (.object (pg_cn ci)))) then some (.inl (t, n, .inr (.inr (.inr (.inr (va_up f ix.toNatClampNeg (some w))))))) else none
      | _ => none)
    | _, _, _ => none) else none
  | _ => none
def px_sumc (st : List Value) : Nat := (st.map fun v => v.category).sum
/-- calls of the few library methods -/
def px_spec (s : Nat) (st : List Value) : Option (List Value) := match s with
  | 9001 => match st with
    | .int y :: .int x :: r => some (.int (if x < y then y else x) :: r)
    | _ => none
  | 9002 => match st with
    | .int y :: .int x :: r => some (.int (if y < x then y else x) :: r)
    | _ => none
  | 9003 => match st with
    | .long y :: .long x :: r => some (.long (if y < x then x else y) :: r)
    | _ => none
  | 9004 => match st with
    | .long y :: .long x :: r => some (.long (if y < x then y else x) :: r)
    | _ => none
  | _ => none
def px_acp (st : List Value) (z : px_Sz) : Option (List Value × px_Sz) := match st with
  | .int n :: .int dp :: .ref a1 :: .int sp :: .ref a0 :: r => match px_tg z.1 a0, px_tg z.1 a1 with
    | some (.inl (0, n0, .inl f)), some (.inl (0, n1, .inl f1)) => if decide (¬ sp < 0) && (decide (¬ dp < 0) && (decide (¬ n < 0) && (Nat.ble (sp.toNatClampNeg + n.toNatClampNeg) n0 && (Nat.ble (dp.toNatClampNeg + n.toNatClampNeg) n1 && (List.range n.toNatClampNeg).all (fun i => fits .byte (.int (f (sp.toNatClampNeg + i)))))))) then some (r, (px_ts z.1 a1 (.inl (0, n1, .inl (va_cpy f f1 sp.toNatClampNeg dp.toNatClampNeg n.toNatClampNeg))), z.2)) else none
    | _, _ => none
  | _ => none
def px_str9 (s : Nat) (st : List Value) : Option (List Value) := match s with
  | 9007 => match st with
    | .retAddr j :: r => if Nat.ble pg_nc j && Nat.blt 0 (pg_kbl (j - pg_nc)).length then some (.int (nI (pg_kbl (j - pg_nc)).length) :: r) else none
    | _ => none
  | 9008 => match st with
    | .int x :: .retAddr j :: r => if Nat.ble pg_nc j && (decide (¬ x < 0) && Nat.blt x.toNatClampNeg (pg_kbl (j - pg_nc)).length) && Nat.blt (pg_kbl (j - pg_nc)).length 2147483648 then some (.int (pg_kch (j - pg_nc) x.toNatClampNeg) :: r) else none
    | _ => none
  | _ => none
def px_exc (i3 : Nat) : Nat := if Nat.beq i3 117 then 13 else if Nat.beq i3 128 then 14 else if Nat.beq i3 236 then 15 else 0
/-- new, dup, ldc, invokespecial, athrow -/
def px_thr (mi pc r1 : Nat) (cs : px_Cd) (st : List Value) (z : px_Sz) : Option px_Sz := match cs with
  | (p1, .dup, q1, _, _) :: (p2, .ldc i2, q2, r3, _) :: (p3, .invokespecial i3, q3, _, _) :: (p4, .athrow, q4, _, _) :: _ =>
    if Nat.beq p1 (pc + 3) && Nat.beq q1 (pc + 4) && Nat.beq p2 (pc + 4) && Nat.beq q2 (pc + 6) && Nat.beq p3 (pc + 6) && Nat.beq q3 (pc + 9) && Nat.beq p4 (pc + 9) && Nat.beq q4 (pc + 10) && Nat.beq (px_exc i3) r1 && Nat.ble 13 r1 && Nat.beq (pg_oc mi) 0 && Nat.blt mi 382 && Nat.blt 0 z.2.2.1 && px_tin z.1 z.2.1 && Nat.ble 6 z.2.2.2 && Nat.ble (px_sumc st) 8 then (match pg_ksl[r3]? with
      | some q => if decide (q.1 = (pg_mn mi).cls) && Nat.beq q.2.1 i2 then some (px_ts z.1 z.2.1 (.inr (r1, [])), z.2.1 + 1, z.2.2.1 - 1, z.2.2.2 - 6) else none
      | none => none) else none
  | _ => none
/-- a step within a method: (true: a jump), next place, locals, stack, heap -/
abbrev px_Nx : Type := Option (Bool × Nat × px_L × List Value × px_Sz)
def px_q1 (i : Instr) (pc nx : Nat) (lv : px_L) (st : List Value) (z : px_Sz) : px_Nx := match pm_ld i with
  | some (len, n, kd) => match px_ix lv n with
    | some v => if Nat.beq (pm_kd v) kd && Nat.beq (pc + len) nx then some (false, nx, lv, v :: st, z) else none
    | none => none
  | none => none
def px_q2 (ml : Nat) (i : Instr) (pc nx : Nat) (lv : px_L) (st : List Value) (z : px_Sz) : px_Nx := match pm_st i with
  | some (len, n, kd) => match st with
    | v :: st' => if Nat.beq (pm_kd v) kd && (Nat.ble (n + v.category) ml && (px_ok1 lv n && Nat.beq (pc + len) nx)) then some (false, nx, pm_set lv n v, st', z) else none
    | [] => none
  | none => none
def px_q3 (i : Instr) (pc nx : Nat) (lv : px_L) (st : List Value) (z : px_Sz) : px_Nx := match pm_alu i st with
  | some (len, st') => if Nat.beq (pc + len) nx then some (false, nx, lv, st', z) else none
  | none => none
def px_q4 (i : Instr) (pc nx r1 : Nat) (lv : px_L) (st : List Value) (z : px_Sz) : px_Nx := match px_br i st with
  | some (j, off, st') => if Nat.beq (pc + 3) nx && decide ((pc : Int) + off = (r1 : Int)) then some (j, if j then r1 else nx, lv, st', z) else none
  | none => none
def px_q5 (ml : Nat) (i : Instr) (pc nx : Nat) (lv : px_L) (st : List Value) (z : px_Sz) : px_Nx := match i with
  | .iinc n w => match px_ix lv n with
    | some (.int x) => if Nat.ble (n + 1) ml && (px_ok1 lv n && Nat.beq (pc + 3) nx) then some (false, nx, lv.set n (.int (x + Int32.ofInt w)), st, z) else none
    | _ => none
  | _ => none
def px_q6 (i : Instr) (pc nx r1 r2 : Nat) (lv : px_L) (st : List Value) (z : px_Sz) : px_Nx := match i with
  | .getfield _ => match st with
    | .ref a :: st' => match px_tg z.1 a with
      | some (.inr (ci, fs)) => if Nat.beq ci r1 && Nat.beq (pc + 3) nx then (match px_ix fs r2 with
        | some v => some (false, nx, lv, v :: st', z)
        | none => none) else none
      | _ => none
    | _ => none
  | _ => none
def px_q7 (i : Instr) (pc nx r1 r2 : Nat) (lv : px_L) (st : List Value) (z : px_Sz) : px_Nx := match i with
  | .putfield _ => match st with
    | v :: .ref a :: st' => match px_tg z.1 a with
      | some (.inr (ci, fs)) => match px_ix fs r2 with
        | some _ => if Nat.beq ci r1 && (pm_fitB (pg_ftp ci r2) v && Nat.beq (pc + 3) nx) then some (false, nx, lv, st', (px_ts z.1 a (.inr (ci, px_lset fs r2 v)), z.2)) else none
        | none => none
      | _ => none
    | _ => none
  | _ => none
def px_q8 (i : Instr) (pc nx : Nat) (lv : px_L) (st : List Value) (z : px_Sz) : px_Nx := match i with
  | .arraylength => match st with
    | .ref a :: st' => match px_tg z.1 a with
      | some (.inl (t, x)) => if Nat.blt t 7 && Nat.beq (pc + 1) nx then some (false, nx, lv, .int (nI x.1) :: st', z) else none
      | _ => none
    | .retAddr j :: st' => if Nat.blt 0 j && (Nat.blt j pg_nc && Nat.beq (pc + 1) nx) then some (false, nx, lv, .int (nI (pg_ctv (j - 1)).2.1) :: st', z) else none
    | _ => none
  | _ => none
def px_isAl : Instr → Bool
  | .iaload => true
  | .baload => true
  | .laload => true
  | .aaload => true
  | _ => false
def px_isAs : Instr → Bool
  | .iastore => true
  | .bastore => true
  | .lastore => true
  | .aastore => true
  | _ => false
def px_q9 (i : Instr) (pc nx : Nat) (lv : px_L) (st : List Value) (z : px_Sz) : px_Nx := if px_isAl i then (match st with
  | .int ix :: .ref a :: st' => match px_ald i z.1 a ix with
    | some v => if Nat.beq (pc + 1) nx then some (false, nx, lv, v :: st', z) else none
    | none => none
  | .int ix :: .retAddr j :: st' => match px_cld i j ix with
    | some v => if Nat.beq (pc + 1) nx then some (false, nx, lv, v :: st', z) else none
    | none => none
  | _ => none) else none
def px_q10 (i : Instr) (pc nx : Nat) (lv : px_L) (st : List Value) (z : px_Sz) : px_Nx := if px_isAs i then (match st with
  | v :: .int ix :: .ref a :: st' => match px_ast i z.1 a ix v with
    | some e => if Nat.beq (pc + 1) nx then some (false, nx, lv, st', (px_ts z.1 a e, z.2)) else none
    | none => none
  | _ => none) else none
def px_q11 (i : Instr) (pc nx r1 : Nat) (lv : px_L) (st : List Value) (z : px_Sz) : px_Nx := match i with
  | .new _ => if Nat.blt r1 13 && (Nat.blt 0 z.2.2.1 && (px_tin z.1 z.2.1 && (Nat.ble (pg_in r1) z.2.2.2 && Nat.beq (pc + 3) nx))) then some (false, nx, lv, .ref z.2.1 :: st, (px_ts z.1 z.2.1 (.inr (r1, px_nf r1 (pg_nf r1))), z.2.1 + 1, z.2.2.1 - 1, z.2.2.2 - pg_in r1)) else none
  | _ => none
/-- the kind of an array that newarray makes -/
def px_nat : ArrayType → Nat → Option ((Nat → Int32) ⊕ (Nat → Int64) ⊕ (Nat → UInt32) ⊕ (Nat → UInt64) ⊕ (Nat → Option Nat))
  | .byte, 0 => some (.inl (fun _ => 0))
  | .int, 1 => some (.inl (fun _ => 0))
  | .long, 2 => some (.inr (.inl (fun _ => 0)))
  | .boolean, 3 => some (.inl (fun _ => 0))
  | _, _ => none
def px_roomB (n : Int32) (z : px_Sz) : Bool := decide (¬ n < 0) && (Nat.ble n.toNatClampNeg 1000000 && (Nat.blt 0 z.2.2.1 && (px_tin z.1 z.2.1 && Nat.ble n.toNatClampNeg z.2.2.2)))
def px_q12 (i : Instr) (pc nx r1 : Nat) (lv : px_L) (st : List Value) (z : px_Sz) : px_Nx := match i with
  | .newarray at_ => match st with
    | .int n :: st' => match px_nat at_ r1 with
      | some f => if px_roomB n z && Nat.beq (pc + 2) nx then some (false, nx, lv, .ref z.2.1 :: st', (px_ts z.1 z.2.1 (.inl (r1, n.toNatClampNeg, f)), z.2.1 + 1, z.2.2.1 - 1, z.2.2.2 - n.toNatClampNeg)) else none
      | none => none
    | _ => none
  | .anewarray _ => match st with
    | .int n :: st' => if px_roomB n z && (Nat.ble 4 r1 && (Nat.blt r1 7 && Nat.beq (pc + 3) nx)) then some (false, nx, lv, .ref z.2.1 :: st', (px_ts z.1 z.2.1 (.inl (r1, n.toNatClampNeg, .inr (.inr (.inr (.inr (fun _ => none)))))), z.2.1 + 1, z.2.2.1 - 1, z.2.2.2 - n.toNatClampNeg)) else none
    | _ => none
  | _ => none
def px_q13 (mi : Nat) (i : Instr) (pc nx r1 r2 : Nat) (lv : px_L) (st : List Value) (z : px_Sz) : px_Nx := match i with
  | .getstatic _ => if Nat.beq (pc + 3) nx then some (false, nx, lv, .retAddr r1 :: st, z) else none
  | .ldc idx => if Nat.beq r2 1 then (match pg_ksl[r1]? with
    | some q => if Nat.beq (pc + 2) nx && (decide (q.1 = (pg_mn mi).cls) && Nat.beq q.2.1 idx) then some (false, nx, lv, .retAddr (pg_nc + r1) :: st, z) else none
    | none => none) else if Nat.beq (pc + 2) nx then (match pg_ki[r1]? with
    | some v => some (false, nx, lv, .int v :: st, z)
    | none => none) else none
  | .ldc_w _ => if Nat.beq (pc + 3) nx && !(Nat.beq r2 1) then (match pg_ki[r1]? with
    | some v => some (false, nx, lv, .int v :: st, z)
    | none => none) else none
  | .ldc2_w _ => if Nat.beq (pc + 3) nx then (match pg_kl[r1]? with
    | some v => some (false, nx, lv, .long v :: st, z)
    | none => none) else none
  | _ => none
def px_q14 (i : Instr) (pc nx : Nat) (lv : px_L) (st : List Value) (z : px_Sz) : px_Nx := match i with
  | .idiv => match st with
    | .int y :: .int x :: r => if decide (¬ y = 0) && Nat.beq (pc + 1) nx then some (false, nx, lv, .int (x / y) :: r, z) else none
    | _ => none
  | .irem => match st with
    | .int y :: .int x :: r => if decide (¬ y = 0) && Nat.beq (pc + 1) nx then some (false, nx, lv, .int (x - x / y * y) :: r, z) else none
    | _ => none
  | .ldiv => match st with
    | .long y :: .long x :: r => if decide (¬ y = 0) && Nat.beq (pc + 1) nx then some (false, nx, lv, .long (x / y) :: r, z) else none
    | _ => none
  | .lrem => match st with
    | .long y :: .long x :: r => if decide (¬ y = 0) && Nat.beq (pc + 1) nx then some (false, nx, lv, .long (x - x / y * y) :: r, z) else none
    | _ => none
  | _ => none
def px_q15 (i : Instr) (pc nx : Nat) (lv : px_L) (st : List Value) (z : px_Sz) : px_Nx := match i with
  | .tableswitch df lo hi offs => match st with
    | .int x :: r => if Nat.ble pc nx then (if decide (x.toInt < lo) || decide (hi < x.toInt) then (if decide (0 ≤ (pc : Int) + df) then some (true, ((pc : Int) + df).toNat, lv, r, z) else none) else (match offs[(x.toInt - lo).toNat]? with
      | some off => if decide (0 ≤ (pc : Int) + off) then some (true, ((pc : Int) + off).toNat, lv, r, z) else none
      | none => none)) else none
    | _ => none
  | _ => none
/-- two loops, a turn of which is one step here (1: Link's parts are made; 2: the reference's dropped ones are cleared) -/
def px_mk (mi pc : Nat) : Nat := match Nat.beq mi m_Link_init && Nat.beq pc 46 with
  | true => 1
  | false => match Nat.beq mi m_M_link && Nat.beq pc 72 with
    | true => 2
    | false => 0
def px_mac1 (lv : px_L) (z : px_Sz) : Option (Nat × px_L × px_Sz) := match lv with
  | [.ref a, v1, v2, v3, .ref v4, .int x] => match px_tg z.1 a with
    | some (.inr (3, fs)) => match px_ix fs 4 with
      | some (.ref b) => match px_tg z.1 b with
        | some (.inl (6, n, .inr (.inr (.inr (.inr f))))) => if decide (nI n ≤ x) then some (76, [.ref a, v1, v2, v3, .ref v4, .int x], z) else if px_inB x n && (Nat.blt 0 z.2.2.1 && (px_tin z.1 z.2.1 && Nat.ble (pg_in 8) z.2.2.2)) then some (46, [.ref a, v1, v2, v3, .ref v4, .int (x + Int32.ofInt 1)], (px_ts (px_ts z.1 z.2.1 (.inr (8, px_nf 8 (pg_nf 8)))) b (.inl (6, n, .inr (.inr (.inr (.inr (va_up f x.toNatClampNeg (some z.2.1))))))), z.2.1 + 1, z.2.2.1 - 1, z.2.2.2 - pg_in 8)) else none
        | _ => none
      | _ => none
    | _ => none
  | _ => none
def px_mac2 (lv : px_L) (z : px_Sz) : Option (Nat × px_L × px_Sz) := match lv with
  | [.ref a, .int v1, .int x] => match px_tg z.1 a with
    | some (.inr (12, fs)) => match px_ix fs 65 with
      | some (.ref b) => match px_tg z.1 b with
        | some (.inl (3, n, .inl f)) => if decide (nI 1536 ≤ x) then some (92, [.ref a, .int v1, .int x], z) else if px_inB x n then some (72, [.ref a, .int v1, .int (x + Int32.ofInt 1)], (px_ts z.1 b (.inl (3, n, .inl (upd f x.toNatClampNeg (nI 0 &&& 1)))), z.2)) else none
        | _ => none
      | _ => none
    | _ => none
  | _ => none
/-- which of these functions an instruction is for (0: none) -/
def px_kn (i : Instr) : Nat := Nat.mod (Nat.shiftRight 15207851727432169947792968093227015930581810911500665762954641456433142649727635765627034701423110445404238686706776696651135811756577855881645239875850249742059833429869688066985 (Nat.mul 4 i.ctorIdx)) 16
def px_one (mi ml : Nat) (i : Instr) (pc nx r1 r2 : Nat) (lv : px_L) (st : List Value) (z : px_Sz) : px_Nx :=
  match Nat.ble (px_kn i) 3 with
  | true => match Nat.ble (px_kn i) 1 with
    | true => match Nat.beq (px_kn i) 0 with
      | true => none
      | false => match Nat.beq (px_mk mi pc) 0 with
        | true => px_q1 i pc nx lv st z
        | false => none
    | false => match Nat.beq (px_kn i) 2 with
      | true => px_q2 ml i pc nx lv st z
      | false => px_q3 i pc nx lv st z
  | false => match Nat.ble (px_kn i) 6 with
    | true => match Nat.beq (px_kn i) 6 with
      | true => px_q6 i pc nx r1 r2 lv st z
      | false => match Nat.beq (px_kn i) 4 with
        | true => px_q4 i pc nx r1 lv st z
        | false => px_q5 ml i pc nx lv st z
    | false => match Nat.ble (px_kn i) 10 with
      | true => match Nat.ble (px_kn i) 8 with
        | true => match Nat.beq (px_kn i) 7 with
          | true => px_q7 i pc nx r1 r2 lv st z
          | false => px_q8 i pc nx lv st z
        | false => match Nat.beq (px_kn i) 9 with
          | true => px_q9 i pc nx lv st z
          | false => px_q10 i pc nx lv st z
      | false => match Nat.ble (px_kn i) 12 with
        | true => match Nat.beq (px_kn i) 11 with
          | true => px_q11 i pc nx r1 lv st z
          | false => px_q12 i pc nx r1 lv st z
        | false => match Nat.beq (px_kn i) 13 with
          | true => px_q13 mi i pc nx r1 r2 lv st z
          | false => match Nat.beq (px_kn i) 14 with
            | true => px_q14 i pc nx lv st z
            | false => px_q15 i pc nx lv st z
def px_nxt (cs : px_Cd) (nx : Nat) : px_Cd := match cs with
  | q :: _ => if Nat.beq q.1 nx then cs else []
  | [] => []
/-- a return, a call, a throw; what comes then is ex's -/
def px_sx (ex : Nat → Nat → Nat → px_Cd → px_L → List Value → px_Sz → Option ((Option Value ⊕ Nat) × px_Sz)) (k mi ml pc : Nat) (i : Instr) (nx r1 : Nat) (cs : px_Cd) (lv : px_L) (st : List Value) (z : px_Sz) : Option ((Option Value ⊕ Nat) × px_Sz) := match i with
  | .ireturn | .lreturn | .areturn => match st with
    | [v] => if px_isRet i (pg_rt mi) v && Nat.beq (pc + 1) nx then some (.inl (some v), z) else none
    | _ => none
  | .return_ => match st, pg_rt mi with
    | [], none => if Nat.beq (pc + 1) nx then some (.inl none, z) else none
    | _, _ => none
  | .invokestatic idx => match k with
    | 0 => none
    | k' + 1 => if Nat.beq (pc + 3) nx then
        (if Nat.blt r1 382 || (Nat.blt r1 (382 + 16) && (pg_mk (pg_oc mi)).any (fun z => z.1 == idx && z.2.1 == r1)) then (let np := pg_np r1; let As := (st.take np).reverse; let st' := st.drop np; let ml' := pg_ml r1;
          if Nat.beq As.length np && (Nat.ble (lg_sl As).length ml' && Nat.ble (px_sumc st') 8) then (match ex k' r1 ml' (pg_L r1) (px_en As ml') [] z with
            | some (.inl r, z') => ex k mi ml (px_nxt cs nx) lv (r.toList ++ st') z'
            | _ => none) else none)
        else if Nat.beq r1 9005 then (match px_acp st z with
          | some (st', z') => if Nat.ble (px_sumc st') 8 then ex k mi ml (px_nxt cs nx) lv st' z' else none
          | none => none)
        else match px_spec r1 st with
          | some st' => if Nat.ble (px_sumc (st'.drop 1)) 8 then ex k mi ml (px_nxt cs nx) lv st' z else none
          | none => none) else none
  | .new _ => match px_thr mi pc r1 cs st z with
    | some z' => if Nat.beq (pc + 3) nx && Nat.ble 6 k then some (.inr z.2.1, z') else none
    | none => none
  | .invokevirtual idx => match k with
    | 0 => none
    | k' + 1 => if !(Nat.blt r1 382) then (match px_str9 r1 st with
        | some st' => if Nat.beq (pc + 3) nx && Nat.ble (px_sumc (st'.drop 1)) 8 && Nat.ble 5 k then ex k mi ml (px_nxt cs nx) lv st' z else none
        | none => none)
      else if Nat.beq (pc + 3) nx then
        (let np := pg_np r1; let As := (st.take np).reverse; let ml' := pg_ml r1;
          match st.drop np with
          | .ref a :: st' => (match px_tg z.1 a with
            | some (.inr (ci, _)) => if Nat.beq ci (pg_oc r1) && (Nat.blt ci 16 && (Nat.beq As.length np && (Nat.ble (lg_sl (.ref a :: As)).length ml' && Nat.ble (px_sumc st') 8))) then (match ex k' r1 ml' (pg_L r1) (px_en (.ref a :: As) ml') [] z with
              | some (.inl r, z') => ex k mi ml (px_nxt cs nx) lv (r.toList ++ st') z'
              | some (.inr x, z') => if Nat.beq (pg_oc mi) 16 && (pg_mk (pg_oc mi)).any (fun z => z.1 == idx && z.2.1 == r1) then (match px_tg z'.1 x with
                | some (.inr (ce, [])) => (match px_hs pc ce (pg_xt mi) with
                  | some hpc => if Nat.ble 13 ce && Nat.blt ce 16 then ex k mi ml (px_seek hpc (pg_L mi)) lv [.ref x] z' else none
                  | none => none)
                | _ => none) else none
              | _ => none) else none
            | _ => none)
          | _ => none) else none
  | .invokespecial _ => match k with
    | 0 => none
    | k' + 1 => if Nat.beq (pc + 3) nx then
        (if Nat.beq r1 9006 then (match st with
          | .ref _ :: st' => if Nat.ble (px_sumc st') 8 then ex k mi ml (px_nxt cs nx) lv st' z else none
          | _ => none)
        else if Nat.blt r1 382 then (let np := pg_np r1; let As := (st.take np).reverse; let ml' := pg_ml r1;
          match st.drop np with
          | .ref a :: st' => if Nat.beq As.length np && (Nat.ble (lg_sl (.ref a :: As)).length ml' && Nat.ble (px_sumc st') 8) then (match ex k' r1 ml' (pg_L r1) (px_en (.ref a :: As) ml') [] z with
              | some (.inl r, z') => ex k mi ml (px_nxt cs nx) lv (r.toList ++ st') z'
              | _ => none) else none
          | _ => none) else none) else none
  | _ => none
def px_sy (ex : Nat → Nat → Nat → px_Cd → px_L → List Value → px_Sz → Option ((Option Value ⊕ Nat) × px_Sz)) (k mi ml pc : Nat) (i : Instr) (nx r1 : Nat) (cs : px_Cd) (lv : px_L) (st : List Value) (z : px_Sz) : Option ((Option Value ⊕ Nat) × px_Sz) := match px_mk mi pc with
  | 1 => match k, st with
    | _ + 2, [] => match px_mac1 lv z with
      | some (pc', lv', z') => ex k mi ml (px_seek pc' (pg_L mi)) lv' [] z'
      | none => none
    | _, _ => none
  | 2 => match st with
    | [] => match px_mac2 lv z with
      | some (pc', lv', z') => ex k mi ml (px_seek pc' (pg_L mi)) lv' [] z'
      | none => none
    | _ => none
  | _ => px_sx ex k mi ml pc i nx r1 cs lv st z
/-- fuel, depth, method, its locals' number, the code from here on, locals, stack, heap -/
def px_ex : Nat → Nat → Nat → Nat → px_Cd → px_L → List Value → px_Sz → Option ((Option Value ⊕ Nat) × px_Sz)
  | 0, _, _, _, _, _, _, _ => none
  | _, _, _, _, [], _, _, _ => none
  | n + 1, k, mi, ml, (pc, i, nx, r1, r2) :: cs, lv, st, z =>
    match px_one mi ml i pc nx r1 r2 lv st z with
    | some (j, pc', lv', st', z') => px_ex n k mi ml (if j then px_seek pc' (pg_L mi) else px_nxt cs pc') lv' st' z'
    | none => px_sy (px_ex n) k mi ml pc i nx r1 cs lv st z
def px_z0 : px_Sz := (px_ts px_t0 0 (.inr (0, px_nf 0 (pg_nf 0))), 1, 600000, 7200000)
end
