/-! THE PURE MACHINE AS A FUNCTION: heap, its length, what room is left (cells, slots); fuel, depth -/
abbrev px_Sz : Type := px_H × Nat × Nat × Nat
abbrev px_Cd : Type := List (Nat × Instr × Nat × Nat × Nat)
def px_seek (t : Nat) : px_Cd → px_Cd
  | [] => []
  | q :: r => if Nat.beq q.1 t then q :: r else px_seek t r
def pm_fitB (ty : FieldType) (v : Value) : Bool := match ty, v with
  | .int, .int _ => true
  | .long, .long _ => true
  | .boolean, .int x => x == 0 || x == 1
  | .byte, .int x => decide (-128 ≤ x) && (decide (x ≤ 127) && decide (x.toInt8.toInt32 = x))
  | .object _, .ref _ => true
  | .object _, .null => true
  | .object _, .retAddr _ => true
  | .array _, .ref _ => true
  | .array _, .null => true
  | .array _, .retAddr _ => true
  | _, _ => false
def px_isRet (rt : Option FieldType) (v : Value) : Bool := match rt, v with
  | some .int, .int _ => true
  | some .boolean, .int x => x == 0 || x == 1
  | some .long, .long _ => true
  | some (.object _), v => Nat.beq (pm_kd v) 2
  | some (.array _), v => Nat.beq (pm_kd v) 2
  | _, _ => false
/-- a conditional jump: does it jump, and what is left on the stack; (target needed) -/
def px_br (i : Instr) (st : List Value) : Option (Bool × Int × List Value) := match i with
  | .ifCond c off => match st with
    | .int x :: r => match c with
      | .eq => some (decide (x = 0), off, r)
      | .ne => some (decide (¬ x = 0), off, r)
      | .lt => some (decide (x < 0), off, r)
      | .ge => some (decide (0 ≤ x), off, r)
      | .gt => some (decide (0 < x), off, r)
      | .le => some (decide (x ≤ 0), off, r)
    | _ => none
  | .if_icmp c off => match st with
    | .int y :: .int x :: r => match c with
      | .eq => some (decide (x = y), off, r)
      | .ne => some (decide (¬ x = y), off, r)
      | .lt => some (decide (x < y), off, r)
      | .ge => some (decide (y ≤ x), off, r)
      | .gt => some (decide (y < x), off, r)
      | .le => some (decide (x ≤ y), off, r)
    | _ => none
  | .ifnull off => match st with
    | .null :: r => some (true, off, r)
    | .ref _ :: r => some (false, off, r)
    | .retAddr _ :: r => some (false, off, r)
    | _ => none
  | .ifnonnull off => match st with
    | .null :: r => some (false, off, r)
    | .ref _ :: r => some (true, off, r)
    | .retAddr _ :: r => some (true, off, r)
    | _ => none
  | .goto off => some (true, off, st)
  | _ => none
def px_inB (i : Int32) (n : Nat) : Bool := !(decide (i < 0) || Nat.ble n i.toNatClampNeg)
/-- what an array holds at i -/
def px_ald (i : Instr) (ph : px_H) (a : Nat) (ix : Int32) : Option Value := match ph[a]? with
  | some (.inl (t, n, f)) => if px_inB ix n then (match i, f with
    | .iaload, .inl f => if Nat.beq t 1 then some (.int (f ix.toNatClampNeg)) else none
    | .baload, .inl f => if Nat.beq t 0 || Nat.beq t 3 then some (.int (f ix.toNatClampNeg)) else none
    | .laload, .inr (.inl f) => if Nat.beq t 2 then some (.long (f ix.toNatClampNeg)) else none
    | .aaload, .inr (.inr (.inr (.inr f))) => if Nat.ble 4 t && Nat.blt t 7 then some (va_rf (f ix.toNatClampNeg)) else none
    | _, _ => none) else none
  | _ => none
def px_cld (i : Instr) (j : Nat) (ix : Int32) : Option Value := if Nat.blt 0 j && Nat.blt j pg_nc then (if px_inB ix (pg_ctv (j - 1)).2.1 then (match i, (pg_ctv (j - 1)).1 with
    | .iaload, .int => some (.int ((pg_ctv (j - 1)).2.2 ix.toNatClampNeg))
    | .baload, .byte => some (.int ((pg_ctv (j - 1)).2.2 ix.toNatClampNeg))
    | _, _ => none) else none) else none
def px_ast (i : Instr) (ph : px_H) (a : Nat) (ix : Int32) (v : Value) : Option px_PE := match ph[a]? with
  | some (.inl (t, n, f)) => if px_inB ix n then (match i, f, v with
    | .iastore, .inl f, .int x => if Nat.beq t 1 then some (.inl (t, n, .inl (upd f ix.toNatClampNeg x))) else none
    | .bastore, .inl f, .int x => if Nat.beq t 0 then some (.inl (t, n, .inl (upd f ix.toNatClampNeg x.toInt8.toInt32))) else if Nat.beq t 3 then some (.inl (t, n, .inl (upd f ix.toNatClampNeg (x &&& 1)))) else none
    | .lastore, .inr (.inl f), .long x => if Nat.beq t 2 then some (.inl (t, n, .inr (.inl (vp_updL f ix.toNatClampNeg x)))) else none
    | .aastore, .inr (.inr (.inr (.inr f))), .null => if Nat.ble 4 t && Nat.blt t 7 then some (.inl (t, n, .inr (.inr (.inr (.inr (va_up f ix.toNatClampNeg none)))))) else none
    | .aastore, .inr (.inr (.inr (.inr f))), .ref w => (match ph[w]? with
      | some (.inr (ci, _)) => if Nat.blt ci 16 && (Nat.ble 4 t && Nat.blt t 7 && decide (pg_ty[t]? = some (.object (pg_cn ci)))) then some (.inl (t, n, .inr (.inr (.inr (.inr (va_up f ix.toNatClampNeg (some w))))))) else none
      | _ => none)
    | _, _, _ => none) else none
  | _ => none
def px_sumc (st : List Value) : Nat := (st.map fun v => v.category).sum
/-- calls of the few library methods -/
def px_spec (s : Nat) (st : List Value) : Option (List Value) := match s with
  | 9001 => match st with
    | .int y :: .int x :: r => some (.int (if x < y then y else x) :: r)
    | _ => none
  | 9002 => match st with
    | .int y :: .int x :: r => some (.int (if y < x then y else x) :: r)
    | _ => none
  | 9003 => match st with
    | .long y :: .long x :: r => some (.long (if y < x then x else y) :: r)
    | _ => none
  | 9004 => match st with
    | .long y :: .long x :: r => some (.long (if y < x then y else x) :: r)
    | _ => none
  | _ => none
/-- a step within a method: next place (true: a jump), locals, stack, heap -/
def px_one (mi ml : Nat) (i : Instr) (pc nx r1 r2 : Nat) (lv : px_L) (st : List Value) (z : px_Sz) : Option (Bool × Nat × px_L × List Value × px_Sz) :=
  match pm_ld i with
  | some (len, n, kd) => match lv[n]? with
    | some v => if Nat.beq (pm_kd v) kd && Nat.beq (pc + len) nx then some (false, nx, lv, v :: st, z) else none
    | none => none
  | none => match pm_st i with
    | some (len, n, kd) => match st with
      | v :: st' => if Nat.beq (pm_kd v) kd && (Nat.ble (n + v.category) ml && (px_ok1 lv n && Nat.beq (pc + len) nx)) then some (false, nx, pm_set lv n v, st', z) else none
      | [] => none
    | none => match pm_alu i st with
      | some (len, st') => if Nat.beq (pc + len) nx then some (false, nx, lv, st', z) else none
      | none => match px_br i st with
        | some (j, off, st') => if Nat.beq (pc + 3) nx && decide ((pc : Int) + off = (r1 : Int)) then some (j, if j then r1 else nx, lv, st', z) else none
        | none => match i with
          | .iinc n w => match lv[n]? with
            | some (.int x) => if Nat.ble (n + 1) ml && (px_ok1 lv n && Nat.beq (pc + 3) nx) then some (false, nx, lv.set n (.int (x + Int32.ofInt w)), st, z) else none
            | _ => none
          | .getfield _ => match st with
            | .ref a :: st' => match z.1[a]? with
              | some (.inr (ci, fs)) => if Nat.beq ci r1 && Nat.beq (pc + 3) nx then (match fs[r2]? with
                | some v => some (false, nx, lv, v :: st', z)
                | none => none) else none
              | _ => none
            | _ => none
          | .putfield _ => match st with
            | v :: .ref a :: st' => match z.1[a]? with
              | some (.inr (ci, fs)) => if Nat.beq ci r1 && (Nat.blt r2 fs.length && (pm_fitB (pg_ftp ci r2) v && Nat.beq (pc + 3) nx)) then some (false, nx, lv, st', (z.1.set a (.inr (ci, fs.set r2 v)), z.2)) else none
              | _ => none
            | _ => none
          | .arraylength => match st with
            | .ref a :: st' => match z.1[a]? with
              | some (.inl (t, x)) => if Nat.blt t 7 && Nat.beq (pc + 1) nx then some (false, nx, lv, .int (nI x.1) :: st', z) else none
              | _ => none
            | .retAddr j :: st' => if Nat.blt 0 j && (Nat.blt j pg_nc && Nat.beq (pc + 1) nx) then some (false, nx, lv, .int (nI (pg_ctv (j - 1)).2.1) :: st', z) else none
            | _ => none
          | .iaload | .baload | .laload | .aaload => match st with
            | .int ix :: .ref a :: st' => match px_ald i z.1 a ix with
              | some v => if Nat.beq (pc + 1) nx then some (false, nx, lv, v :: st', z) else none
              | none => none
            | .int ix :: .retAddr j :: st' => match px_cld i j ix with
              | some v => if Nat.beq (pc + 1) nx then some (false, nx, lv, v :: st', z) else none
              | none => none
            | _ => none
          | .iastore | .bastore | .lastore | .aastore => match st with
            | v :: .int ix :: .ref a :: st' => match px_ast i z.1 a ix v with
              | some e => if Nat.beq (pc + 1) nx then some (false, nx, lv, st', (z.1.set a e, z.2)) else none
              | none => none
            | _ => none
          | .new _ => if Nat.blt r1 13 && (Nat.blt 0 z.2.2.1 && (Nat.ble (pg_in r1) z.2.2.2 && Nat.beq (pc + 3) nx)) then some (false, nx, lv, .ref z.2.1 :: st, (z.1 ++ [.inr (r1, px_nf r1 (pg_nf r1))], z.2.1 + 1, z.2.2.1 - 1, z.2.2.2 - pg_in r1)) else none
          | .newarray at_ => match st with
            | .int n :: st' => if decide (¬ n < 0) && (Nat.ble n.toNatClampNeg 1000000 && (Nat.blt 0 z.2.2.1 && (Nat.ble n.toNatClampNeg z.2.2.2 && Nat.beq (pc + 2) nx))) then (match at_, r1 with
              | .byte, 0 => some (false, nx, lv, .ref z.2.1 :: st', (z.1 ++ [.inl (0, n.toNatClampNeg, .inl (fun _ => 0))], z.2.1 + 1, z.2.2.1 - 1, z.2.2.2 - n.toNatClampNeg))
              | .int, 1 => some (false, nx, lv, .ref z.2.1 :: st', (z.1 ++ [.inl (1, n.toNatClampNeg, .inl (fun _ => 0))], z.2.1 + 1, z.2.2.1 - 1, z.2.2.2 - n.toNatClampNeg))
              | .long, 2 => some (false, nx, lv, .ref z.2.1 :: st', (z.1 ++ [.inl (2, n.toNatClampNeg, .inr (.inl (fun _ => 0)))], z.2.1 + 1, z.2.2.1 - 1, z.2.2.2 - n.toNatClampNeg))
              | .boolean, 3 => some (false, nx, lv, .ref z.2.1 :: st', (z.1 ++ [.inl (3, n.toNatClampNeg, .inl (fun _ => 0))], z.2.1 + 1, z.2.2.1 - 1, z.2.2.2 - n.toNatClampNeg))
              | _, _ => none) else none
            | _ => none
          | .anewarray _ => match st with
            | .int n :: st' => if decide (¬ n < 0) && (Nat.ble n.toNatClampNeg 1000000 && (Nat.blt 0 z.2.2.1 && (Nat.ble n.toNatClampNeg z.2.2.2 && (Nat.ble 4 r1 && (Nat.blt r1 7 && Nat.beq (pc + 3) nx))))) then some (false, nx, lv, .ref z.2.1 :: st', (z.1 ++ [.inl (r1, n.toNatClampNeg, .inr (.inr (.inr (.inr (fun _ => none)))))], z.2.1 + 1, z.2.2.1 - 1, z.2.2.2 - n.toNatClampNeg)) else none
            | _ => none
          | .getstatic _ => if Nat.beq (pc + 3) nx then some (false, nx, lv, .retAddr r1 :: st, z) else none
          | .ldc _ => if Nat.beq (pc + 2) nx && !(Nat.beq r2 1) then (match pg_ki[r1]? with
            | some v => some (false, nx, lv, .int v :: st, z)
            | none => none) else none
          | .ldc_w _ => if Nat.beq (pc + 3) nx && !(Nat.beq r2 1) then (match pg_ki[r1]? with
            | some v => some (false, nx, lv, .int v :: st, z)
            | none => none) else none
          | .ldc2_w _ => if Nat.beq (pc + 3) nx then (match pg_kl[r1]? with
            | some v => some (false, nx, lv, .long v :: st, z)
            | none => none) else none
          | .idiv => match st with
            | .int y :: .int x :: r => if decide (¬ y = 0) && Nat.beq (pc + 1) nx then some (false, nx, lv, .int (x / y) :: r, z) else none
            | _ => none
          | .irem => match st with
            | .int y :: .int x :: r => if decide (¬ y = 0) && Nat.beq (pc + 1) nx then some (false, nx, lv, .int (x - x / y * y) :: r, z) else none
            | _ => none
          | .ldiv => match st with
            | .long y :: .long x :: r => if decide (¬ y = 0) && Nat.beq (pc + 1) nx then some (false, nx, lv, .long (x / y) :: r, z) else none
            | _ => none
          | .lrem => match st with
            | .long y :: .long x :: r => if decide (¬ y = 0) && Nat.beq (pc + 1) nx then some (false, nx, lv, .long (x - x / y * y) :: r, z) else none
            | _ => none
          | _ => none
/-- fuel, depth, method, its locals' number, the code from here on, locals, stack, heap -/
def px_ex : Nat → Nat → Nat → Nat → px_Cd → px_L → List Value → px_Sz → Option ((Option Value ⊕ Nat) × px_Sz)
  | 0, _, _, _, _, _, _, _ => none
  | _, _, _, _, [], _, _, _ => none
  | n + 1, k, mi, ml, (pc, i, nx, r1, r2) :: cs, lv, st, z =>
    match px_one mi ml i pc nx r1 r2 lv st z with
    | some (j, pc', lv', st', z') => px_ex n k mi ml (if j then px_seek pc' (pg_L mi) else match cs with
      | q :: _ => if Nat.beq q.1 pc' then cs else []
      | [] => []) lv' st' z'
    | none => match i with
      | .ireturn | .lreturn | .areturn => match st with
        | [v] => if px_isRet (pg_rt mi) v && Nat.beq (pc + 1) nx then some (.inl (some v), z) else none
        | _ => none
      | .return_ => match st, pg_rt mi with
        | [], none => if Nat.beq (pc + 1) nx then some (.inl none, z) else none
        | _, _ => none
      | .invokestatic _ => match k with
        | 0 => none
        | k' + 1 => if Nat.beq (pc + 3) nx then
            (if Nat.blt r1 382 then (let np := pg_np r1; let As := (st.take np).reverse; let st' := st.drop np; let ml' := pg_ml r1;
              if Nat.beq As.length np && (Nat.ble (lg_sl As).length ml' && Nat.ble (px_sumc st') 8) then (match px_ex n k' r1 ml' (pg_L r1) (px_en As ml') [] z with
                | some (.inl r, z') => px_ex n k mi ml (match cs with
                  | q :: _ => if Nat.beq q.1 nx then cs else []
                  | [] => []) lv (r.toList ++ st') z'
                | _ => none) else none)
            else match px_spec r1 st with
              | some st' => if Nat.ble (px_sumc (st'.drop 1)) 8 then px_ex n k mi ml (match cs with
                  | q :: _ => if Nat.beq q.1 nx then cs else []
                  | [] => []) lv st' z else none
              | none => none) else none
      | .invokevirtual _ => match k with
        | 0 => none
        | k' + 1 => if Nat.beq (pc + 3) nx && Nat.blt r1 382 then
            (let np := pg_np r1; let As := (st.take np).reverse; let ml' := pg_ml r1;
              match st.drop np with
              | .ref a :: st' => (match z.1[a]? with
                | some (.inr (ci, _)) => if Nat.beq ci (pg_oc r1) && (Nat.blt ci 16 && (Nat.beq As.length np && (Nat.ble (lg_sl (.ref a :: As)).length ml' && Nat.ble (px_sumc st') 8))) then (match px_ex n k' r1 ml' (pg_L r1) (px_en (.ref a :: As) ml') [] z with
                  | some (.inl r, z') => px_ex n k mi ml (match cs with
                    | q :: _ => if Nat.beq q.1 nx then cs else []
                    | [] => []) lv (r.toList ++ st') z'
                  | _ => none) else none
                | _ => none)
              | _ => none) else none
      | .invokespecial _ => match k with
        | 0 => none
        | k' + 1 => if Nat.beq (pc + 3) nx then
            (if Nat.beq r1 9006 then (match st with
              | .ref _ :: st' => if Nat.ble (px_sumc st') 8 then px_ex n k mi ml (match cs with
                  | q :: _ => if Nat.beq q.1 nx then cs else []
                  | [] => []) lv st' z else none
              | _ => none)
            else if Nat.blt r1 382 then (let np := pg_np r1; let As := (st.take np).reverse; let ml' := pg_ml r1;
              match st.drop np with
              | .ref a :: st' => if Nat.beq As.length np && (Nat.ble (lg_sl (.ref a :: As)).length ml' && Nat.ble (px_sumc st') 8) then (match px_ex n k' r1 ml' (pg_L r1) (px_en (.ref a :: As) ml') [] z with
                  | some (.inl r, z') => px_ex n k mi ml (match cs with
                    | q :: _ => if Nat.beq q.1 nx then cs else []
                    | [] => []) lv (r.toList ++ st') z'
                  | _ => none) else none
              | _ => none) else none) else none
      | _ => none
def px_z0 : px_Sz := ([.inr (0, px_nf 0 (pg_nf 0))], 1, 601000, 7290000)
