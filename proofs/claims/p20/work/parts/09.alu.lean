/-! instructions that touch neither heap nor locals -/
def pm_alu (i : Instr) (st : List Value) : Option (Nat × List Value) := match i with
  | .iconst n => match n with
    | .ofNat k => some (1, .int (nI k) :: st)
    | .negSucc k => some (1, .int (Int32.ofInt (.negSucc k)) :: st)
  | .bipush n => match n with
    | .ofNat k => if Nat.blt k 128 = true then some (2, .int (nI k) :: st) else none
    | .negSucc k => some (2, .int (Int8.ofInt (.negSucc k)).toInt32 :: st)
  | .sipush n => match n with
    | .ofNat k => if Nat.blt k 32768 = true then some (3, .int (nI k) :: st) else none
    | .negSucc k => some (3, .int (Int16.ofInt (.negSucc k)).toInt32 :: st)
  | .lconst n => some (1, .long (Int64.ofNat (n : Nat)) :: st)
  | .aconst_null => some (1, .null :: st)
  | .iadd => match st with
    | .int y :: .int x :: r => some (1, .int (x + y) :: r)
    | _ => none
  | .isub => match st with
    | .int y :: .int x :: r => some (1, .int (x - y) :: r)
    | _ => none
  | .imul => match st with
    | .int y :: .int x :: r => some (1, .int (x * y) :: r)
    | _ => none
  | .iand => match st with
    | .int y :: .int x :: r => some (1, .int (x &&& y) :: r)
    | _ => none
  | .ior => match st with
    | .int y :: .int x :: r => some (1, .int (x ||| y) :: r)
    | _ => none
  | .ixor => match st with
    | .int y :: .int x :: r => some (1, .int (x ^^^ y) :: r)
    | _ => none
  | .ishl => match st with
    | .int y :: .int x :: r => some (1, .int (x <<< (y &&& 31)) :: r)
    | _ => none
  | .ishr => match st with
    | .int y :: .int x :: r => some (1, .int (x >>> (y &&& 31)) :: r)
    | _ => none
  | .iushr => match st with
    | .int y :: .int x :: r => some (1, .int ((x.toUInt32 >>> (y.toUInt32 &&& Int32.toUInt32 31)).toInt32) :: r)
    | _ => none
  | .ladd => match st with
    | .long y :: .long x :: r => some (1, .long (x + y) :: r)
    | _ => none
  | .lsub => match st with
    | .long y :: .long x :: r => some (1, .long (x - y) :: r)
    | _ => none
  | .lmul => match st with
    | .long y :: .long x :: r => some (1, .long (x * y) :: r)
    | _ => none
  | .land => match st with
    | .long y :: .long x :: r => some (1, .long (x &&& y) :: r)
    | _ => none
  | .lor => match st with
    | .long y :: .long x :: r => some (1, .long (x ||| y) :: r)
    | _ => none
  | .lxor => match st with
    | .long y :: .long x :: r => some (1, .long (x ^^^ y) :: r)
    | _ => none
  | .lshl => match st with
    | .int y :: .long x :: r => some (1, .long (x <<< (y.toInt64 &&& 63)) :: r)
    | _ => none
  | .lshr => match st with
    | .int y :: .long x :: r => some (1, .long (x >>> (y.toInt64 &&& 63)) :: r)
    | _ => none
  | .lushr => match st with
    | .int y :: .long x :: r => some (1, .long ((x.toUInt64 >>> (y.toInt64.toUInt64 &&& Int64.toUInt64 63)).toInt64) :: r)
    | _ => none
  | .ineg => match st with
    | .int x :: r => some (1, .int (-x) :: r)
    | _ => none
  | .i2l => match st with
    | .int x :: r => some (1, .long x.toInt64 :: r)
    | _ => none
  | .i2b => match st with
    | .int x :: r => some (1, .int x.toInt8.toInt32 :: r)
    | _ => none
  | .i2c => match st with
    | .int x :: r => some (1, .int (x.toUInt32 % 65536).toInt32 :: r)
    | _ => none
  | .lneg => match st with
    | .long x :: r => some (1, .long (-x) :: r)
    | _ => none
  | .l2i => match st with
    | .long x :: r => some (1, .int x.toInt32 :: r)
    | _ => none
  | .lcmp => match st with
    | .long y :: .long x :: r => some (1, .int (lg_cmp x y) :: r)
    | _ => none
  | .dup => match st with
    | v :: r => if v.category = 1 then some (1, v :: v :: r) else none
    | _ => none
  | .pop => match st with
    | v :: r => if v.category = 1 then some (1, r) else none
    | _ => none
  | .dup2 => match st with
    | v :: w :: r => if v.category = 1 ∧ w.category = 1 then some (1, v :: w :: v :: w :: r) else none
    | _ => none
  | .dup_x1 => match st with
    | v :: w :: r => if v.category = 1 ∧ w.category = 1 then some (1, v :: w :: v :: r) else none
    | _ => none
  | _ => none
theorem k_ic (k : Nat) : Int32.ofInt (Int.ofNat k) = nI k := by
  apply Int32.toBitVec_inj.mp
  first | rfl | simp [nI] | (simp [nI]; rfl)
theorem k_bi {k : Nat} (h : k < 128) : (Int8.ofInt (Int.ofNat k)).toInt32 = nI k := by
  have h1 : ∀ k, k < 128 → (Int8.ofInt (Int.ofNat k)).toInt32 = nI k := by decide +kernel
  exact h1 k h
theorem k_si {k : Nat} (h : k < 32768) : (Int16.ofInt (Int.ofNat k)).toInt32 = nI k := by
  apply Int32.toInt_inj.mp
  rw [Int16.toInt_toInt32, nI_toInt (by omega)]
  first
    | exact Int16.toInt_ofInt_of_le (by omega) (by omega)
    | (rw [Int16.toInt_ofInt_of_le] <;> first | rfl | omega)
    | (simp [Int16.toInt_ofInt, Int.bmod]; omega)
section PXALU
variable {l : Launch} {g : px_G} {d mi pc : Nat} {lv : px_L} {st st' : List Value} {ph : px_H} {Q : px_Q} {i : Instr} {len nx r1 r2 : Nat}
set_option maxHeartbeats 2000000 in
theorem px_alu (hcd : pg_cd mi pc = some (i, nx, r1, r2)) (ha : pm_alu i st = some (len, st')) (hp : pc + len = nx) (k : PW l g d mi nx lv st' ph Q) : PW l g d mi pc lv st ph Q := by
  subst hp
  intro p e R s m args below meth c H locs cells slots ls B1 B2 hC hR hS hl h1 h2 h3 h4 h5 h6
  have kk := k p e R s m args below meth c H locs cells slots ls B1 B2 hC hR hS hl h1 h2 h3 h4 h5 h6
  have hd := pg_dec hcd
  have hx := hC.1
  have hb := hC.2.1
  unfold pm_alu at ha
  split at ha
  next n =>
    split at ha
    next k => cases ha; exact lv_iconst hx hb hd (k_ic _) kk
    next k => cases ha; exact lv_iconst hx hb hd rfl kk
  next n =>
    split at ha
    next k =>
      split at ha
      next hk => cases ha; exact lv_bipush hx hb hd (k_bi (Nat.le_of_ble_eq_true hk)) kk
      next => cases ha
    next k => cases ha; exact lv_bipush hx hb hd rfl kk
  next n =>
    split at ha
    next k =>
      split at ha
      next hk => cases ha; exact lv_sipush hx hb hd (k_si (Nat.le_of_ble_eq_true hk)) kk
      next => cases ha
    next k => cases ha; exact lv_sipush hx hb hd rfl kk
  next n => cases ha; exact lv_lconst hx hb hd rfl kk
  next => cases ha; exact lv_null hx hb hd kk
  next =>
    split at ha
    next => cases ha; exact lv_iadd hx hb hd kk
    next => cases ha
  next =>
    split at ha
    next => cases ha; exact lv_isub hx hb hd kk
    next => cases ha
  next =>
    split at ha
    next => cases ha; exact lv_imul hx hb hd kk
    next => cases ha
  next =>
    split at ha
    next => cases ha; exact lv_iand hx hb hd kk
    next => cases ha
  next =>
    split at ha
    next => cases ha; exact lv_ior hx hb hd kk
    next => cases ha
  next =>
    split at ha
    next => cases ha; exact lv_ixor hx hb hd kk
    next => cases ha
  next =>
    split at ha
    next => cases ha; exact lv_ishl hx hb hd kk
    next => cases ha
  next =>
    split at ha
    next => cases ha; exact lv_ishr hx hb hd kk
    next => cases ha
  next =>
    split at ha
    next => cases ha; exact lv_iushr hx hb hd rfl kk
    next => cases ha
  next =>
    split at ha
    next => cases ha; exact lv_ladd hx hb hd kk
    next => cases ha
  next =>
    split at ha
    next => cases ha; exact lv_lsub hx hb hd kk
    next => cases ha
  next =>
    split at ha
    next => cases ha; exact lv_lmul hx hb hd kk
    next => cases ha
  next =>
    split at ha
    next => cases ha; exact lv_land hx hb hd kk
    next => cases ha
  next =>
    split at ha
    next => cases ha; exact lv_lor hx hb hd kk
    next => cases ha
  next =>
    split at ha
    next => cases ha; exact lv_lxor hx hb hd kk
    next => cases ha
  next =>
    split at ha
    next => cases ha; exact lv_lshl hx hb hd rfl kk
    next => cases ha
  next =>
    split at ha
    next => cases ha; exact lv_lshr hx hb hd rfl kk
    next => cases ha
  next =>
    split at ha
    next => cases ha; exact lv_lushr hx hb hd rfl kk
    next => cases ha
  next =>
    split at ha
    next => cases ha; exact lv_ineg hx hb hd kk
    next => cases ha
  next =>
    split at ha
    next => cases ha; exact lv_i2l hx hb hd rfl kk
    next => cases ha
  next =>
    split at ha
    next => cases ha; exact lv_i2b hx hb hd rfl kk
    next => cases ha
  next =>
    split at ha
    next => cases ha; exact lv_i2c hx hb hd rfl kk
    next => cases ha
  next =>
    split at ha
    next => cases ha; exact lv_lneg hx hb hd kk
    next => cases ha
  next =>
    split at ha
    next => cases ha; exact lv_l2i hx hb hd rfl kk
    next => cases ha
  next =>
    split at ha
    next => cases ha; exact W.lcmp hx hb hd kk
    next => cases ha
  next =>
    split at ha
    next =>
      split at ha
      next hc => cases ha; exact lv_dup hx hb hd (by rw [px_cat]; exact hc) kk
      next => cases ha
    next => cases ha
  next =>
    split at ha
    next =>
      split at ha
      next hc => cases ha; exact lv_pop hx hb hd (by rw [px_cat]; exact hc) kk
      next => cases ha
    next => cases ha
  next =>
    split at ha
    next =>
      split at ha
      next hc => cases ha; exact lv_dup2_11 hx hb hd (by rw [px_cat]; exact hc.1) (by rw [px_cat]; exact hc.2) kk
      next => cases ha
    next => cases ha
  next =>
    split at ha
    next =>
      split at ha
      next hc => cases ha; exact lv_dup_x1 hx hb hd (by rw [px_cat]; exact hc.1) (by rw [px_cat]; exact hc.2) kk
      next => cases ha
    next => cases ha
  next => cases ha
theorem px_idiv {x y : Int32} {r : List Value} (hcd : pg_cd mi pc = some (.idiv, nx, r1, r2)) (hy : ¬ y = 0) (hp : pc + 1 = nx) (k : PW l g d mi nx lv (.int (x / y) :: r) ph Q) : PW l g d mi pc lv (.int y :: .int x :: r) ph Q := by
  subst hp
  intro p e R s m args below meth c H locs cells slots ls B1 B2 hC hR hS hl h1 h2 h3 h4 h5 h6
  exact lv_idiv hC.1 hC.2.1 (pg_dec hcd) hy (k p e R s m args below meth c H locs cells slots ls B1 B2 hC hR hS hl h1 h2 h3 h4 h5 h6)
theorem px_irem {x y : Int32} {r : List Value} (hcd : pg_cd mi pc = some (.irem, nx, r1, r2)) (hy : ¬ y = 0) (hp : pc + 1 = nx) (k : PW l g d mi nx lv (.int (x - x / y * y) :: r) ph Q) : PW l g d mi pc lv (.int y :: .int x :: r) ph Q := by
  subst hp
  intro p e R s m args below meth c H locs cells slots ls B1 B2 hC hR hS hl h1 h2 h3 h4 h5 h6
  exact lv_irem hC.1 hC.2.1 (pg_dec hcd) hy (k p e R s m args below meth c H locs cells slots ls B1 B2 hC hR hS hl h1 h2 h3 h4 h5 h6)
theorem px_ldiv {x y : Int64} {r : List Value} (hcd : pg_cd mi pc = some (.ldiv, nx, r1, r2)) (hy : ¬ y = 0) (hp : pc + 1 = nx) (k : PW l g d mi nx lv (.long (x / y) :: r) ph Q) : PW l g d mi pc lv (.long y :: .long x :: r) ph Q := by
  subst hp
  intro p e R s m args below meth c H locs cells slots ls B1 B2 hC hR hS hl h1 h2 h3 h4 h5 h6
  exact lv_ldiv hC.1 hC.2.1 (pg_dec hcd) hy (k p e R s m args below meth c H locs cells slots ls B1 B2 hC hR hS hl h1 h2 h3 h4 h5 h6)
theorem px_lrem {x y : Int64} {r : List Value} (hcd : pg_cd mi pc = some (.lrem, nx, r1, r2)) (hy : ¬ y = 0) (hp : pc + 1 = nx) (k : PW l g d mi nx lv (.long (x - x / y * y) :: r) ph Q) : PW l g d mi pc lv (.long y :: .long x :: r) ph Q := by
  subst hp
  intro p e R s m args below meth c H locs cells slots ls B1 B2 hC hR hS hl h1 h2 h3 h4 h5 h6
  exact lv_lrem hC.1 hC.2.1 (pg_dec hcd) hy (k p e R s m args below meth c H locs cells slots ls B1 B2 hC hR hS hl h1 h2 h3 h4 h5 h6)
-- loads: of a local (length of the instruction, place, kind of value)
def pm_ld (i : Instr) : Option (Nat × Nat × Nat) := match i with
  | .iload k => some (2, k, 0)
  | .iload_n k => some (1, (k : Nat), 0)
  | .lload k => some (2, k, 1)
  | .lload_n k => some (1, (k : Nat), 1)
  | .aload k => some (2, k, 2)
  | .aload_n k => some (1, (k : Nat), 2)
  | _ => none
def pm_kd : Value → Nat
  | .int _ => 0
  | .long _ => 1
  | .ref _ => 2
  | .null => 2
  | .retAddr _ => 2
  | _ => 3
theorem px_ld {n kd : Nat} {v : Value} (hcd : pg_cd mi pc = some (i, nx, r1, r2)) (hi : pm_ld i = some (len, n, kd)) (hv : lv[n]? = some v) (hk : pm_kd v = kd) (hp : pc + len = nx) (k : PW l g d mi nx lv (v :: st) ph Q) : PW l g d mi pc lv st ph Q := by
  subst hp
  intro p e R s m args below meth c H locs cells slots ls B1 B2 hC hR hS hl h1 h2 h3 h4 h5 h6
  have kk := k p e R s m args below meth c H locs cells slots ls B1 B2 hC hR hS hl h1 h2 h3 h4 h5 h6
  have hd := pg_dec hcd
  have hx := hC.1
  have hb := hC.2.1
  unfold pm_ld at hi
  split at hi <;> cases hi
  · cases v <;> first | (cases hk; done) | exact lv_iload hx hb hd (px_at hl hv rfl) kk
  · cases v <;> first | (cases hk; done) | exact lv_iload_n hx hb hd rfl (px_at hl hv rfl) kk
  · cases v <;> first | (cases hk; done) | exact lv_lload hx hb hd (px_at hl hv rfl) kk
  · cases v <;> first | (cases hk; done) | exact lv_lload_n hx hb hd rfl (px_at hl hv rfl) kk
  · cases v <;> first | (cases hk; done) | exact lv_aload hx hb hd (px_at hl hv rfl) kk | exact lv_aloadN hx hb hd (px_at hl hv rfl) kk
  · cases v <;> first | (cases hk; done) | exact lv_aload_n hx hb hd rfl (px_at hl hv rfl) kk | exact lv_aload_nN hx hb hd rfl (px_at hl hv rfl) kk
def pm_st (i : Instr) : Option (Nat × Nat × Nat) := match i with
  | .istore k => some (2, k, 0)
  | .istore_n k => some (1, (k : Nat), 0)
  | .lstore k => some (2, k, 1)
  | .lstore_n k => some (1, (k : Nat), 1)
  | .astore k => some (2, k, 2)
  | .astore_n k => some (1, (k : Nat), 2)
  | _ => none
def pm_set (lv : px_L) (i : Nat) (v : Value) : px_L := match v with
  | .long x => (lv.set i (.long x)).set (i + 1) px_u
  | v => lv.set i v
theorem px_st {n kd : Nat} {v : Value} {lv' : px_L} (hcd : pg_cd mi pc = some (i, nx, r1, r2)) (hi : pm_st i = some (len, n, kd)) (hk : pm_kd v = kd) (hn : Nat.ble (n + v.category) (pg_ml mi) = true) (ho : px_ok1 lv n = true) (hl' : pm_set lv n v = lv') (hp : pc + len = nx) (k : PW l g d mi nx lv' st ph Q) : PW l g d mi pc lv (v :: st) ph Q := by
  subst hp
  intro p e R s m args below meth c H locs cells slots ls B1 B2 hC hR hS hl h1 h2 h3 h4 h5 h6
  subst hl'
  have kk := fun ls' hl' => k p e R s m args below meth c H locs cells slots ls' B1 B2 hC hR hS hl' h1 h2 h3 h4 h5 h6
  have hd := pg_dec hcd
  have hx := hC.1
  have hb := hC.2.1
  have hn := Nat.le_of_ble_eq_true hn
  unfold pm_st at hi
  split at hi <;> cases hi
  · cases v <;> first | (cases hk; done) | exact lv_istore hx hb hd hl hn rfl (fun ls' q => kk ls' (px_s1 (v := .int _) ho q))
  · cases v <;> first | (cases hk; done) | exact lv_istore_n hx hb hd rfl hl hn rfl (fun ls' q => kk ls' (px_s1 (v := .int _) ho q))
  · cases v <;> first | (cases hk; done) | exact lv_lstore hx hb hd hl hn rfl (fun ls' q => kk ls' (px_s2 (v := .long _) ho q))
  · cases v <;> first | (cases hk; done) | exact lv_lstore_n hx hb hd rfl hl hn rfl (fun ls' q => kk ls' (px_s2 (v := .long _) ho q))
  · cases v <;> first | (cases hk; done) | exact lv_astore hx hb hd hl hn rfl (fun ls' q => kk ls' (px_s1 (v := .ref _) ho q)) | exact lv_astore hx hb hd hl hn rfl (fun ls' q => kk ls' (px_s1 (v := .retAddr _) ho q)) | exact lv_astoreN hx hb hd hl hn rfl (fun ls' q => kk ls' (px_s1 (v := .null) ho q))
  · cases v <;> first | (cases hk; done) | exact lv_astore_n hx hb hd rfl hl hn rfl (fun ls' q => kk ls' (px_s1 (v := .ref _) ho q)) | exact lv_astore_n hx hb hd rfl hl hn rfl (fun ls' q => kk ls' (px_s1 (v := .retAddr _) ho q)) | exact lv_astore_nN hx hb hd rfl hl hn rfl (fun ls' q => kk ls' (px_s1 (v := .null) ho q))
theorem px_iinc {n : Nat} {w : Int} {x : Int32} {lv' : px_L} (hcd : pg_cd mi pc = some (.iinc n w, nx, r1, r2)) (hv : lv[n]? = some (.int x)) (hn : Nat.ble (n + 1) (pg_ml mi) = true) (ho : px_ok1 lv n = true) (hl' : lv.set n (.int (x + Int32.ofInt w)) = lv') (hp : pc + 3 = nx) (k : PW l g d mi nx lv' st ph Q) : PW l g d mi pc lv st ph Q := by
  subst hp
  intro p e R s m args below meth c H locs cells slots ls B1 B2 hC hR hS hl h1 h2 h3 h4 h5 h6
  subst hl'
  have kk := fun ls' hl' => k p e R s m args below meth c H locs cells slots ls' B1 B2 hC hR hS hl' h1 h2 h3 h4 h5 h6
  obtain ⟨j, hj⟩ := List.mem_iff_getElem?.mp (px_l_mem (g := g).mpr ⟨n, .int x, hv, rfl, rfl⟩)
  exact lv_iinc hC.1 hC.2.1 (pg_dec hcd) hl hj rfl (Nat.le_of_ble_eq_true hn) rfl (fun ls' q => kk ls' (px_s1 (v := .int (x + Int32.ofInt w)) ho q))
/-- forgetting a local -/
theorem px_forget {n : Nat} {lv' : px_L} (hl' : lv.set n px_u = lv') (k : PW l g d mi pc lv' st ph Q) : PW l g d mi pc lv st ph Q := by
  subst hl'
  intro p e R s m args below meth c H locs cells slots ls B1 B2 hC hR hS hl h1 h2 h3 h4 h5 h6
  refine k p e R s m args below meth c H locs cells slots ls B1 B2 hC hR hS ⟨hl.1, hl.2.1, fun q hq => hl.2.2 q ?_⟩ h1 h2 h3 h4 h5 h6
  obtain ⟨j, w, q1, q2, rfl⟩ := px_l_mem.mp hq
  rw [List.getElem?_set] at q1
  by_cases hij : n = j
  · subst hij
    split at q1
    next => split at q1 <;> first | (cases q1; cases q2) | cases q1
    next h7 => exact absurd rfl h7
  · rw [if_neg hij] at q1
    exact px_l_mem.mpr ⟨j, w, q1, q2, rfl⟩
-- branches: r1 is the target
theorem px_goto {off : Int} (hcd : pg_cd mi pc = some (.goto off, nx, r1, r2)) (ht : (pc : Int) + off = (r1 : Int)) (hp : pc + 3 = nx) (k : PW l g d mi r1 lv st ph Q) : PW l g d mi pc lv st ph Q := by
  subst hp
  intro p e R s m args below meth c H locs cells slots ls B1 B2 hC hR hS hl h1 h2 h3 h4 h5 h6
  exact lv_goto hC.1 hC.2.1 (pg_dec hcd) ht (k p e R s m args below meth c H locs cells slots ls B1 B2 hC hR hS hl h1 h2 h3 h4 h5 h6)
theorem px_ifeq {off : Int} {x : Int32} (hcd : pg_cd mi pc = some (.ifCond .eq off, nx, r1, r2)) (ht : (pc : Int) + off = (r1 : Int)) (hp : pc + 3 = nx) (kt : x = 0 → PW l g d mi r1 lv st ph Q) (kf : ¬ x = 0 → PW l g d mi nx lv st ph Q) : PW l g d mi pc lv (.int x :: st) ph Q := by
  subst hp
  intro p e R s m args below meth c H locs cells slots ls B1 B2 hC hR hS hl h1 h2 h3 h4 h5 h6
  exact lv_if_eq hC.1 hC.2.1 (pg_dec hcd) ht (fun q => kt q p e R s m args below meth c H locs cells slots ls B1 B2 hC hR hS hl h1 h2 h3 h4 h5 h6) (fun q => kf q p e R s m args below meth c H locs cells slots ls B1 B2 hC hR hS hl h1 h2 h3 h4 h5 h6)
theorem px_ifne {off : Int} {x : Int32} (hcd : pg_cd mi pc = some (.ifCond .ne off, nx, r1, r2)) (ht : (pc : Int) + off = (r1 : Int)) (hp : pc + 3 = nx) (kt : ¬ x = 0 → PW l g d mi r1 lv st ph Q) (kf : x = 0 → PW l g d mi nx lv st ph Q) : PW l g d mi pc lv (.int x :: st) ph Q := by
  subst hp
  intro p e R s m args below meth c H locs cells slots ls B1 B2 hC hR hS hl h1 h2 h3 h4 h5 h6
  exact lv_if_ne hC.1 hC.2.1 (pg_dec hcd) ht (fun q => kt q p e R s m args below meth c H locs cells slots ls B1 B2 hC hR hS hl h1 h2 h3 h4 h5 h6) (fun q => kf q p e R s m args below meth c H locs cells slots ls B1 B2 hC hR hS hl h1 h2 h3 h4 h5 h6)
theorem px_iflt {off : Int} {x : Int32} (hcd : pg_cd mi pc = some (.ifCond .lt off, nx, r1, r2)) (ht : (pc : Int) + off = (r1 : Int)) (hp : pc + 3 = nx) (kt : x < 0 → PW l g d mi r1 lv st ph Q) (kf : ¬ x < 0 → PW l g d mi nx lv st ph Q) : PW l g d mi pc lv (.int x :: st) ph Q := by
  subst hp
  intro p e R s m args below meth c H locs cells slots ls B1 B2 hC hR hS hl h1 h2 h3 h4 h5 h6
  exact lv_if_lt hC.1 hC.2.1 (pg_dec hcd) ht (fun q => kt q p e R s m args below meth c H locs cells slots ls B1 B2 hC hR hS hl h1 h2 h3 h4 h5 h6) (fun q => kf q p e R s m args below meth c H locs cells slots ls B1 B2 hC hR hS hl h1 h2 h3 h4 h5 h6)
theorem px_ifge {off : Int} {x : Int32} (hcd : pg_cd mi pc = some (.ifCond .ge off, nx, r1, r2)) (ht : (pc : Int) + off = (r1 : Int)) (hp : pc + 3 = nx) (kt : 0 ≤ x → PW l g d mi r1 lv st ph Q) (kf : ¬ 0 ≤ x → PW l g d mi nx lv st ph Q) : PW l g d mi pc lv (.int x :: st) ph Q := by
  subst hp
  intro p e R s m args below meth c H locs cells slots ls B1 B2 hC hR hS hl h1 h2 h3 h4 h5 h6
  exact lv_if_ge hC.1 hC.2.1 (pg_dec hcd) ht (fun q => kt q p e R s m args below meth c H locs cells slots ls B1 B2 hC hR hS hl h1 h2 h3 h4 h5 h6) (fun q => kf q p e R s m args below meth c H locs cells slots ls B1 B2 hC hR hS hl h1 h2 h3 h4 h5 h6)
theorem px_ifgt {off : Int} {x : Int32} (hcd : pg_cd mi pc = some (.ifCond .gt off, nx, r1, r2)) (ht : (pc : Int) + off = (r1 : Int)) (hp : pc + 3 = nx) (kt : 0 < x → PW l g d mi r1 lv st ph Q) (kf : ¬ 0 < x → PW l g d mi nx lv st ph Q) : PW l g d mi pc lv (.int x :: st) ph Q := by
  subst hp
  intro p e R s m args below meth c H locs cells slots ls B1 B2 hC hR hS hl h1 h2 h3 h4 h5 h6
  exact lv_if_gt hC.1 hC.2.1 (pg_dec hcd) ht (fun q => kt q p e R s m args below meth c H locs cells slots ls B1 B2 hC hR hS hl h1 h2 h3 h4 h5 h6) (fun q => kf q p e R s m args below meth c H locs cells slots ls B1 B2 hC hR hS hl h1 h2 h3 h4 h5 h6)
theorem px_ifle {off : Int} {x : Int32} (hcd : pg_cd mi pc = some (.ifCond .le off, nx, r1, r2)) (ht : (pc : Int) + off = (r1 : Int)) (hp : pc + 3 = nx) (kt : x ≤ 0 → PW l g d mi r1 lv st ph Q) (kf : ¬ x ≤ 0 → PW l g d mi nx lv st ph Q) : PW l g d mi pc lv (.int x :: st) ph Q := by
  subst hp
  intro p e R s m args below meth c H locs cells slots ls B1 B2 hC hR hS hl h1 h2 h3 h4 h5 h6
  exact lv_if_le hC.1 hC.2.1 (pg_dec hcd) ht (fun q => kt q p e R s m args below meth c H locs cells slots ls B1 B2 hC hR hS hl h1 h2 h3 h4 h5 h6) (fun q => kf q p e R s m args below meth c H locs cells slots ls B1 B2 hC hR hS hl h1 h2 h3 h4 h5 h6)
theorem px_iceq {off : Int} {x y : Int32} (hcd : pg_cd mi pc = some (.if_icmp .eq off, nx, r1, r2)) (ht : (pc : Int) + off = (r1 : Int)) (hp : pc + 3 = nx) (kt : x = y → PW l g d mi r1 lv st ph Q) (kf : ¬ x = y → PW l g d mi nx lv st ph Q) : PW l g d mi pc lv (.int y :: .int x :: st) ph Q := by
  subst hp
  intro p e R s m args below meth c H locs cells slots ls B1 B2 hC hR hS hl h1 h2 h3 h4 h5 h6
  exact lv_icmp_eq hC.1 hC.2.1 (pg_dec hcd) ht (fun q => kt q p e R s m args below meth c H locs cells slots ls B1 B2 hC hR hS hl h1 h2 h3 h4 h5 h6) (fun q => kf q p e R s m args below meth c H locs cells slots ls B1 B2 hC hR hS hl h1 h2 h3 h4 h5 h6)
theorem px_icne {off : Int} {x y : Int32} (hcd : pg_cd mi pc = some (.if_icmp .ne off, nx, r1, r2)) (ht : (pc : Int) + off = (r1 : Int)) (hp : pc + 3 = nx) (kt : ¬ x = y → PW l g d mi r1 lv st ph Q) (kf : x = y → PW l g d mi nx lv st ph Q) : PW l g d mi pc lv (.int y :: .int x :: st) ph Q := by
  subst hp
  intro p e R s m args below meth c H locs cells slots ls B1 B2 hC hR hS hl h1 h2 h3 h4 h5 h6
  exact lv_icmp_ne hC.1 hC.2.1 (pg_dec hcd) ht (fun q => kt q p e R s m args below meth c H locs cells slots ls B1 B2 hC hR hS hl h1 h2 h3 h4 h5 h6) (fun q => kf q p e R s m args below meth c H locs cells slots ls B1 B2 hC hR hS hl h1 h2 h3 h4 h5 h6)
theorem px_iclt {off : Int} {x y : Int32} (hcd : pg_cd mi pc = some (.if_icmp .lt off, nx, r1, r2)) (ht : (pc : Int) + off = (r1 : Int)) (hp : pc + 3 = nx) (kt : x < y → PW l g d mi r1 lv st ph Q) (kf : ¬ x < y → PW l g d mi nx lv st ph Q) : PW l g d mi pc lv (.int y :: .int x :: st) ph Q := by
  subst hp
  intro p e R s m args below meth c H locs cells slots ls B1 B2 hC hR hS hl h1 h2 h3 h4 h5 h6
  exact lv_icmp_lt hC.1 hC.2.1 (pg_dec hcd) ht (fun q => kt q p e R s m args below meth c H locs cells slots ls B1 B2 hC hR hS hl h1 h2 h3 h4 h5 h6) (fun q => kf q p e R s m args below meth c H locs cells slots ls B1 B2 hC hR hS hl h1 h2 h3 h4 h5 h6)
theorem px_icge {off : Int} {x y : Int32} (hcd : pg_cd mi pc = some (.if_icmp .ge off, nx, r1, r2)) (ht : (pc : Int) + off = (r1 : Int)) (hp : pc + 3 = nx) (kt : y ≤ x → PW l g d mi r1 lv st ph Q) (kf : ¬ y ≤ x → PW l g d mi nx lv st ph Q) : PW l g d mi pc lv (.int y :: .int x :: st) ph Q := by
  subst hp
  intro p e R s m args below meth c H locs cells slots ls B1 B2 hC hR hS hl h1 h2 h3 h4 h5 h6
  exact lv_icmp_ge hC.1 hC.2.1 (pg_dec hcd) ht (fun q => kt q p e R s m args below meth c H locs cells slots ls B1 B2 hC hR hS hl h1 h2 h3 h4 h5 h6) (fun q => kf q p e R s m args below meth c H locs cells slots ls B1 B2 hC hR hS hl h1 h2 h3 h4 h5 h6)
theorem px_icgt {off : Int} {x y : Int32} (hcd : pg_cd mi pc = some (.if_icmp .gt off, nx, r1, r2)) (ht : (pc : Int) + off = (r1 : Int)) (hp : pc + 3 = nx) (kt : y < x → PW l g d mi r1 lv st ph Q) (kf : ¬ y < x → PW l g d mi nx lv st ph Q) : PW l g d mi pc lv (.int y :: .int x :: st) ph Q := by
  subst hp
  intro p e R s m args below meth c H locs cells slots ls B1 B2 hC hR hS hl h1 h2 h3 h4 h5 h6
  exact lv_icmp_gt hC.1 hC.2.1 (pg_dec hcd) ht (fun q => kt q p e R s m args below meth c H locs cells slots ls B1 B2 hC hR hS hl h1 h2 h3 h4 h5 h6) (fun q => kf q p e R s m args below meth c H locs cells slots ls B1 B2 hC hR hS hl h1 h2 h3 h4 h5 h6)
theorem px_icle {off : Int} {x y : Int32} (hcd : pg_cd mi pc = some (.if_icmp .le off, nx, r1, r2)) (ht : (pc : Int) + off = (r1 : Int)) (hp : pc + 3 = nx) (kt : x ≤ y → PW l g d mi r1 lv st ph Q) (kf : ¬ x ≤ y → PW l g d mi nx lv st ph Q) : PW l g d mi pc lv (.int y :: .int x :: st) ph Q := by
  subst hp
  intro p e R s m args below meth c H locs cells slots ls B1 B2 hC hR hS hl h1 h2 h3 h4 h5 h6
  exact lv_icmp_le hC.1 hC.2.1 (pg_dec hcd) ht (fun q => kt q p e R s m args below meth c H locs cells slots ls B1 B2 hC hR hS hl h1 h2 h3 h4 h5 h6) (fun q => kf q p e R s m args below meth c H locs cells slots ls B1 B2 hC hR hS hl h1 h2 h3 h4 h5 h6)
theorem px_ifnullN {off : Int} (hcd : pg_cd mi pc = some (.ifnull off, nx, r1, r2)) (ht : (pc : Int) + off = (r1 : Int)) (hp : pc + 3 = nx) (k : PW l g d mi r1 lv st ph Q) : PW l g d mi pc lv (.null :: st) ph Q := by
  subst hp
  intro p e R s m args below meth c H locs cells slots ls B1 B2 hC hR hS hl h1 h2 h3 h4 h5 h6
  exact lv_ifnullN hC.1 hC.2.1 (pg_dec hcd) ht (k p e R s m args below meth c H locs cells slots ls B1 B2 hC hR hS hl h1 h2 h3 h4 h5 h6)
theorem px_ifnnN {off : Int} (hcd : pg_cd mi pc = some (.ifnonnull off, nx, r1, r2)) (hp : pc + 3 = nx) (k : PW l g d mi nx lv st ph Q) : PW l g d mi pc lv (.null :: st) ph Q := by
  subst hp
  intro p e R s m args below meth c H locs cells slots ls B1 B2 hC hR hS hl h1 h2 h3 h4 h5 h6
  exact lv_ifnonnullN hC.1 hC.2.1 (pg_dec hcd) (k p e R s m args below meth c H locs cells slots ls B1 B2 hC hR hS hl h1 h2 h3 h4 h5 h6)
theorem px_ifnullR {a : Nat} {off : Int} (hcd : pg_cd mi pc = some (.ifnull off, nx, r1, r2)) (hp : pc + 3 = nx) (k : PW l g d mi nx lv st ph Q) : PW l g d mi pc lv (.ref a :: st) ph Q := by
  subst hp
  intro p e R s m args below meth c H locs cells slots ls B1 B2 hC hR hS hl h1 h2 h3 h4 h5 h6
  exact lv_ifnull hC.1 hC.2.1 (pg_dec hcd) (k p e R s m args below meth c H locs cells slots ls B1 B2 hC hR hS hl h1 h2 h3 h4 h5 h6)
theorem px_ifnnR {a : Nat} {off : Int} (hcd : pg_cd mi pc = some (.ifnonnull off, nx, r1, r2)) (ht : (pc : Int) + off = (r1 : Int)) (hp : pc + 3 = nx) (k : PW l g d mi r1 lv st ph Q) : PW l g d mi pc lv (.ref a :: st) ph Q := by
  subst hp
  intro p e R s m args below meth c H locs cells slots ls B1 B2 hC hR hS hl h1 h2 h3 h4 h5 h6
  exact lv_ifnonnull hC.1 hC.2.1 (pg_dec hcd) ht (k p e R s m args below meth c H locs cells slots ls B1 B2 hC hR hS hl h1 h2 h3 h4 h5 h6)
theorem px_ifnullC {a : Nat} {off : Int} (hcd : pg_cd mi pc = some (.ifnull off, nx, r1, r2)) (hp : pc + 3 = nx) (k : PW l g d mi nx lv st ph Q) : PW l g d mi pc lv (.retAddr a :: st) ph Q := by
  subst hp
  intro p e R s m args below meth c H locs cells slots ls B1 B2 hC hR hS hl h1 h2 h3 h4 h5 h6
  exact lv_ifnull hC.1 hC.2.1 (pg_dec hcd) (k p e R s m args below meth c H locs cells slots ls B1 B2 hC hR hS hl h1 h2 h3 h4 h5 h6)
theorem px_ifnnC {a : Nat} {off : Int} (hcd : pg_cd mi pc = some (.ifnonnull off, nx, r1, r2)) (ht : (pc : Int) + off = (r1 : Int)) (hp : pc + 3 = nx) (k : PW l g d mi r1 lv st ph Q) : PW l g d mi pc lv (.retAddr a :: st) ph Q := by
  subst hp
  intro p e R s m args below meth c H locs cells slots ls B1 B2 hC hR hS hl h1 h2 h3 h4 h5 h6
  exact lv_ifnonnull hC.1 hC.2.1 (pg_dec hcd) ht (k p e R s m args below meth c H locs cells slots ls B1 B2 hC hR hS hl h1 h2 h3 h4 h5 h6)
theorem px_tsOut {dflt lo hi : Int} {offs : Array Int} {x : Int32} {tgt : Nat} (hcd : pg_cd mi pc = some (.tableswitch dflt lo hi offs, pc + len, r1, r2)) (h : x.toInt < lo ∨ hi < x.toInt) (ht : (pc : Int) + dflt = (tgt : Int)) (k : PW l g d mi tgt lv st ph Q) : PW l g d mi pc lv (.int x :: st) ph Q := by
  intro p e R s m args below meth c H locs cells slots ls B1 B2 hC hR hS hl h1 h2 h3 h4 h5 h6
  exact lv_tableOut hC.1 hC.2.1 (pg_dec hcd) h ht (k p e R s m args below meth c H locs cells slots ls B1 B2 hC hR hS hl h1 h2 h3 h4 h5 h6)
theorem px_tsIn {dflt lo hi : Int} {offs : Array Int} {x : Int32} {off : Int} {tgt : Nat} (hcd : pg_cd mi pc = some (.tableswitch dflt lo hi offs, pc + len, r1, r2)) (h7 : ¬ x.toInt < lo) (h8 : ¬ hi < x.toInt) (ho : offs[(x.toInt - lo).toNat]? = some off) (ht : (pc : Int) + off = (tgt : Int)) (k : PW l g d mi tgt lv st ph Q) : PW l g d mi pc lv (.int x :: st) ph Q := by
  intro p e R s m args below meth c H locs cells slots ls B1 B2 hC hR hS hl h1 h2 h3 h4 h5 h6
  exact lv_tableIn hC.1 hC.2.1 (pg_dec hcd) h7 h8 ho ht (k p e R s m args below meth c H locs cells slots ls B1 B2 hC hR hS hl h1 h2 h3 h4 h5 h6)
theorem px_lsw {dflt : Int} {ps : Array (Int × Int)} {x : Int32} {off : Int} {tgt : Nat} (hcd : pg_cd mi pc = some (.lookupswitch dflt ps, pc + len, r1, r2)) (hp : (ps.toList.zip (ps.toList.drop 1)).all (fun (a, next) => a.1 < next.1) = true) (ho : Op.lookupswitch.offset ps.toList dflt x.toInt = off) (ht : (pc : Int) + off = (tgt : Int)) (k : PW l g d mi tgt lv st ph Q) : PW l g d mi pc lv (.int x :: st) ph Q := by
  intro p e R s m args below meth c H locs cells slots ls B1 B2 hC hR hS hl h1 h2 h3 h4 h5 h6
  exact lv_lookup hC.1 hC.2.1 (pg_dec hcd) hp ho ht (k p e R s m args below meth c H locs cells slots ls B1 B2 hC hR hS hl h1 h2 h3 h4 h5 h6)
end PXALU
