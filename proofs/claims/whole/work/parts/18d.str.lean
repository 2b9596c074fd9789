/-! String.length and String.charAt of constants -/
def px_V (g : px_G) (V : State) : Prop := (px_s0 g).WarmedH V.vm ∧ (∀ q : Nat, q < px_b g → V.heap[q]? = (px_s0 g).heap[q]?) ∧ px_I g
theorem px_B.V {g : px_G} {s : State} (h : px_B g s) : px_V g s := ⟨h.1, h.2.1, h.2.2.1⟩
def pw_in (a : Cond) : Bool := pg_six.any (fun i => decide (pg_tb i = some a)) && (a.onTables && a.keepsCast)
theorem pw_at {g : px_G} {V : State} (hV : px_V g V) {a : Cond} (h : pw_in a = true) (args : Array Value) : a.before args V = true := by
  obtain ⟨A0, hT, hG⟩ := hV.2.2.1
  simp only [pw_in, Bool.and_eq_true] at h
  obtain ⟨i, -, hi⟩ := List.any_eq_true.mp h.1
  exact va_tabs h.2.1 (rfl : ((px_s0 g).setVm V.vm).vm = V.vm) (Cond.before_shiftedCast (State.Shifted.of_warmed hV.1) a h.2.2 (hT _ (pg_tb_in (of_decide_eq_true hi))))
open Jvm.Lib.Cold in
theorem pw_words : ([.code charAt.x Str.charAt.code 2 (some .char), .methodLink str 492 charAt.IL, .declares charAt.IL, .selects str charAt.IL charAt.IL, .instanceMethod charAt.IL, .fieldLink str 9 str "value" "[B", .methodLink str 495 charAt.SL, .static charAt.SL, .initialized sl1, .initialized str,
    .code isLatin1.x String.isLatin1.code 1 (some .boolean), .fieldLink str 38 str "COMPACT_STRINGS" "Z", .fieldLink str 15 str "coder" "B",
    .code latin1.x SL1.charAt.code 2 (some .char), .methodLink sl1 9 latin1.SC, .static latin1.SC,
    .code checkIndex.x Str.checkIndex.code 2 none, .fieldLink str 1053 pre_ "SIOOBE_FORMATTER" "Ljava/util/function/BiFunction;", .methodLink str 1059 checkIndex.PC, .static checkIndex.PC, .initialized pre_,
    .code Preconditions.checkIndex.name Preconditions.checkIndex.code 3 (some .int),
    .code length.x String.length.code 1 (some .int), .methodLink str 335 length.CO, .declares length.CO, .selects str length.CO length.CO, .instanceMethod length.CO,
    .code coder.x String.coder.code 1 (some .byte)] : List Cond).map pw_in = List.replicate 28 true := by decide +kernel
