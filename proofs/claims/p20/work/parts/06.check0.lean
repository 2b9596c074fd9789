theorem pg_k0 : ∀ q ∈ pg_L0, pg_ck 0 q = true := by decide +kernel
theorem pg_k1 : ∀ q ∈ pg_L1, pg_ck 1 q = true := by decide +kernel
theorem pg_k2 : ∀ q ∈ pg_L2, pg_ck 2 q = true := by decide +kernel
theorem pg_k3 : ∀ q ∈ pg_L3, pg_ck 3 q = true := by decide +kernel
theorem pg_k4 : ∀ q ∈ pg_L4, pg_ck 4 q = true := by decide +kernel
theorem pg_k5 : ∀ q ∈ pg_L5, pg_ck 5 q = true := by decide +kernel
theorem pg_k6 : ∀ q ∈ pg_L6, pg_ck 6 q = true := by decide +kernel
theorem pg_k7 : ∀ q ∈ pg_L7, pg_ck 7 q = true := by decide +kernel
theorem pg_k8 : ∀ q ∈ pg_L8, pg_ck 8 q = true := by decide +kernel
theorem pg_k9 : ∀ q ∈ pg_L9, pg_ck 9 q = true := by decide +kernel
theorem pg_k10 : ∀ q ∈ pg_L10, pg_ck 10 q = true := by decide +kernel
theorem pg_k11 : ∀ q ∈ pg_L11, pg_ck 11 q = true := by decide +kernel
theorem pg_k12 : ∀ q ∈ pg_L12, pg_ck 12 q = true := by decide +kernel
theorem pg_k13 : ∀ q ∈ pg_L13, pg_ck 13 q = true := by decide +kernel
theorem pg_k14 : ∀ q ∈ pg_L14, pg_ck 14 q = true := by decide +kernel
theorem pg_k15 : ∀ q ∈ pg_L15, pg_ck 15 q = true := by decide +kernel
theorem pg_kk0 : ∀ j, j < 16 → ∀ q ∈ pg_C0.getD j [], pg_ck (0 + j) q = true
  | 0, _ => pg_k0
  | 1, _ => pg_k1
  | 2, _ => pg_k2
  | 3, _ => pg_k3
  | 4, _ => pg_k4
  | 5, _ => pg_k5
  | 6, _ => pg_k6
  | 7, _ => pg_k7
  | 8, _ => pg_k8
  | 9, _ => pg_k9
  | 10, _ => pg_k10
  | 11, _ => pg_k11
  | 12, _ => pg_k12
  | 13, _ => pg_k13
  | 14, _ => pg_k14
  | 15, _ => pg_k15
  | n + 16, h => absurd h (by omega)
theorem pg_k16 : ∀ q ∈ pg_L16, pg_ck 16 q = true := by decide +kernel
theorem pg_k17 : ∀ q ∈ pg_L17, pg_ck 17 q = true := by decide +kernel
theorem pg_k18 : ∀ q ∈ pg_L18, pg_ck 18 q = true := by decide +kernel
theorem pg_k19 : ∀ q ∈ pg_L19, pg_ck 19 q = true := by decide +kernel
theorem pg_k20 : ∀ q ∈ pg_L20, pg_ck 20 q = true := by decide +kernel
theorem pg_k21 : ∀ q ∈ pg_L21, pg_ck 21 q = true := by decide +kernel
theorem pg_k22 : ∀ q ∈ pg_L22, pg_ck 22 q = true := by decide +kernel
theorem pg_k23 : ∀ q ∈ pg_L23, pg_ck 23 q = true := by decide +kernel
theorem pg_k24 : ∀ q ∈ pg_L24, pg_ck 24 q = true := by decide +kernel
theorem pg_k25 : ∀ q ∈ pg_L25, pg_ck 25 q = true := by decide +kernel
theorem pg_k26 : ∀ q ∈ pg_L26, pg_ck 26 q = true := by decide +kernel
theorem pg_k27 : ∀ q ∈ pg_L27, pg_ck 27 q = true := by decide +kernel
theorem pg_k28 : ∀ q ∈ pg_L28, pg_ck 28 q = true := by decide +kernel
theorem pg_k29 : ∀ q ∈ pg_L29, pg_ck 29 q = true := by decide +kernel
theorem pg_k30 : ∀ q ∈ pg_L30, pg_ck 30 q = true := by decide +kernel
theorem pg_k31 : ∀ q ∈ pg_L31, pg_ck 31 q = true := by decide +kernel
theorem pg_kk1 : ∀ j, j < 16 → ∀ q ∈ pg_C1.getD j [], pg_ck (16 + j) q = true
  | 0, _ => pg_k16
  | 1, _ => pg_k17
  | 2, _ => pg_k18
  | 3, _ => pg_k19
  | 4, _ => pg_k20
  | 5, _ => pg_k21
  | 6, _ => pg_k22
  | 7, _ => pg_k23
  | 8, _ => pg_k24
  | 9, _ => pg_k25
  | 10, _ => pg_k26
  | 11, _ => pg_k27
  | 12, _ => pg_k28
  | 13, _ => pg_k29
  | 14, _ => pg_k30
  | 15, _ => pg_k31
  | n + 16, h => absurd h (by omega)
theorem pg_k32 : ∀ q ∈ pg_L32, pg_ck 32 q = true := by decide +kernel
theorem pg_k33 : ∀ q ∈ pg_L33, pg_ck 33 q = true := by decide +kernel
theorem pg_k34 : ∀ q ∈ pg_L34, pg_ck 34 q = true := by decide +kernel
theorem pg_k35 : ∀ q ∈ pg_L35, pg_ck 35 q = true := by decide +kernel
theorem pg_k36 : ∀ q ∈ pg_L36, pg_ck 36 q = true := by decide +kernel
theorem pg_k37 : ∀ q ∈ pg_L37, pg_ck 37 q = true := by decide +kernel
theorem pg_k38 : ∀ q ∈ pg_L38, pg_ck 38 q = true := by decide +kernel
theorem pg_k39 : ∀ q ∈ pg_L39, pg_ck 39 q = true := by decide +kernel
theorem pg_k40 : ∀ q ∈ pg_L40, pg_ck 40 q = true := by decide +kernel
theorem pg_k41 : ∀ q ∈ pg_L41, pg_ck 41 q = true := by decide +kernel
theorem pg_k42 : ∀ q ∈ pg_L42, pg_ck 42 q = true := by decide +kernel
theorem pg_k43 : ∀ q ∈ pg_L43, pg_ck 43 q = true := by decide +kernel
theorem pg_k44 : ∀ q ∈ pg_L44, pg_ck 44 q = true := by decide +kernel
theorem pg_k45 : ∀ q ∈ pg_L45, pg_ck 45 q = true := by decide +kernel
theorem pg_k46 : ∀ q ∈ pg_L46, pg_ck 46 q = true := by decide +kernel
theorem pg_k47 : ∀ q ∈ pg_L47, pg_ck 47 q = true := by decide +kernel
theorem pg_kk2 : ∀ j, j < 16 → ∀ q ∈ pg_C2.getD j [], pg_ck (32 + j) q = true
  | 0, _ => pg_k32
  | 1, _ => pg_k33
  | 2, _ => pg_k34
  | 3, _ => pg_k35
  | 4, _ => pg_k36
  | 5, _ => pg_k37
  | 6, _ => pg_k38
  | 7, _ => pg_k39
  | 8, _ => pg_k40
  | 9, _ => pg_k41
  | 10, _ => pg_k42
  | 11, _ => pg_k43
  | 12, _ => pg_k44
  | 13, _ => pg_k45
  | 14, _ => pg_k46
  | 15, _ => pg_k47
  | n + 16, h => absurd h (by omega)
theorem pg_k48 : ∀ q ∈ pg_L48, pg_ck 48 q = true := by decide +kernel
theorem pg_k49 : ∀ q ∈ pg_L49, pg_ck 49 q = true := by decide +kernel
theorem pg_k50 : ∀ q ∈ pg_L50, pg_ck 50 q = true := by decide +kernel
theorem pg_k51 : ∀ q ∈ pg_L51, pg_ck 51 q = true := by decide +kernel
theorem pg_k52 : ∀ q ∈ pg_L52, pg_ck 52 q = true := by decide +kernel
theorem pg_k53 : ∀ q ∈ pg_L53, pg_ck 53 q = true := by decide +kernel
theorem pg_k54 : ∀ q ∈ pg_L54, pg_ck 54 q = true := by decide +kernel
theorem pg_k55 : ∀ q ∈ pg_L55, pg_ck 55 q = true := by decide +kernel
theorem pg_k56 : ∀ q ∈ pg_L56, pg_ck 56 q = true := by decide +kernel
theorem pg_k57 : ∀ q ∈ pg_L57, pg_ck 57 q = true := by decide +kernel
theorem pg_k58 : ∀ q ∈ pg_L58, pg_ck 58 q = true := by decide +kernel
theorem pg_k59 : ∀ q ∈ pg_L59, pg_ck 59 q = true := by decide +kernel
theorem pg_k60 : ∀ q ∈ pg_L60, pg_ck 60 q = true := by decide +kernel
theorem pg_k61 : ∀ q ∈ pg_L61, pg_ck 61 q = true := by decide +kernel
theorem pg_k62 : ∀ q ∈ pg_L62, pg_ck 62 q = true := by decide +kernel
theorem pg_k63 : ∀ q ∈ pg_L63, pg_ck 63 q = true := by decide +kernel
theorem pg_kk3 : ∀ j, j < 16 → ∀ q ∈ pg_C3.getD j [], pg_ck (48 + j) q = true
  | 0, _ => pg_k48
  | 1, _ => pg_k49
  | 2, _ => pg_k50
  | 3, _ => pg_k51
  | 4, _ => pg_k52
  | 5, _ => pg_k53
  | 6, _ => pg_k54
  | 7, _ => pg_k55
  | 8, _ => pg_k56
  | 9, _ => pg_k57
  | 10, _ => pg_k58
  | 11, _ => pg_k59
  | 12, _ => pg_k60
  | 13, _ => pg_k61
  | 14, _ => pg_k62
  | 15, _ => pg_k63
  | n + 16, h => absurd h (by omega)
theorem pg_k64 : ∀ q ∈ pg_L64, pg_ck 64 q = true := by decide +kernel
theorem pg_k65 : ∀ q ∈ pg_L65, pg_ck 65 q = true := by decide +kernel
theorem pg_k66 : ∀ q ∈ pg_L66, pg_ck 66 q = true := by decide +kernel
theorem pg_k67 : ∀ q ∈ pg_L67, pg_ck 67 q = true := by decide +kernel
theorem pg_k68 : ∀ q ∈ pg_L68, pg_ck 68 q = true := by decide +kernel
theorem pg_k69 : ∀ q ∈ pg_L69, pg_ck 69 q = true := by decide +kernel
theorem pg_k70 : ∀ q ∈ pg_L70, pg_ck 70 q = true := by decide +kernel
theorem pg_k71 : ∀ q ∈ pg_L71, pg_ck 71 q = true := by decide +kernel
theorem pg_k72 : ∀ q ∈ pg_L72, pg_ck 72 q = true := by decide +kernel
theorem pg_k73 : ∀ q ∈ pg_L73, pg_ck 73 q = true := by decide +kernel
theorem pg_k74 : ∀ q ∈ pg_L74, pg_ck 74 q = true := by decide +kernel
theorem pg_k75 : ∀ q ∈ pg_L75, pg_ck 75 q = true := by decide +kernel
theorem pg_k76 : ∀ q ∈ pg_L76, pg_ck 76 q = true := by decide +kernel
theorem pg_k77 : ∀ q ∈ pg_L77, pg_ck 77 q = true := by decide +kernel
theorem pg_k78 : ∀ q ∈ pg_L78, pg_ck 78 q = true := by decide +kernel
theorem pg_k79 : ∀ q ∈ pg_L79, pg_ck 79 q = true := by decide +kernel
theorem pg_kk4 : ∀ j, j < 16 → ∀ q ∈ pg_C4.getD j [], pg_ck (64 + j) q = true
  | 0, _ => pg_k64
  | 1, _ => pg_k65
  | 2, _ => pg_k66
  | 3, _ => pg_k67
  | 4, _ => pg_k68
  | 5, _ => pg_k69
  | 6, _ => pg_k70
  | 7, _ => pg_k71
  | 8, _ => pg_k72
  | 9, _ => pg_k73
  | 10, _ => pg_k74
  | 11, _ => pg_k75
  | 12, _ => pg_k76
  | 13, _ => pg_k77
  | 14, _ => pg_k78
  | 15, _ => pg_k79
  | n + 16, h => absurd h (by omega)
