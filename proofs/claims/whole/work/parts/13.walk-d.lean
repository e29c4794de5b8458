set_option maxRecDepth 20000 in
theorem wX6_comes_138 {X : Cx} (F : Fx false X cX6_comes RX6 9 3 67) {res : Int32 × SS} (R : RZ false X cX6_comes 9 res) {N : Nat} {k11 : Int32 → Int32 → Int32 → Int32 → Int32 → Int32 → SS → Option (Int32 × SS)} (hk11 : ∀ (x1 : Int32) (x2 : Int32) (x3 : Int32) (x4 : Int32) (x5 : Int32) (x6 : Int32) (σ : SS), k11 x1 x2 x3 x4 x5 x6 σ = some res → G false X 9 11 [(0, rf X.2.2 0), (1, .int x1), (2, .int x2), (3, .int x3), (4, .int x4), (5, .int x5), (6, .int x6)] [] σ) : ∀ (x1 : Int32) (x2 : Int32) (x3 : Int32) (x4 : Int32) (x6 : Int32) (t0 : Int32) (s0 : SS), fX6_comes_138 N k11 x1 x2 x3 x4 x6 t0 s0 = some res → G false X 9 138 [(0, rf X.2.2 0), (1, .int x1), (2, .int x2), (3, .int x3), (4, .int x4), (6, .int x6)] [.int t0] s0 := by
  intro x1 x2 x3 x4 x6 t0 s0 h
  unfold fX6_comes_138 at h
  refine g_istore F dX6_comes_138 (by decide) (lv' := [(0, rf X.2.2 0), (1, .int x1), (2, .int x2), (3, .int x3), (4, .int x4), (5, .int t0), (6, .int x6)]) [1, 2, 3, 4, 5, 0, 6] rfl ?_
  refine g_iinc F (j := 6) (v := x6 + 1) dX6_comes_140 rfl rfl (by decide) (lv' := [(0, rf X.2.2 0), (1, .int x1), (2, .int x2), (3, .int x3), (4, .int x4), (5, .int t0), (6, .int (x6 + 1))]) [1, 2, 3, 4, 5, 6, 0] rfl ?_
  refine g_goto F (tgt := 11) dX6_comes_143 (by decide) ?_
  exact hk11 x1 x2 x3 x4 t0 (x6 + 1) s0 h
set_option maxRecDepth 20000 in
theorem wX6_comes_133 {X : Cx} (F : Fx false X cX6_comes RX6 9 3 67) {res : Int32 × SS} (R : RZ false X cX6_comes 9 res) {N : Nat} {k11 : Int32 → Int32 → Int32 → Int32 → Int32 → Int32 → SS → Option (Int32 × SS)} (hk11 : ∀ (x1 : Int32) (x2 : Int32) (x3 : Int32) (x4 : Int32) (x5 : Int32) (x6 : Int32) (σ : SS), k11 x1 x2 x3 x4 x5 x6 σ = some res → G false X 9 11 [(0, rf X.2.2 0), (1, .int x1), (2, .int x2), (3, .int x3), (4, .int x4), (5, .int x5), (6, .int x6)] [] σ) : ∀ (x1 : Int32) (x2 : Int32) (x3 : Int32) (x4 : Int32) (x6 : Int32) (s0 : SS), fX6_comes_133 N k11 x1 x2 x3 x4 x6 s0 = some res → G false X 9 133 [(0, rf X.2.2 0), (1, .int x1), (2, .int x2), (3, .int x3), (4, .int x4), (6, .int x6)] [] s0 := by
  intro x1 x2 x3 x4 x6 s0 h
  unfold fX6_comes_133 at h
  refine g_iconst F (v := 1) dX6_comes_133 (by decide) ?_
  refine g_goto F (tgt := 138) dX6_comes_134 (by decide) ?_
  exact wX6_comes_138 F R hk11 x1 x2 x3 x4 x6 1 s0 h
set_option maxRecDepth 20000 in
theorem wX6_comes_137 {X : Cx} (F : Fx false X cX6_comes RX6 9 3 67) {res : Int32 × SS} (R : RZ false X cX6_comes 9 res) {N : Nat} {k11 : Int32 → Int32 → Int32 → Int32 → Int32 → Int32 → SS → Option (Int32 × SS)} (hk11 : ∀ (x1 : Int32) (x2 : Int32) (x3 : Int32) (x4 : Int32) (x5 : Int32) (x6 : Int32) (σ : SS), k11 x1 x2 x3 x4 x5 x6 σ = some res → G false X 9 11 [(0, rf X.2.2 0), (1, .int x1), (2, .int x2), (3, .int x3), (4, .int x4), (5, .int x5), (6, .int x6)] [] σ) : ∀ (x1 : Int32) (x2 : Int32) (x3 : Int32) (x4 : Int32) (x6 : Int32) (s0 : SS), fX6_comes_137 N k11 x1 x2 x3 x4 x6 s0 = some res → G false X 9 137 [(0, rf X.2.2 0), (1, .int x1), (2, .int x2), (3, .int x3), (4, .int x4), (6, .int x6)] [] s0 := by
  intro x1 x2 x3 x4 x6 s0 h
  unfold fX6_comes_137 at h
  refine g_iconst F (v := 0) dX6_comes_137 (by decide) ?_
  exact wX6_comes_138 F R hk11 x1 x2 x3 x4 x6 0 s0 h
set_option maxRecDepth 20000 in
theorem wX6_comes_104 {X : Cx} (F : Fx false X cX6_comes RX6 9 3 67) {res : Int32 × SS} (R : RZ false X cX6_comes 9 res) {N : Nat} {k11 : Int32 → Int32 → Int32 → Int32 → Int32 → Int32 → SS → Option (Int32 × SS)} (hk11 : ∀ (x1 : Int32) (x2 : Int32) (x3 : Int32) (x4 : Int32) (x5 : Int32) (x6 : Int32) (σ : SS), k11 x1 x2 x3 x4 x5 x6 σ = some res → G false X 9 11 [(0, rf X.2.2 0), (1, .int x1), (2, .int x2), (3, .int x3), (4, .int x4), (5, .int x5), (6, .int x6)] [] σ) : ∀ (x1 : Int32) (x2 : Int32) (x3 : Int32) (x5 : Int32) (x6 : Int32) (x7 : Int32) (x8 : Int32) (t0 : Int32) (t1 : Int32) (s0 : SS), fX6_comes_104 N k11 x1 x2 x3 x5 x6 x7 x8 t0 t1 s0 = some res → G false X 9 104 [(0, rf X.2.2 0), (1, .int x1), (2, .int x2), (3, .int x3), (5, .int x5), (6, .int x6), (7, .int x7), (8, .int x8)] [.int t0, .int t1] s0 := by
  intro x1 x2 x3 x5 x6 x7 x8 t0 t1 s0 h
  unfold fX6_comes_104 at h
  refine g_iadd F dX6_comes_104 ?_
  refine g_istore F dX6_comes_105 (by decide) (lv' := [(0, rf X.2.2 0), (1, .int x1), (2, .int x2), (3, .int x3), (4, .int (t1 + t0)), (5, .int x5), (6, .int x6), (7, .int x7), (8, .int x8)]) [1, 2, 3, 4, 0, 5, 6, 7, 8] rfl ?_
  refine g_iload F (j := 5) dX6_comes_107 rfl ?_
  refine g_ifeq F (tgt := 137) dX6_comes_109 (by decide) h (fun h => ?_) (fun h => ?_)
  · refine g_sub (lv' := [(0, rf X.2.2 0), (1, .int x1), (2, .int x2), (3, .int x3), (4, .int (t1 + t0)), (6, .int x6)]) [0, 1, 2, 3, 4, 6] rfl ?_
    exact wX6_comes_137 F R hk11 x1 x2 x3 (t1 + t0) x6 s0 h
  · refine g_iload F (j := 7) dX6_comes_112 rfl ?_
    refine g_ifne F (tgt := 133) dX6_comes_114 (by decide) h (fun h => ?_) (fun h => ?_)
    · refine g_iload F (j := 8) dX6_comes_117 rfl ?_
      refine g_ifeq F (tgt := 133) dX6_comes_119 (by decide) h (fun h => ?_) (fun h => ?_)
      · refine g_sub (lv' := [(0, rf X.2.2 0), (1, .int x1), (2, .int x2), (3, .int x3), (4, .int (t1 + t0)), (6, .int x6)]) [0, 1, 2, 3, 4, 6] rfl ?_
        exact wX6_comes_133 F R hk11 x1 x2 x3 (t1 + t0) x6 s0 h
      · refine g_aload_n F (a := 0) (j := 0) dX6_comes_122 rfl rfl ?_
        refine g_iload F (j := 6) dX6_comes_123 rfl ?_
        refine g_iload_n F (j := 1) dX6_comes_125 rfl rfl ?_
        refine g_iconst F (v := 1) dX6_comes_126 (by decide) ?_
        refine g_vi F (k := 0) (As := [.int x6, .int x1, .int 1]) (rest := []) (fun _ q => mX6_isLike N F.inj  q) mw_X6_isLike ml_X6_70 rfl ⟨Nat.le_of_ble_eq_true rfl, Nat.le_of_ble_eq_true rfl⟩ pm0 cl6 rfl (Nat.le_of_ble_eq_true rfl) dX6_comes_127 h (fun v1 s1 h => ?_)
        refine g_ifne F (tgt := 137) dX6_comes_130 (by decide) h (fun h => ?_) (fun h => ?_)
        · refine g_sub (lv' := [(0, rf X.2.2 0), (1, .int x1), (2, .int x2), (3, .int x3), (4, .int (t1 + t0)), (6, .int x6)]) [0, 1, 2, 3, 4, 6] rfl ?_
          exact wX6_comes_133 F R hk11 x1 x2 x3 (t1 + t0) x6 s1 h
        · refine g_sub (lv' := [(0, rf X.2.2 0), (1, .int x1), (2, .int x2), (3, .int x3), (4, .int (t1 + t0)), (6, .int x6)]) [0, 1, 2, 3, 4, 6] rfl ?_
          exact wX6_comes_137 F R hk11 x1 x2 x3 (t1 + t0) x6 s1 h
    · refine g_sub (lv' := [(0, rf X.2.2 0), (1, .int x1), (2, .int x2), (3, .int x3), (4, .int (t1 + t0)), (6, .int x6)]) [0, 1, 2, 3, 4, 6] rfl ?_
      exact wX6_comes_133 F R hk11 x1 x2 x3 (t1 + t0) x6 s0 h
set_option maxRecDepth 20000 in
theorem wX6_comes_93 {X : Cx} (F : Fx false X cX6_comes RX6 9 3 67) {res : Int32 × SS} (R : RZ false X cX6_comes 9 res) {N : Nat} {k11 : Int32 → Int32 → Int32 → Int32 → Int32 → Int32 → SS → Option (Int32 × SS)} (hk11 : ∀ (x1 : Int32) (x2 : Int32) (x3 : Int32) (x4 : Int32) (x5 : Int32) (x6 : Int32) (σ : SS), k11 x1 x2 x3 x4 x5 x6 σ = some res → G false X 9 11 [(0, rf X.2.2 0), (1, .int x1), (2, .int x2), (3, .int x3), (4, .int x4), (5, .int x5), (6, .int x6)] [] σ) : ∀ (x1 : Int32) (x2 : Int32) (x3 : Int32) (x5 : Int32) (x6 : Int32) (x7 : Int32) (x8 : Int32) (t0 : Int32) (s0 : SS), fX6_comes_93 N k11 x1 x2 x3 x5 x6 x7 x8 t0 s0 = some res → G false X 9 93 [(0, rf X.2.2 0), (1, .int x1), (2, .int x2), (3, .int x3), (5, .int x5), (6, .int x6), (7, .int x7), (8, .int x8)] [.int t0] s0 := by
  intro x1 x2 x3 x5 x6 x7 x8 t0 s0 h
  unfold fX6_comes_93 at h
  refine g_aload_n F (a := 0) (j := 0) dX6_comes_93 rfl rfl ?_
  refine gt_X6_19 F (k := 0) pm0 dX6_comes_94 (v := rf X.2.2 4) rfl ?_
  refine g_iload F (j := 5) dX6_comes_97 rfl ?_
  refine g_iald F (k := 4) pm4 dX6_comes_99 h (fun h => ?_)
  refine g_goto F (tgt := 104) dX6_comes_100 (by decide) ?_
  exact wX6_comes_104 F R hk11 x1 x2 x3 x5 x6 x7 x8 (s0 4 (Int32.toNatClampNeg x6)) t0 s0 h
set_option maxRecDepth 20000 in
theorem wX6_comes_79 {X : Cx} (F : Fx false X cX6_comes RX6 9 3 67) {res : Int32 × SS} (R : RZ false X cX6_comes 9 res) {N : Nat} {k11 : Int32 → Int32 → Int32 → Int32 → Int32 → Int32 → SS → Option (Int32 × SS)} (hk11 : ∀ (x1 : Int32) (x2 : Int32) (x3 : Int32) (x4 : Int32) (x5 : Int32) (x6 : Int32) (σ : SS), k11 x1 x2 x3 x4 x5 x6 σ = some res → G false X 9 11 [(0, rf X.2.2 0), (1, .int x1), (2, .int x2), (3, .int x3), (4, .int x4), (5, .int x5), (6, .int x6)] [] σ) : ∀ (x1 : Int32) (x2 : Int32) (x4 : Int32) (x5 : Int32) (x6 : Int32) (x7 : Int32) (x8 : Int32) (t0 : Int32) (t1 : Int32) (s0 : SS), fX6_comes_79 N k11 x1 x2 x4 x5 x6 x7 x8 t0 t1 s0 = some res → G false X 9 79 [(0, rf X.2.2 0), (1, .int x1), (2, .int x2), (4, .int x4), (5, .int x5), (6, .int x6), (7, .int x7), (8, .int x8)] [.int t0, .int t1] s0 := by
  intro x1 x2 x4 x5 x6 x7 x8 t0 t1 s0 h
  unfold fX6_comes_79 at h
  refine g_iadd F dX6_comes_79 ?_
  refine g_istore_n F dX6_comes_80 rfl (by decide) (lv' := [(0, rf X.2.2 0), (1, .int x1), (2, .int x2), (3, .int (t1 + t0)), (4, .int x4), (5, .int x5), (6, .int x6), (7, .int x7), (8, .int x8)]) [1, 2, 3, 0, 4, 5, 6, 7, 8] rfl ?_
  refine g_iload F (j := 4) dX6_comes_81 rfl ?_
  refine g_iload F (j := 7) dX6_comes_83 rfl ?_
  refine g_ifne F (tgt := 93) dX6_comes_85 (by decide) h (fun h => ?_) (fun h => ?_)
  · refine g_iload F (j := 8) dX6_comes_88 rfl ?_
    refine g_ifeq F (tgt := 103) dX6_comes_90 (by decide) h (fun h => ?_) (fun h => ?_)
    · refine g_iconst F (v := 0) dX6_comes_103 (by decide) ?_
      refine g_sub (lv' := [(0, rf X.2.2 0), (1, .int x1), (2, .int x2), (3, .int (t1 + t0)), (5, .int x5), (6, .int x6), (7, .int x7), (8, .int x8)]) [0, 1, 2, 3, 5, 6, 7, 8] rfl ?_
      exact wX6_comes_104 F R hk11 x1 x2 (t1 + t0) x5 x6 x7 x8 0 x4 s0 h
    · refine g_sub (lv' := [(0, rf X.2.2 0), (1, .int x1), (2, .int x2), (3, .int (t1 + t0)), (5, .int x5), (6, .int x6), (7, .int x7), (8, .int x8)]) [0, 1, 2, 3, 5, 6, 7, 8] rfl ?_
      exact wX6_comes_93 F R hk11 x1 x2 (t1 + t0) x5 x6 x7 x8 x4 s0 h
  · refine g_sub (lv' := [(0, rf X.2.2 0), (1, .int x1), (2, .int x2), (3, .int (t1 + t0)), (5, .int x5), (6, .int x6), (7, .int x7), (8, .int x8)]) [0, 1, 2, 3, 5, 6, 7, 8] rfl ?_
    exact wX6_comes_93 F R hk11 x1 x2 (t1 + t0) x5 x6 x7 x8 x4 s0 h
set_option maxRecDepth 20000 in
theorem wX6_comes_68 {X : Cx} (F : Fx false X cX6_comes RX6 9 3 67) {res : Int32 × SS} (R : RZ false X cX6_comes 9 res) {N : Nat} {k11 : Int32 → Int32 → Int32 → Int32 → Int32 → Int32 → SS → Option (Int32 × SS)} (hk11 : ∀ (x1 : Int32) (x2 : Int32) (x3 : Int32) (x4 : Int32) (x5 : Int32) (x6 : Int32) (σ : SS), k11 x1 x2 x3 x4 x5 x6 σ = some res → G false X 9 11 [(0, rf X.2.2 0), (1, .int x1), (2, .int x2), (3, .int x3), (4, .int x4), (5, .int x5), (6, .int x6)] [] σ) : ∀ (x1 : Int32) (x2 : Int32) (x4 : Int32) (x5 : Int32) (x6 : Int32) (x7 : Int32) (x8 : Int32) (t0 : Int32) (s0 : SS), fX6_comes_68 N k11 x1 x2 x4 x5 x6 x7 x8 t0 s0 = some res → G false X 9 68 [(0, rf X.2.2 0), (1, .int x1), (2, .int x2), (4, .int x4), (5, .int x5), (6, .int x6), (7, .int x7), (8, .int x8)] [.int t0] s0 := by
  intro x1 x2 x4 x5 x6 x7 x8 t0 s0 h
  unfold fX6_comes_68 at h
  refine g_aload_n F (a := 0) (j := 0) dX6_comes_68 rfl rfl ?_
  refine gt_X6_16 F (k := 0) pm0 dX6_comes_69 (v := rf X.2.2 3) rfl ?_
  refine g_iload F (j := 5) dX6_comes_72 rfl ?_
  refine g_iald F (k := 3) pm3 dX6_comes_74 h (fun h => ?_)
  refine g_goto F (tgt := 79) dX6_comes_75 (by decide) ?_
  exact wX6_comes_79 F R hk11 x1 x2 x4 x5 x6 x7 x8 (s0 3 (Int32.toNatClampNeg x6)) t0 s0 h
set_option maxRecDepth 20000 in
theorem wX6_comes_55 {X : Cx} (F : Fx false X cX6_comes RX6 9 3 67) {res : Int32 × SS} (R : RZ false X cX6_comes 9 res) {N : Nat} {k11 : Int32 → Int32 → Int32 → Int32 → Int32 → Int32 → SS → Option (Int32 × SS)} (hk11 : ∀ (x1 : Int32) (x2 : Int32) (x3 : Int32) (x4 : Int32) (x5 : Int32) (x6 : Int32) (σ : SS), k11 x1 x2 x3 x4 x5 x6 σ = some res → G false X 9 11 [(0, rf X.2.2 0), (1, .int x1), (2, .int x2), (3, .int x3), (4, .int x4), (5, .int x5), (6, .int x6)] [] σ) : ∀ (x1 : Int32) (x2 : Int32) (x3 : Int32) (x4 : Int32) (x5 : Int32) (x6 : Int32) (x7 : Int32) (t0 : Int32) (s0 : SS), fX6_comes_55 N k11 x1 x2 x3 x4 x5 x6 x7 t0 s0 = some res → G false X 9 55 [(0, rf X.2.2 0), (1, .int x1), (2, .int x2), (3, .int x3), (4, .int x4), (5, .int x5), (6, .int x6), (7, .int x7)] [.int t0] s0 := by
  intro x1 x2 x3 x4 x5 x6 x7 t0 s0 h
  unfold fX6_comes_55 at h
  refine g_istore F dX6_comes_55 (by decide) (lv' := [(0, rf X.2.2 0), (1, .int x1), (2, .int x2), (3, .int x3), (4, .int x4), (5, .int x5), (6, .int x6), (7, .int x7), (8, .int t0)]) [1, 2, 3, 4, 5, 6, 7, 8, 0] rfl ?_
  refine g_iload_n F (j := 3) dX6_comes_57 rfl rfl ?_
  refine g_iload F (j := 7) dX6_comes_58 rfl ?_
  refine g_ifne F (tgt := 68) dX6_comes_60 (by decide) h (fun h => ?_) (fun h => ?_)
  · refine g_iload F (j := 8) dX6_comes_63 rfl ?_
    refine g_ifeq F (tgt := 78) dX6_comes_65 (by decide) h (fun h => ?_) (fun h => ?_)
    · refine g_iconst F (v := 0) dX6_comes_78 (by decide) ?_
      refine g_sub (lv' := [(0, rf X.2.2 0), (1, .int x1), (2, .int x2), (4, .int x4), (5, .int x5), (6, .int x6), (7, .int x7), (8, .int t0)]) [0, 1, 2, 4, 5, 6, 7, 8] rfl ?_
      exact wX6_comes_79 F R hk11 x1 x2 x4 x5 x6 x7 t0 0 x3 s0 h
    · refine g_sub (lv' := [(0, rf X.2.2 0), (1, .int x1), (2, .int x2), (4, .int x4), (5, .int x5), (6, .int x6), (7, .int x7), (8, .int t0)]) [0, 1, 2, 4, 5, 6, 7, 8] rfl ?_
      exact wX6_comes_68 F R hk11 x1 x2 x4 x5 x6 x7 t0 x3 s0 h
  · refine g_sub (lv' := [(0, rf X.2.2 0), (1, .int x1), (2, .int x2), (4, .int x4), (5, .int x5), (6, .int x6), (7, .int x7), (8, .int t0)]) [0, 1, 2, 4, 5, 6, 7, 8] rfl ?_
    exact wX6_comes_68 F R hk11 x1 x2 x4 x5 x6 x7 t0 x3 s0 h
set_option maxRecDepth 20000 in
theorem wX6_comes_54 {X : Cx} (F : Fx false X cX6_comes RX6 9 3 67) {res : Int32 × SS} (R : RZ false X cX6_comes 9 res) {N : Nat} {k11 : Int32 → Int32 → Int32 → Int32 → Int32 → Int32 → SS → Option (Int32 × SS)} (hk11 : ∀ (x1 : Int32) (x2 : Int32) (x3 : Int32) (x4 : Int32) (x5 : Int32) (x6 : Int32) (σ : SS), k11 x1 x2 x3 x4 x5 x6 σ = some res → G false X 9 11 [(0, rf X.2.2 0), (1, .int x1), (2, .int x2), (3, .int x3), (4, .int x4), (5, .int x5), (6, .int x6)] [] σ) : ∀ (x1 : Int32) (x2 : Int32) (x3 : Int32) (x4 : Int32) (x5 : Int32) (x6 : Int32) (x7 : Int32) (s0 : SS), fX6_comes_54 N k11 x1 x2 x3 x4 x5 x6 x7 s0 = some res → G false X 9 54 [(0, rf X.2.2 0), (1, .int x1), (2, .int x2), (3, .int x3), (4, .int x4), (5, .int x5), (6, .int x6), (7, .int x7)] [] s0 := by
  intro x1 x2 x3 x4 x5 x6 x7 s0 h
  unfold fX6_comes_54 at h
  refine g_iconst F (v := 0) dX6_comes_54 (by decide) ?_
  exact wX6_comes_55 F R hk11 x1 x2 x3 x4 x5 x6 x7 0 s0 h
set_option maxRecDepth 20000 in
theorem wX6_comes_177 {X : Cx} (F : Fx false X cX6_comes RX6 9 3 67) {res : Int32 × SS} (R : RZ false X cX6_comes 9 res) {N : Nat} : ∀ (t0 : Int32) (s0 : SS), fX6_comes_177 N t0 s0 = some res → G false X 9 177 [] [.int t0] s0 := by
  intro t0 s0 h
  unfold fX6_comes_177 at h
  exact R _ _ _ _ dX6_comes_177 h
set_option maxRecDepth 20000 in
theorem wX6_comes_176 {X : Cx} (F : Fx false X cX6_comes RX6 9 3 67) {res : Int32 × SS} (R : RZ false X cX6_comes 9 res) {N : Nat} : ∀  (s0 : SS), fX6_comes_176 N s0 = some res → G false X 9 176 [] [] s0 := by
  intro  s0 h
  unfold fX6_comes_176 at h
  refine g_iconst F (v := 0) dX6_comes_176 (by decide) ?_
  exact wX6_comes_177 F R 0 s0 h
set_option maxRecDepth 20000 in
theorem wX6_comes_11 {X : Cx} (F : Fx false X cX6_comes RX6 9 3 67) {res : Int32 × SS} (R : RZ false X cX6_comes 9 res) {N : Nat} {k11 : Int32 → Int32 → Int32 → Int32 → Int32 → Int32 → SS → Option (Int32 × SS)} (hk11 : ∀ (x1 : Int32) (x2 : Int32) (x3 : Int32) (x4 : Int32) (x5 : Int32) (x6 : Int32) (σ : SS), k11 x1 x2 x3 x4 x5 x6 σ = some res → G false X 9 11 [(0, rf X.2.2 0), (1, .int x1), (2, .int x2), (3, .int x3), (4, .int x4), (5, .int x5), (6, .int x6)] [] σ) : ∀ (x1 : Int32) (x2 : Int32) (x3 : Int32) (x4 : Int32) (x5 : Int32) (x6 : Int32) (s0 : SS), fX6_comes_11 N k11 x1 x2 x3 x4 x5 x6 s0 = some res → G false X 9 11 [(0, rf X.2.2 0), (1, .int x1), (2, .int x2), (3, .int x3), (4, .int x4), (5, .int x5), (6, .int x6)] [] s0 := by
  intro x1 x2 x3 x4 x5 x6 s0 h
  unfold fX6_comes_11 at h
  refine g_iload F (j := 6) dX6_comes_11 rfl ?_
  refine g_aload_n F (a := 0) (j := 0) dX6_comes_13 rfl rfl ?_
  refine gt_X6_67 F (k := 0) pm0 dX6_comes_14 (v := .int (s0 0 3)) rfl ?_
  refine g_icmp_ge F (tgt := 146) dX6_comes_17 (by decide) h (fun h => ?_) (fun h => ?_)
  · refine g_iload F (j := 5) dX6_comes_146 rfl ?_
    refine g_ifeq F (tgt := 176) dX6_comes_148 (by decide) h (fun h => ?_) (fun h => ?_)
    · refine g_sub (lv' := []) [] rfl ?_
      exact wX6_comes_176 F R s0 h
    · refine g_iload_n F (j := 3) dX6_comes_151 rfl rfl ?_
      refine g_aload_n F (a := 0) (j := 0) dX6_comes_152 rfl rfl ?_
      refine gt_X6_7 F (k := 0) pm0 dX6_comes_153 (v := rf X.2.2 1) rfl ?_
      refine g_iload_n F (j := 2) dX6_comes_156 rfl rfl ?_
      refine g_iald F (k := 1) pm1 dX6_comes_157 h (fun h => ?_)
      refine g_icmp_gt F (tgt := 176) dX6_comes_158 (by decide) h (fun h => ?_) (fun h => ?_)
      · refine g_sub (lv' := []) [] rfl ?_
        exact wX6_comes_176 F R s0 h
      · refine g_iload F (j := 4) dX6_comes_161 rfl ?_
        refine g_aload_n F (a := 0) (j := 0) dX6_comes_163 rfl rfl ?_
        refine gt_X6_13 F (k := 0) pm0 dX6_comes_164 (v := rf X.2.2 2) rfl ?_
        refine g_iload_n F (j := 2) dX6_comes_167 rfl rfl ?_
        refine g_iald F (k := 2) pm2 dX6_comes_168 h (fun h => ?_)
        refine g_icmp_gt F (tgt := 176) dX6_comes_169 (by decide) h (fun h => ?_) (fun h => ?_)
        · refine g_sub (lv' := []) [] rfl ?_
          exact wX6_comes_176 F R s0 h
        · refine g_iconst F (v := 1) dX6_comes_172 (by decide) ?_
          refine g_goto F (tgt := 177) dX6_comes_173 (by decide) ?_
          refine g_sub (lv' := []) [] rfl ?_
          exact wX6_comes_177 F R 1 s0 h
  · refine g_aload_n F (a := 0) (j := 0) dX6_comes_20 rfl rfl ?_
    refine g_iload F (j := 6) dX6_comes_21 rfl ?_
    refine g_iload_n F (j := 1) dX6_comes_23 rfl rfl ?_
    refine g_vi F (k := 0) (As := [.int x6, .int x1]) (rest := []) (fun _ q => mX6_isOf N F.inj  q) mw_X6_isOf ml_X6_102 rfl ⟨Nat.le_of_ble_eq_true rfl, Nat.le_of_ble_eq_true rfl⟩ pm0 cl6 rfl (Nat.le_of_ble_eq_true rfl) dX6_comes_24 h (fun v1 s1 h => ?_)
    refine g_istore F dX6_comes_27 (by decide) (lv' := [(0, rf X.2.2 0), (1, .int x1), (2, .int x2), (3, .int x3), (4, .int x4), (5, .int x5), (6, .int x6), (7, .int v1)]) [1, 2, 3, 4, 5, 6, 7, 0] rfl ?_
    refine g_aload_n F (a := 0) (j := 0) dX6_comes_29 rfl rfl ?_
    refine gt_X6_31 F (k := 0) pm0 dX6_comes_30 (v := rf X.2.2 8) rfl ?_
    refine g_iload F (j := 6) dX6_comes_33 rfl ?_
    refine g_zald F (k := 8) pm8 dX6_comes_35 h (fun h => ?_)
    refine g_ifne F (tgt := 54) dX6_comes_36 (by decide) h (fun h => ?_) (fun h => ?_)
    · refine g_aload_n F (a := 0) (j := 0) dX6_comes_39 rfl rfl ?_
      refine gt_X6_51 F (k := 0) pm0 dX6_comes_40 (v := rf X.2.2 13) rfl ?_
      refine g_iload F (j := 6) dX6_comes_43 rfl ?_
      refine g_iald F (k := 13) pm13 dX6_comes_45 h (fun h => ?_)
      refine g_iload_n F (j := 2) dX6_comes_46 rfl rfl ?_
      refine g_icmp_ne F (tgt := 54) dX6_comes_47 (by decide) h (fun h => ?_) (fun h => ?_)
      · refine g_iconst F (v := 1) dX6_comes_50 (by decide) ?_
        refine g_goto F (tgt := 55) dX6_comes_51 (by decide) ?_
        exact wX6_comes_55 F R hk11 x1 x2 x3 x4 x5 x6 v1 1 s1 h
      · exact wX6_comes_54 F R hk11 x1 x2 x3 x4 x5 x6 v1 s1 h
    · exact wX6_comes_54 F R hk11 x1 x2 x3 x4 x5 x6 v1 s1 h
theorem wX6_comes_11_lp {X : Cx} (F : Fx false X cX6_comes RX6 9 3 67) {res : Int32 × SS} (R : RZ false X cX6_comes 9 res) {N : Nat} : ∀ (n : Nat) (x1 : Int32) (x2 : Int32) (x3 : Int32) (x4 : Int32) (x5 : Int32) (x6 : Int32) (s0 : SS), lp (fX6_comes_11 N) (fun _ _ _ _ _ _ _ => none) n x1 x2 x3 x4 x5 x6 s0 = some res → G false X 9 11 [(0, rf X.2.2 0), (1, .int x1), (2, .int x2), (3, .int x3), (4, .int x4), (5, .int x5), (6, .int x6)] [] s0 := by
  intro n
  induction n with
  | zero => intro x1 x2 x3 x4 x5 x6 s0 h; cases (show (none : Option (Int32 × SS)) = some res from h)
  | succ n ih => intro x1 x2 x3 x4 x5 x6 s0 h; exact wX6_comes_11 F R ih x1 x2 x3 x4 x5 x6 s0 h
set_option maxRecDepth 20000 in
theorem wX6_comes_e {X : Cx} (F : Fx false X cX6_comes RX6 9 3 67) {res : Int32 × SS} (R : RZ false X cX6_comes 9 res) {N : Nat} : ∀ (a1 : Int32) (a2 : Int32) (s0 : SS), fX6_comes N a1 a2 s0 = some res → G false X 9 0 [(0, rf X.2.2 0), (1, .int a1), (2, .int a2)] [] s0 := by
  intro a1 a2 s0 h
  unfold fX6_comes at h
  refine g_iconst F (v := 0) dX6_comes_0 (by decide) ?_
  refine g_istore_n F dX6_comes_1 rfl (by decide) (lv' := [(0, rf X.2.2 0), (1, .int a1), (2, .int a2), (3, .int 0)]) [1, 2, 3, 0] rfl ?_
  refine g_iconst F (v := 0) dX6_comes_2 (by decide) ?_
  refine g_istore F dX6_comes_3 (by decide) (lv' := [(0, rf X.2.2 0), (1, .int a1), (2, .int a2), (3, .int 0), (4, .int 0)]) [1, 2, 3, 4, 0] rfl ?_
  refine g_iconst F (v := 1) dX6_comes_5 (by decide) ?_
  refine g_istore F dX6_comes_6 (by decide) (lv' := [(0, rf X.2.2 0), (1, .int a1), (2, .int a2), (3, .int 0), (4, .int 0), (5, .int 1)]) [1, 2, 3, 4, 5, 0] rfl ?_
  refine g_iconst F (v := 0) dX6_comes_8 (by decide) ?_
  refine g_istore F dX6_comes_9 (by decide) (lv' := [(0, rf X.2.2 0), (1, .int a1), (2, .int a2), (3, .int 0), (4, .int 0), (5, .int 1), (6, .int 0)]) [1, 2, 3, 4, 5, 6, 0] rfl ?_
  exact wX6_comes_11_lp F R N a1 a2 0 0 1 0 s0 h
theorem mX6_comes {l : Launch} {w : Wd} (N : Nat) (hi : inj false w)  {res : Int32 × SS} {a1 a2 : Int32} {s0 : SS} (h : fX6_comes N a1 a2 s0 = some res) : MI false l yX6_comes cX6_comes 9 (some .boolean) { frames := 3, cells := 0, slots := 0, locals := 67 } w [rf w 0, .int a1, .int a2] s0 res := by
  refine mk_z (by decide) hi (Nat.le_of_ble_eq_true rfl) (fun X hX hL F R => ?_)
  subst hX; subst hL
  exact wX6_comes_e F R a1 a2 s0 h
set_option maxRecDepth 20000 in
theorem wX6_costOf_39 {X : Cx} (F : Fx false X cX6_costOf RX6 4 3 67) {res : Int32 × SS} (R : RI false X cX6_costOf 4 res) {N : Nat} {k4 : Int32 → Int32 → Int32 → SS → Option (Int32 × SS)} (hk4 : ∀ (x1 : Int32) (x2 : Int32) (x3 : Int32) (σ : SS), k4 x1 x2 x3 σ = some res → G false X 4 4 [(0, rf X.2.2 0), (1, .int x1), (2, .int x2), (3, .int x3)] [] σ) : ∀ (x1 : Int32) (x3 : Int32) (t0 : Int32) (t1 : Int32) (s0 : SS), fX6_costOf_39 N k4 x1 x3 t0 t1 s0 = some res → G false X 4 39 [(0, rf X.2.2 0), (1, .int x1), (3, .int x3)] [.int t0, .int t1] s0 := by
  intro x1 x3 t0 t1 s0 h
  unfold fX6_costOf_39 at h
  refine g_iadd F dX6_costOf_39 ?_
  refine g_istore_n F dX6_costOf_40 rfl (by decide) (lv' := [(0, rf X.2.2 0), (1, .int x1), (2, .int (t1 + t0)), (3, .int x3)]) [1, 2, 0, 3] rfl ?_
  refine g_iinc F (j := 3) (v := x3 + 1) dX6_costOf_41 rfl rfl (by decide) (lv' := [(0, rf X.2.2 0), (1, .int x1), (2, .int (t1 + t0)), (3, .int (x3 + 1))]) [1, 2, 3, 0] rfl ?_
  refine g_goto F (tgt := 4) dX6_costOf_44 (by decide) ?_
  exact hk4 x1 (t1 + t0) (x3 + 1) s0 h
set_option maxRecDepth 20000 in
theorem wX6_costOf_4 {X : Cx} (F : Fx false X cX6_costOf RX6 4 3 67) {res : Int32 × SS} (R : RI false X cX6_costOf 4 res) {N : Nat} {k4 : Int32 → Int32 → Int32 → SS → Option (Int32 × SS)} (hk4 : ∀ (x1 : Int32) (x2 : Int32) (x3 : Int32) (σ : SS), k4 x1 x2 x3 σ = some res → G false X 4 4 [(0, rf X.2.2 0), (1, .int x1), (2, .int x2), (3, .int x3)] [] σ) : ∀ (x1 : Int32) (x2 : Int32) (x3 : Int32) (s0 : SS), fX6_costOf_4 N k4 x1 x2 x3 s0 = some res → G false X 4 4 [(0, rf X.2.2 0), (1, .int x1), (2, .int x2), (3, .int x3)] [] s0 := by
  intro x1 x2 x3 s0 h
  unfold fX6_costOf_4 at h
  refine g_iload_n F (j := 3) dX6_costOf_4 rfl rfl ?_
  refine g_aload_n F (a := 0) (j := 0) dX6_costOf_5 rfl rfl ?_
  refine gt_X6_67 F (k := 0) pm0 dX6_costOf_6 (v := .int (s0 0 3)) rfl ?_
  refine g_icmp_ge F (tgt := 47) dX6_costOf_9 (by decide) h (fun h => ?_) (fun h => ?_)
  · refine g_iload_n F (j := 2) dX6_costOf_47 rfl rfl ?_
    exact R _ _ _ _ dX6_costOf_48 h
  · refine g_iload_n F (j := 2) dX6_costOf_12 rfl rfl ?_
    refine g_aload_n F (a := 0) (j := 0) dX6_costOf_13 rfl rfl ?_
    refine g_iload_n F (j := 3) dX6_costOf_14 rfl rfl ?_
    refine g_iload_n F (j := 1) dX6_costOf_15 rfl rfl ?_
    refine g_vi F (k := 0) (As := [.int x3, .int x1]) (rest := [.int x2]) (fun _ q => mX6_isOf N F.inj  q) mw_X6_isOf ml_X6_102 rfl ⟨Nat.le_of_ble_eq_true rfl, Nat.le_of_ble_eq_true rfl⟩ pm0 cl6 rfl (Nat.le_of_ble_eq_true rfl) dX6_costOf_16 h (fun v1 s1 h => ?_)
    refine g_ifeq F (tgt := 38) dX6_costOf_19 (by decide) h (fun h => ?_) (fun h => ?_)
    · refine g_iconst F (v := 0) dX6_costOf_38 (by decide) ?_
      refine g_sub (lv' := [(0, rf X.2.2 0), (1, .int x1), (3, .int x3)]) [0, 1, 3] rfl ?_
      exact wX6_costOf_39 F R hk4 x1 x3 0 x2 s1 h
    · refine g_aload_n F (a := 0) (j := 0) dX6_costOf_22 rfl rfl ?_
      refine gt_X6_16 F (k := 0) pm0 dX6_costOf_23 (v := rf X.2.2 3) rfl ?_
      refine g_iload_n F (j := 3) dX6_costOf_26 rfl rfl ?_
      refine g_iald F (k := 3) pm3 dX6_costOf_27 h (fun h => ?_)
      refine g_aload_n F (a := 0) (j := 0) dX6_costOf_28 rfl rfl ?_
      refine gt_X6_19 F (k := 0) pm0 dX6_costOf_29 (v := rf X.2.2 4) rfl ?_
      refine g_iload_n F (j := 3) dX6_costOf_32 rfl rfl ?_
      refine g_iald F (k := 4) pm4 dX6_costOf_33 h (fun h => ?_)
      refine g_iadd F dX6_costOf_34 ?_
      refine g_goto F (tgt := 39) dX6_costOf_35 (by decide) ?_
      refine g_sub (lv' := [(0, rf X.2.2 0), (1, .int x1), (3, .int x3)]) [0, 1, 3] rfl ?_
      exact wX6_costOf_39 F R hk4 x1 x3 ((s1 3 (Int32.toNatClampNeg x3)) + (s1 4 (Int32.toNatClampNeg x3))) x2 s1 h
theorem wX6_costOf_4_lp {X : Cx} (F : Fx false X cX6_costOf RX6 4 3 67) {res : Int32 × SS} (R : RI false X cX6_costOf 4 res) {N : Nat} : ∀ (n : Nat) (x1 : Int32) (x2 : Int32) (x3 : Int32) (s0 : SS), lp (fX6_costOf_4 N) (fun _ _ _ _ => none) n x1 x2 x3 s0 = some res → G false X 4 4 [(0, rf X.2.2 0), (1, .int x1), (2, .int x2), (3, .int x3)] [] s0 := by
  intro n
  induction n with
  | zero => intro x1 x2 x3 s0 h; cases (show (none : Option (Int32 × SS)) = some res from h)
  | succ n ih => intro x1 x2 x3 s0 h; exact wX6_costOf_4 F R ih x1 x2 x3 s0 h
set_option maxRecDepth 20000 in
theorem wX6_costOf_e {X : Cx} (F : Fx false X cX6_costOf RX6 4 3 67) {res : Int32 × SS} (R : RI false X cX6_costOf 4 res) {N : Nat} : ∀ (a1 : Int32) (s0 : SS), fX6_costOf N a1 s0 = some res → G false X 4 0 [(0, rf X.2.2 0), (1, .int a1)] [] s0 := by
  intro a1 s0 h
  unfold fX6_costOf at h
  refine g_iconst F (v := 0) dX6_costOf_0 (by decide) ?_
  refine g_istore_n F dX6_costOf_1 rfl (by decide) (lv' := [(0, rf X.2.2 0), (1, .int a1), (2, .int 0)]) [1, 2, 0] rfl ?_
  refine g_iconst F (v := 0) dX6_costOf_2 (by decide) ?_
  refine g_istore_n F dX6_costOf_3 rfl (by decide) (lv' := [(0, rf X.2.2 0), (1, .int a1), (2, .int 0), (3, .int 0)]) [1, 2, 3, 0] rfl ?_
  exact wX6_costOf_4_lp F R N a1 0 0 s0 h
theorem mX6_costOf {l : Launch} {w : Wd} (N : Nat) (hi : inj false w)  {res : Int32 × SS} {a1 : Int32} {s0 : SS} (h : fX6_costOf N a1 s0 = some res) : MI false l yX6_costOf cX6_costOf 4 (some .int) { frames := 3, cells := 0, slots := 0, locals := 67 } w [rf w 0, .int a1] s0 res := by
  refine mk_i (by decide) hi (Nat.le_of_ble_eq_true rfl) (fun X hX hL F R => ?_)
  subst hX; subst hL
  exact wX6_costOf_e F R a1 s0 h
set_option maxRecDepth 20000 in
theorem wX6_carry_48 {X : Cx} (F : Fx false X cX6_carry RX6 4 4 90) {res : SS} (R : RV false X cX6_carry 4 res) {N : Nat} {k16 : Int32 → Int32 → Int32 → SS → Option (SS)} (hk16 : ∀ (x1 : Int32) (x2 : Int32) (x3 : Int32) (σ : SS), k16 x1 x2 x3 σ = some res → G false X 4 16 [(0, rf X.2.2 0), (1, .int x1), (2, .int x2), (3, .int x3)] [] σ) : ∀ (x1 : Int32) (x2 : Int32) (x3 : Int32) (t0 : Int32) (t1 : Int32) (s0 : SS), fX6_carry_48 N k16 x1 x2 x3 t0 t1 s0 = some res → G false X 4 48 [(0, rf X.2.2 0), (1, .int x1), (2, .int x2), (3, .int x3)] [.int t0, .int t1, rf X.2.2 13] s0 := by
  intro x1 x2 x3 t0 t1 s0 h
  unfold fX6_carry_48 at h
  refine g_iast F (k := 13) pm13 dX6_carry_48 h (fun s1 h => ?_)
  refine g_iinc F (j := 3) (v := x3 + 1) dX6_carry_49 rfl rfl (by decide) (lv' := [(0, rf X.2.2 0), (1, .int x1), (2, .int x2), (3, .int (x3 + 1))]) [1, 2, 3, 0] rfl ?_
  refine g_goto F (tgt := 16) dX6_carry_52 (by decide) ?_
  exact hk16 x1 x2 (x3 + 1) s1 h
set_option maxRecDepth 20000 in
theorem wX6_carry_57 {X : Cx} (F : Fx false X cX6_carry RX6 4 4 90) {res : SS} (R : RV false X cX6_carry 4 res) {N : Nat} {k57 : Int32 → SS → Option (SS)} (hk57 : ∀ (x3 : Int32) (σ : SS), k57 x3 σ = some res → G false X 4 57 [(0, rf X.2.2 0), (3, .int x3)] [] σ) : ∀ (x3 : Int32) (s0 : SS), fX6_carry_57 N k57 x3 s0 = some res → G false X 4 57 [(0, rf X.2.2 0), (3, .int x3)] [] s0 := by
  intro x3 s0 h
  unfold fX6_carry_57 at h
  refine g_iload_n F (j := 1) dX6_carry_57 rfl rfl ?_
  refine g_aload_n F (a := 0) (j := 0) dX6_carry_58 rfl rfl ?_
  refine gt_X6_67 F (k := 0) pm0 dX6_carry_59 (v := .int (s0 0 3)) rfl ?_
  refine g_icmp_ge F (tgt := 83) dX6_carry_62 (by decide) h (fun h => ?_) (fun h => ?_)
  · exact R _ _ _ dX6_carry_83 h
  · refine g_aload_n F (a := 0) (j := 0) dX6_carry_65 rfl rfl ?_
    refine gt_X6_28 F (k := 0) pm0 dX6_carry_66 (v := rf X.2.2 7) rfl ?_
    refine g_iload_n F (j := 1) dX6_carry_69 rfl rfl ?_
    refine g_aload_n F (a := 0) (j := 0) dX6_carry_70 rfl rfl ?_
    refine gt_X6_51 F (k := 0) pm0 dX6_carry_71 (v := rf X.2.2 13) rfl ?_
    refine g_iload_n F (j := 1) dX6_carry_74 rfl rfl ?_
    refine g_iald F (k := 13) pm13 dX6_carry_75 h (fun h => ?_)
    refine g_iast F (k := 7) pm7 dX6_carry_76 h (fun s1 h => ?_)
    refine g_iinc F (j := 1) (v := x3 + 1) dX6_carry_77 rfl rfl (by decide) (lv' := [(0, rf X.2.2 0), (3, .int (x3 + 1))]) [1, 0] rfl ?_
    refine g_goto F (tgt := 57) dX6_carry_80 (by decide) ?_
    exact hk57 (x3 + 1) s1 h
theorem wX6_carry_57_lp {X : Cx} (F : Fx false X cX6_carry RX6 4 4 90) {res : SS} (R : RV false X cX6_carry 4 res) {N : Nat} : ∀ (n : Nat) (x3 : Int32) (s0 : SS), lp (fX6_carry_57 N) (fun _ _ => none) n x3 s0 = some res → G false X 4 57 [(0, rf X.2.2 0), (3, .int x3)] [] s0 := by
  intro n
  induction n with
  | zero => intro x3 s0 h; cases (show (none : Option (SS)) = some res from h)
  | succ n ih => intro x3 s0 h; exact wX6_carry_57 F R ih x3 s0 h
set_option maxRecDepth 20000 in
theorem wX6_carry_16 {X : Cx} (F : Fx false X cX6_carry RX6 4 4 90) {res : SS} (R : RV false X cX6_carry 4 res) {N : Nat} {k16 : Int32 → Int32 → Int32 → SS → Option (SS)} (hk16 : ∀ (x1 : Int32) (x2 : Int32) (x3 : Int32) (σ : SS), k16 x1 x2 x3 σ = some res → G false X 4 16 [(0, rf X.2.2 0), (1, .int x1), (2, .int x2), (3, .int x3)] [] σ) : ∀ (x1 : Int32) (x2 : Int32) (x3 : Int32) (s0 : SS), fX6_carry_16 N k16 x1 x2 x3 s0 = some res → G false X 4 16 [(0, rf X.2.2 0), (1, .int x1), (2, .int x2), (3, .int x3)] [] s0 := by
  intro x1 x2 x3 s0 h
  unfold fX6_carry_16 at h
  refine g_iload_n F (j := 3) dX6_carry_16 rfl rfl ?_
  refine g_aload_n F (a := 0) (j := 0) dX6_carry_17 rfl rfl ?_
  refine gt_X6_67 F (k := 0) pm0 dX6_carry_18 (v := .int (s0 0 3)) rfl ?_
  refine g_icmp_ge F (tgt := 55) dX6_carry_21 (by decide) h (fun h => ?_) (fun h => ?_)
  · refine g_iconst F (v := 0) dX6_carry_55 (by decide) ?_
    refine g_istore_n F dX6_carry_56 rfl (by decide) (lv' := [(0, rf X.2.2 0), (3, .int 0)]) [1, 0] rfl ?_
    exact wX6_carry_57_lp F R N 0 s0 h
  · refine g_aload_n F (a := 0) (j := 0) dX6_carry_24 rfl rfl ?_
    refine gt_X6_51 F (k := 0) pm0 dX6_carry_25 (v := rf X.2.2 13) rfl ?_
    refine g_iload_n F (j := 3) dX6_carry_28 rfl rfl ?_
    refine g_aload_n F (a := 0) (j := 0) dX6_carry_29 rfl rfl ?_
    refine g_iload_n F (j := 3) dX6_carry_30 rfl rfl ?_
    refine g_iload_n F (j := 1) dX6_carry_31 rfl rfl ?_
    refine g_vi F (k := 0) (As := [.int x3, .int x1]) (rest := [.int x3, rf X.2.2 13]) (fun _ q => mX6_isOf N F.inj  q) mw_X6_isOf ml_X6_102 rfl ⟨Nat.le_of_ble_eq_true rfl, Nat.le_of_ble_eq_true rfl⟩ pm0 cl6 rfl (Nat.le_of_ble_eq_true rfl) dX6_carry_32 h (fun v1 s1 h => ?_)
    refine g_ifeq F (tgt := 42) dX6_carry_35 (by decide) h (fun h => ?_) (fun h => ?_)
    · refine g_aload_n F (a := 0) (j := 0) dX6_carry_42 rfl rfl ?_
      refine gt_X6_28 F (k := 0) pm0 dX6_carry_43 (v := rf X.2.2 7) rfl ?_
      refine g_iload_n F (j := 3) dX6_carry_46 rfl rfl ?_
      refine g_iald F (k := 7) pm7 dX6_carry_47 h (fun h => ?_)
      exact wX6_carry_48 F R hk16 x1 x2 x3 (s1 7 (Int32.toNatClampNeg x3)) x3 s1 h
    · refine g_iload_n F (j := 2) dX6_carry_38 rfl rfl ?_
      refine g_goto F (tgt := 48) dX6_carry_39 (by decide) ?_
      exact wX6_carry_48 F R hk16 x1 x2 x3 x2 x3 s1 h
theorem wX6_carry_16_lp {X : Cx} (F : Fx false X cX6_carry RX6 4 4 90) {res : SS} (R : RV false X cX6_carry 4 res) {N : Nat} : ∀ (n : Nat) (x1 : Int32) (x2 : Int32) (x3 : Int32) (s0 : SS), lp (fX6_carry_16 N) (fun _ _ _ _ => none) n x1 x2 x3 s0 = some res → G false X 4 16 [(0, rf X.2.2 0), (1, .int x1), (2, .int x2), (3, .int x3)] [] s0 := by
  intro n
  induction n with
  | zero => intro x1 x2 x3 s0 h; cases (show (none : Option (SS)) = some res from h)
  | succ n ih => intro x1 x2 x3 s0 h; exact wX6_carry_16 F R ih x1 x2 x3 s0 h
set_option maxRecDepth 20000 in
theorem wX6_carry_e {X : Cx} (F : Fx false X cX6_carry RX6 4 4 90) {res : SS} (R : RV false X cX6_carry 4 res) {N : Nat} : ∀ (a1 : Int32) (a2 : Int32) (s0 : SS), fX6_carry N a1 a2 s0 = some res → G false X 4 0 [(0, rf X.2.2 0), (1, .int a1), (2, .int a2)] [] s0 := by
  intro a1 a2 s0 h
  unfold fX6_carry at h
  refine g_aload_n F (a := 0) (j := 0) dX6_carry_0 rfl rfl ?_
  refine g_dupr F dX6_carry_1 ?_
  refine gt_X6_189 F (k := 0) pm0 dX6_carry_2 (v := .int (s0 0 12)) rfl ?_
  refine g_aload_n F (a := 0) (j := 0) dX6_carry_5 rfl rfl ?_
  refine g_iload_n F (j := 1) dX6_carry_6 rfl rfl ?_
  refine g_vi F (k := 0) (As := [.int a1]) (rest := [.int (s0 0 12), rf X.2.2 0]) (fun _ q => mX6_costOf N F.inj  q) mw_X6_costOf ml_X6_161 rfl ⟨Nat.le_of_ble_eq_true rfl, Nat.le_of_ble_eq_true rfl⟩ pm0 cl6 rfl (Nat.le_of_ble_eq_true rfl) dX6_carry_7 h (fun v1 s1 h => ?_)
  refine g_iadd F dX6_carry_10 ?_
  refine pt_X6_189 F (k := 0) pm0 (Nat.le_of_ble_eq_true rfl) rfl dX6_carry_11 h (fun s2 h => ?_)
  refine g_iconst F (v := 0) dX6_carry_14 (by decide) ?_
  refine g_istore_n F dX6_carry_15 rfl (by decide) (lv' := [(0, rf X.2.2 0), (1, .int a1), (2, .int a2), (3, .int 0)]) [1, 2, 3, 0] rfl ?_
  exact wX6_carry_16_lp F R N a1 a2 0 s2 h
theorem mX6_carry {l : Launch} {w : Wd} (N : Nat) (hi : inj false w)  {res : SS} {a1 a2 : Int32} {s0 : SS} (h : fX6_carry N a1 a2 s0 = some res) : MV false l yX6_carry cX6_carry 4 none { frames := 4, cells := 0, slots := 0, locals := 90 } w [rf w 0, .int a1, .int a2] s0 res := by
  refine mk_v (by decide) hi (Nat.le_of_ble_eq_true rfl) (fun X hX hL F R => ?_)
  subst hX; subst hL
  exact wX6_carry_e F R a1 a2 s0 h
set_option maxRecDepth 20000 in
theorem wX6_move_16 {X : Cx} (F : Fx false X cX6_move RX6 3 5 113) {res : Int32 × SS} (R : RI false X cX6_move 3 res) {N : Nat} : ∀  (s0 : SS), fX6_move_16 N s0 = some res → G false X 3 16 [] [] s0 := by
  intro  s0 h
  unfold fX6_move_16 at h
  refine g_bipush F (v := (-2)) dX6_move_16 (by decide) ?_
  exact R _ _ _ _ dX6_move_18 h
set_option maxRecDepth 20000 in
theorem wX6_move_60 {X : Cx} (F : Fx false X cX6_move RX6 3 5 113) {res : Int32 × SS} (R : RI false X cX6_move 3 res) {N : Nat} : ∀  (s0 : SS), fX6_move_60 N s0 = some res → G false X 3 60 [] [] s0 := by
  intro  s0 h
  unfold fX6_move_60 at h
  refine g_bipush F (v := (-3)) dX6_move_60 (by decide) ?_
  exact R _ _ _ _ dX6_move_62 h
set_option maxRecDepth 20000 in
theorem wX6_move_e {X : Cx} (F : Fx false X cX6_move RX6 3 5 113) {res : Int32 × SS} (R : RI false X cX6_move 3 res) {N : Nat} : ∀ (a1 : Int32) (a2 : Int32) (s0 : SS), fX6_move N a1 a2 s0 = some res → G false X 3 0 [(0, rf X.2.2 0), (1, .int a1), (2, .int a2)] [] s0 := by
  intro a1 a2 s0 h
  unfold fX6_move at h
  refine g_aload_n F (a := 0) (j := 0) dX6_move_0 rfl rfl ?_
  refine g_iload_n F (j := 1) dX6_move_1 rfl rfl ?_
  refine g_vi F (k := 0) (As := [.int a1]) (rest := []) (fun _ q => mX6_isBlock N F.inj  q) mw_X6_isBlock ml_X6_129 rfl ⟨Nat.le_of_ble_eq_true rfl, Nat.le_of_ble_eq_true rfl⟩ pm0 cl6 rfl (Nat.le_of_ble_eq_true rfl) dX6_move_2 h (fun v1 s1 h => ?_)
  refine g_ifeq F (tgt := 16) dX6_move_5 (by decide) h (fun h => ?_) (fun h => ?_)
  · refine g_sub (lv' := []) [] rfl ?_
    exact wX6_move_16 F R s1 h
  · refine g_aload_n F (a := 0) (j := 0) dX6_move_8 rfl rfl ?_
    refine g_iload_n F (j := 2) dX6_move_9 rfl rfl ?_
    refine g_vi F (k := 0) (As := [.int a2]) (rest := []) (fun _ q => mX6_isMachine N F.inj  q) mw_X6_isMachine ml_X6_73 rfl ⟨Nat.le_of_ble_eq_true rfl, Nat.le_of_ble_eq_true rfl⟩ pm0 cl6 rfl (Nat.le_of_ble_eq_true rfl) dX6_move_10 h (fun v2 s2 h => ?_)
    refine g_ifne F (tgt := 19) dX6_move_13 (by decide) h (fun h => ?_) (fun h => ?_)
    · refine g_sub (lv' := []) [] rfl ?_
      exact wX6_move_16 F R s2 h
    · refine g_aload_n F (a := 0) (j := 0) dX6_move_19 rfl rfl ?_
      refine g_iconst F (v := 0) dX6_move_20 (by decide) ?_
      refine pt_X6_164 F (k := 0) pm0 (Nat.le_of_ble_eq_true rfl) rfl dX6_move_21 h (fun s3 h => ?_)
      refine g_aload_n F (a := 0) (j := 0) dX6_move_24 rfl rfl ?_
      refine g_iconst F (v := 0) dX6_move_25 (by decide) ?_
      refine g_iconst F (v := (-1)) dX6_move_26 (by decide) ?_
      refine g_iconst F (v := (-1)) dX6_move_27 (by decide) ?_
      refine g_vv F (k := 0) (As := [.int 0, .int (-1), .int (-1)]) (rest := []) (fun _ q => mX6_place N F.inj  q) mw_X6_place ml_X6_167 rfl ⟨Nat.le_of_ble_eq_true rfl, Nat.le_of_ble_eq_true rfl⟩ pm0 cl6 rfl (Nat.le_of_ble_eq_true rfl) dX6_move_28 h (fun s4 h => ?_)
      refine g_aload_n F (a := 0) (j := 0) dX6_move_31 rfl rfl ?_
      refine gt_X6_22 F (k := 0) pm0 dX6_move_32 (v := rf X.2.2 5) rfl ?_
      refine g_iload_n F (j := 1) dX6_move_35 rfl rfl ?_
      refine g_iald F (k := 5) pm5 dX6_move_36 h (fun h => ?_)
      refine g_iconst F (v := 3) dX6_move_37 (by decide) ?_
      refine g_icmp_eq F (tgt := 60) dX6_move_38 (by decide) h (fun h => ?_) (fun h => ?_)
      · refine g_sub (lv' := []) [] rfl ?_
        exact wX6_move_60 F R s4 h
      · refine g_aload_n F (a := 0) (j := 0) dX6_move_41 rfl rfl ?_
        refine gt_X6_28 F (k := 0) pm0 dX6_move_42 (v := rf X.2.2 7) rfl ?_
        refine g_iload_n F (j := 1) dX6_move_45 rfl rfl ?_
        refine g_iald F (k := 7) pm7 dX6_move_46 h (fun h => ?_)
        refine g_iload_n F (j := 2) dX6_move_47 rfl rfl ?_
        refine g_icmp_eq F (tgt := 60) dX6_move_48 (by decide) h (fun h => ?_) (fun h => ?_)
        · refine g_sub (lv' := []) [] rfl ?_
          exact wX6_move_60 F R s4 h
        · refine g_aload_n F (a := 0) (j := 0) dX6_move_51 rfl rfl ?_
          refine g_iload_n F (j := 1) dX6_move_52 rfl rfl ?_
          refine g_iload_n F (j := 2) dX6_move_53 rfl rfl ?_
          refine g_vi F (k := 0) (As := [.int a1, .int a2]) (rest := []) (fun _ q => mX6_comes N F.inj  q) mw_X6_comes ml_X6_171 rfl ⟨Nat.le_of_ble_eq_true rfl, Nat.le_of_ble_eq_true rfl⟩ pm0 cl6 rfl (Nat.le_of_ble_eq_true rfl) dX6_move_54 h (fun v5 s5 h => ?_)
          refine g_ifne F (tgt := 63) dX6_move_57 (by decide) h (fun h => ?_) (fun h => ?_)
          · refine g_sub (lv' := []) [] rfl ?_
            exact wX6_move_60 F R s5 h
          · refine g_aload_n F (a := 0) (j := 0) dX6_move_63 rfl rfl ?_
            refine g_iload_n F (j := 1) dX6_move_64 rfl rfl ?_
            refine g_iload_n F (j := 2) dX6_move_65 rfl rfl ?_
            refine g_vv F (k := 0) (As := [.int a1, .int a2]) (rest := []) (fun _ q => mX6_carry N F.inj  q) mw_X6_carry ml_X6_192 rfl ⟨Nat.le_of_ble_eq_true rfl, Nat.le_of_ble_eq_true rfl⟩ pm0 cl6 rfl (Nat.le_of_ble_eq_true rfl) dX6_move_66 h (fun s6 h => ?_)
            refine g_aload_n F (a := 0) (j := 0) dX6_move_69 rfl rfl ?_
            refine g_iconst F (v := 0) dX6_move_70 (by decide) ?_
            refine pt_X6_88 F (k := 0) pm0 (Nat.le_of_ble_eq_true rfl) rfl dX6_move_71 (by decide) h (fun s7 h => ?_)
            refine g_iconst F (v := 1) dX6_move_74 (by decide) ?_
            exact R _ _ _ _ dX6_move_75 h
theorem mX6_move {l : Launch} {w : Wd} (N : Nat) (hi : inj false w)  {res : Int32 × SS} {a1 a2 : Int32} {s0 : SS} (h : fX6_move N a1 a2 s0 = some res) : MI false l yX6_move cX6_move 3 (some .int) { frames := 5, cells := 0, slots := 0, locals := 113 } w [rf w 0, .int a1, .int a2] s0 res := by
  refine mk_i (by decide) hi (Nat.le_of_ble_eq_true rfl) (fun X hX hL F R => ?_)
  subst hX; subst hL
  exact wX6_move_e F R a1 a2 s0 h
set_option maxRecDepth 20000 in
theorem wX5_price_e {X : Cx} (F : Fx true X cX5_price RX5 3 1 20) {res : Int32 × SS} (R : RI true X cX5_price 3 res) {N : Nat} : ∀ (a1 : Int32) (s0 : SS), fX5_price N a1 s0 = some res → G true X 3 0 [(0, rf X.2.2 0), (1, .int a1)] [] s0 := by
  intro a1 s0 h
  unfold fX5_price at h
  refine g_iload_n F (j := 1) dX5_price_0 rfl rfl ?_
  refine g_si F (As := [.int a1]) (rest := []) (fun _ q => mX5_isAmount N F.inj  q) mw_X5_isAmount ml_X5_71 rfl ⟨Nat.le_of_ble_eq_true rfl, Nat.le_of_ble_eq_true rfl⟩ rfl (Nat.le_of_ble_eq_true rfl) dX5_price_1 h (fun v1 s1 h => ?_)
  refine g_ifne F (tgt := 10) dX5_price_4 (by decide) h (fun h => ?_) (fun h => ?_)
  · refine g_bipush F (v := (-2)) dX5_price_7 (by decide) ?_
    exact R _ _ _ _ dX5_price_9 h
  · refine g_aload_n F (a := 0) (j := 0) dX5_price_10 rfl rfl ?_
    refine gt_X5_58 F (k := 0) pc0 dX5_price_11 (v := .int (s1 0 7)) rfl ?_
    refine g_istore_n F dX5_price_14 rfl (by decide) (lv' := [(0, rf X.2.2 0), (1, .int a1), (2, .int (s1 0 7))]) [1, 2, 0] rfl ?_
    refine g_aload_n F (a := 0) (j := 0) dX5_price_15 rfl rfl ?_
    refine g_iload_n F (j := 1) dX5_price_16 rfl rfl ?_
    refine pt_X5_58 F (k := 0) pc0 (Nat.le_of_ble_eq_true rfl) rfl dX5_price_17 h (fun s2 h => ?_)
    refine g_iload_n F (j := 2) dX5_price_20 rfl rfl ?_
    exact R _ _ _ _ dX5_price_21 h
theorem mX5_price {l : Launch} {w : Wd} (N : Nat) (hi : inj true w)  {res : Int32 × SS} {a1 : Int32} {s0 : SS} (h : fX5_price N a1 s0 = some res) : MI true l yX5_price cX5_price 3 (some .int) { frames := 1, cells := 0, slots := 0, locals := 20 } w [rf w 0, .int a1] s0 res := by
  refine mk_i (by decide) hi (Nat.le_of_ble_eq_true rfl) (fun X hX hL F R => ?_)
  subst hX; subst hL
  exact wX5_price_e F R a1 s0 h
set_option maxRecDepth 20000 in
theorem wX6_price_e {X : Cx} (F : Fx false X cX6_price RX6 3 1 22) {res : Int32 × SS} (R : RI false X cX6_price 3 res) {N : Nat} : ∀ (a1 : Int32) (s0 : SS), fX6_price N a1 s0 = some res → G false X 3 0 [(0, rf X.2.2 0), (1, .int a1)] [] s0 := by
  intro a1 s0 h
  unfold fX6_price at h
  refine g_iload_n F (j := 1) dX6_price_0 rfl rfl ?_
  refine g_iconst F (v := 0) dX6_price_1 (by decide) ?_
  refine g_sipush F (v := 1000) dX6_price_2 (by decide) ?_
  refine g_si F (As := [.int a1, .int 0, .int 1000]) (rest := []) (fun _ q => mX6_in N F.inj  q) mw_X6_in ml_X6_60 rfl ⟨Nat.le_of_ble_eq_true rfl, Nat.le_of_ble_eq_true rfl⟩ rfl (Nat.le_of_ble_eq_true rfl) dX6_price_5 h (fun v1 s1 h => ?_)
  refine g_ifne F (tgt := 14) dX6_price_8 (by decide) h (fun h => ?_) (fun h => ?_)
  · refine g_bipush F (v := (-2)) dX6_price_11 (by decide) ?_
    exact R _ _ _ _ dX6_price_13 h
  · refine g_aload_n F (a := 0) (j := 0) dX6_price_14 rfl rfl ?_
    refine gt_X6_35 F (k := 0) pm0 dX6_price_15 (v := .int (s1 0 11)) rfl ?_
    refine g_istore_n F dX6_price_18 rfl (by decide) (lv' := [(0, rf X.2.2 0), (1, .int a1), (2, .int (s1 0 11))]) [1, 2, 0] rfl ?_
    refine g_aload_n F (a := 0) (j := 0) dX6_price_19 rfl rfl ?_
    refine g_iload_n F (j := 1) dX6_price_20 rfl rfl ?_
    refine pt_X6_35 F (k := 0) pm0 (Nat.le_of_ble_eq_true rfl) rfl dX6_price_21 h (fun s2 h => ?_)
    refine g_iload_n F (j := 2) dX6_price_24 rfl rfl ?_
    exact R _ _ _ _ dX6_price_25 h
theorem mX6_price {l : Launch} {w : Wd} (N : Nat) (hi : inj false w)  {res : Int32 × SS} {a1 : Int32} {s0 : SS} (h : fX6_price N a1 s0 = some res) : MI false l yX6_price cX6_price 3 (some .int) { frames := 1, cells := 0, slots := 0, locals := 22 } w [rf w 0, .int a1] s0 res := by
  refine mk_i (by decide) hi (Nat.le_of_ble_eq_true rfl) (fun X hX hL F R => ?_)
  subst hX; subst hL
  exact wX6_price_e F R a1 s0 h
set_option maxRecDepth 20000 in
theorem wX5_about_129 {X : Cx} (F : Fx true X cX5_about RX5 4 1 21) {res : Int32 × SS} (R : RI true X cX5_about 4 res) {N : Nat} : ∀ (t0 : Int32) (s0 : SS), fX5_about_129 N t0 s0 = some res → G true X 4 129 [] [.int t0] s0 := by
  intro t0 s0 h
  unfold fX5_about_129 at h
  exact R _ _ _ _ dX5_about_129 h
set_option maxRecDepth 20000 in
theorem wX5_about_139 {X : Cx} (F : Fx true X cX5_about RX5 4 1 21) {res : Int32 × SS} (R : RI true X cX5_about 4 res) {N : Nat} : ∀ (t0 : Int32) (s0 : SS), fX5_about_139 N t0 s0 = some res → G true X 4 139 [] [.int t0] s0 := by
  intro t0 s0 h
  unfold fX5_about_139 at h
  exact R _ _ _ _ dX5_about_139 h
set_option maxRecDepth 20000 in
theorem wX5_about_32 {X : Cx} (F : Fx true X cX5_about RX5 4 1 21) {res : Int32 × SS} (R : RI true X cX5_about 4 res) {N : Nat} : ∀ (x1 : Int32) (x2 : Int32) (t0 : Int32) (s0 : SS), fX5_about_32 N x1 x2 t0 s0 = some res → G true X 4 32 [(0, rf X.2.2 0), (1, .int x1), (2, .int x2)] [.int t0] s0 := by
  intro x1 x2 t0 s0 h
  unfold fX5_about_32 at h
  refine g_istore_n F dX5_about_32 rfl (by decide) (lv' := [(0, rf X.2.2 0), (1, .int x1), (2, .int x2), (3, .int t0)]) [1, 2, 3, 0] rfl ?_
  refine g_iload_n F (j := 2) dX5_about_33 rfl rfl ?_
  have ex : x2 = x2 := rfl
  by_cases c0 : x2 = 0
  · rw [if_pos c0] at h
    refine g_tabIn F (tgt := 72) (off := 38) dX5_about_34 (by rw [c0]; decide) (by rw [c0]; decide) (by rw [c0]; rfl) (by decide) ?_
    refine g_aload_n F (a := 0) (j := 0) dX5_about_72 rfl rfl ?_
    refine gt_X5_21 F (k := 0) pc0 dX5_about_73 (v := rf X.2.2 13) rfl ?_
    refine gt_X5_115 F (k := 13) pc13 dX5_about_76 (v := rf X.2.2 14) rfl ?_
    refine g_iload_n F (j := 1) dX5_about_79 rfl rfl ?_
    refine g_iald F (k := 14) pc14 dX5_about_80 h (fun h => ?_)
    exact R _ _ _ _ dX5_about_81 h
  rw [if_neg c0] at h
  by_cases c1 : x2 = 1
  · rw [if_pos c1] at h
    refine g_tabIn F (tgt := 82) (off := 48) dX5_about_34 (by rw [c1]; decide) (by rw [c1]; decide) (by rw [c1]; rfl) (by decide) ?_
    refine g_aload_n F (a := 0) (j := 0) dX5_about_82 rfl rfl ?_
    refine gt_X5_10 F (k := 0) pc0 dX5_about_83 (v := rf X.2.2 1) rfl ?_
    refine gt_X5_124 F (k := 1) pc1 dX5_about_86 (v := rf X.2.2 4) rfl ?_
    refine g_iload_n F (j := 1) dX5_about_89 rfl rfl ?_
    refine g_iald F (k := 4) pc4 dX5_about_90 h (fun h => ?_)
    exact R _ _ _ _ dX5_about_91 h
  rw [if_neg c1] at h
  by_cases c2 : x2 = 2
  · rw [if_pos c2] at h
    refine g_tabIn F (tgt := 92) (off := 58) dX5_about_34 (by rw [c2]; decide) (by rw [c2]; decide) (by rw [c2]; rfl) (by decide) ?_
    refine g_aload_n F (a := 0) (j := 0) dX5_about_92 rfl rfl ?_
    refine gt_X5_10 F (k := 0) pc0 dX5_about_93 (v := rf X.2.2 1) rfl ?_
    refine gt_X5_127 F (k := 1) pc1 dX5_about_96 (v := rf X.2.2 5) rfl ?_
    refine g_iload_n F (j := 1) dX5_about_99 rfl rfl ?_
    refine g_iald F (k := 5) pc5 dX5_about_100 h (fun h => ?_)
    exact R _ _ _ _ dX5_about_101 h
  rw [if_neg c2] at h
  by_cases c3 : x2 = 3
  · rw [if_pos c3] at h
    refine g_tabIn F (tgt := 102) (off := 68) dX5_about_34 (by rw [c3]; decide) (by rw [c3]; decide) (by rw [c3]; rfl) (by decide) ?_
    refine g_aload_n F (a := 0) (j := 0) dX5_about_102 rfl rfl ?_
    refine gt_X5_10 F (k := 0) pc0 dX5_about_103 (v := rf X.2.2 1) rfl ?_
    refine gt_X5_112 F (k := 1) pc1 dX5_about_106 (v := rf X.2.2 6) rfl ?_
    refine g_iload_n F (j := 1) dX5_about_109 rfl rfl ?_
    refine g_iald F (k := 6) pc6 dX5_about_110 h (fun h => ?_)
    exact R _ _ _ _ dX5_about_111 h
  rw [if_neg c3] at h
  by_cases c4 : x2 = 4
  · rw [if_pos c4] at h
    refine g_tabIn F (tgt := 112) (off := 78) dX5_about_34 (by rw [c4]; decide) (by rw [c4]; decide) (by rw [c4]; rfl) (by decide) ?_
    refine g_iload_n F (j := 3) dX5_about_112 rfl rfl ?_
    refine g_ifeq F (tgt := 120) dX5_about_113 (by decide) h (fun h => ?_) (fun h => ?_)
    · refine g_aload_n F (a := 0) (j := 0) dX5_about_120 rfl rfl ?_
      refine gt_X5_10 F (k := 0) pc0 dX5_about_121 (v := rf X.2.2 1) rfl ?_
      refine gt_X5_130 F (k := 1) pc1 dX5_about_124 (v := rf X.2.2 10) rfl ?_
      refine g_iload_n F (j := 1) dX5_about_127 rfl rfl ?_
      refine g_iald F (k := 10) pc10 dX5_about_128 h (fun h => ?_)
      refine g_sub (lv' := []) [] rfl ?_
      exact wX5_about_129 F R (s0 10 (Int32.toNatClampNeg x1)) s0 h
    · refine g_iconst F (v := (-1)) dX5_about_116 (by decide) ?_
      refine g_goto F (tgt := 129) dX5_about_117 (by decide) ?_
      refine g_sub (lv' := []) [] rfl ?_
      exact wX5_about_129 F R (-1) s0 h
  rw [if_neg c4] at h
  by_cases c5 : x2 = 5
  · rw [if_pos c5] at h
    refine g_tabIn F (tgt := 130) (off := 96) dX5_about_34 (by rw [c5]; decide) (by rw [c5]; decide) (by rw [c5]; rfl) (by decide) ?_
    refine g_iload_n F (j := 3) dX5_about_130 rfl rfl ?_
    refine g_ifeq F (tgt := 138) dX5_about_131 (by decide) h (fun h => ?_) (fun h => ?_)
    · refine g_iconst F (v := 0) dX5_about_138 (by decide) ?_
      refine g_sub (lv' := []) [] rfl ?_
      exact wX5_about_139 F R 0 s0 h
    · refine g_iconst F (v := 1) dX5_about_134 (by decide) ?_
      refine g_goto F (tgt := 139) dX5_about_135 (by decide) ?_
      refine g_sub (lv' := []) [] rfl ?_
      exact wX5_about_139 F R 1 s0 h
  rw [if_neg c5] at h
  refine g_tabOut F (tgt := 140) dX5_about_34 (tab_out_6 c0 c1 c2 c3 c4 c5) (by decide) ?_
  refine g_bipush F (v := (-2)) dX5_about_140 (by decide) ?_
  exact R _ _ _ _ dX5_about_142 h
set_option maxRecDepth 20000 in
theorem wX5_about_e {X : Cx} (F : Fx true X cX5_about RX5 4 1 21) {res : Int32 × SS} (R : RI true X cX5_about 4 res) {N : Nat} : ∀ (a1 : Int32) (a2 : Int32) (s0 : SS), fX5_about N a1 a2 s0 = some res → G true X 4 0 [(0, rf X.2.2 0), (1, .int a1), (2, .int a2)] [] s0 := by
  intro a1 a2 s0 h
  unfold fX5_about at h
  refine g_aload_n F (a := 0) (j := 0) dX5_about_0 rfl rfl ?_
  refine gt_X5_10 F (k := 0) pc0 dX5_about_1 (v := rf X.2.2 1) rfl ?_
  refine g_iload_n F (j := 1) dX5_about_4 rfl rfl ?_
  refine g_vi F (k := 1) (As := [.int a1]) (rest := []) (fun _ q => mX3_hasWork N F.inj  q) mw_X3_hasWork ml_X5_106 rfl ⟨Nat.le_of_ble_eq_true rfl, Nat.le_of_ble_eq_true rfl⟩ pc1 cl3 rfl (Nat.le_of_ble_eq_true rfl) dX5_about_5 h (fun v1 s1 h => ?_)
  refine g_ifne F (tgt := 14) dX5_about_8 (by decide) h (fun h => ?_) (fun h => ?_)
  · refine g_bipush F (v := (-2)) dX5_about_11 (by decide) ?_
    exact R _ _ _ _ dX5_about_13 h
  · refine g_aload_n F (a := 0) (j := 0) dX5_about_14 rfl rfl ?_
    refine gt_X5_21 F (k := 0) pc0 dX5_about_15 (v := rf X.2.2 13) rfl ?_
    refine gt_X5_115 F (k := 13) pc13 dX5_about_18 (v := rf X.2.2 14) rfl ?_
    refine g_iload_n F (j := 1) dX5_about_21 rfl rfl ?_
    refine g_iald F (k := 14) pc14 dX5_about_22 h (fun h => ?_)
    refine g_iconst F (v := (-1)) dX5_about_23 (by decide) ?_
    refine g_icmp_ne F (tgt := 31) dX5_about_24 (by decide) h (fun h => ?_) (fun h => ?_)
    · refine g_iconst F (v := 1) dX5_about_27 (by decide) ?_
      refine g_goto F (tgt := 32) dX5_about_28 (by decide) ?_
      exact wX5_about_32 F R a1 a2 1 s1 h
    · refine g_iconst F (v := 0) dX5_about_31 (by decide) ?_
      exact wX5_about_32 F R a1 a2 0 s1 h
theorem mX5_about {l : Launch} {w : Wd} (N : Nat) (hi : inj true w)  {res : Int32 × SS} {a1 a2 : Int32} {s0 : SS} (h : fX5_about N a1 a2 s0 = some res) : MI true l yX5_about cX5_about 4 (some .int) { frames := 1, cells := 0, slots := 0, locals := 21 } w [rf w 0, .int a1, .int a2] s0 res := by
  refine mk_i (by decide) hi (Nat.le_of_ble_eq_true rfl) (fun X hX hL F R => ?_)
  subst hX; subst hL
  exact wX5_about_e F R a1 a2 s0 h
set_option maxRecDepth 20000 in
theorem wX6_about_23 {X : Cx} (F : Fx false X cX6_about RX6 3 2 45) {res : Int32 × SS} (R : RI false X cX6_about 3 res) {N : Nat} : ∀  (s0 : SS), fX6_about_23 N s0 = some res → G false X 3 23 [] [] s0 := by
  intro  s0 h
  unfold fX6_about_23 at h
  refine g_bipush F (v := (-2)) dX6_about_23 (by decide) ?_
  exact R _ _ _ _ dX6_about_25 h
set_option maxRecDepth 20000 in
theorem wX6_about_79 {X : Cx} (F : Fx false X cX6_about RX6 3 2 45) {res : Int32 × SS} (R : RI false X cX6_about 3 res) {N : Nat} : ∀ (t0 : Int32) (s0 : SS), fX6_about_79 N t0 s0 = some res → G false X 3 79 [] [.int t0] s0 := by
  intro t0 s0 h
  unfold fX6_about_79 at h
  exact R _ _ _ _ dX6_about_79 h
set_option maxRecDepth 20000 in
theorem wX6_about_119 {X : Cx} (F : Fx false X cX6_about RX6 3 2 45) {res : Int32 × SS} (R : RI false X cX6_about 3 res) {N : Nat} : ∀ (t0 : Int32) (s0 : SS), fX6_about_119 N t0 s0 = some res → G false X 3 119 [] [.int t0] s0 := by
  intro t0 s0 h
  unfold fX6_about_119 at h
  exact R _ _ _ _ dX6_about_119 h
set_option maxRecDepth 20000 in
theorem wX6_about_134 {X : Cx} (F : Fx false X cX6_about RX6 3 2 45) {res : Int32 × SS} (R : RI false X cX6_about 3 res) {N : Nat} : ∀ (t0 : Int32) (s0 : SS), fX6_about_134 N t0 s0 = some res → G false X 3 134 [] [.int t0] s0 := by
  intro t0 s0 h
  unfold fX6_about_134 at h
  exact R _ _ _ _ dX6_about_134 h
set_option maxRecDepth 20000 in
theorem wX6_about_e {X : Cx} (F : Fx false X cX6_about RX6 3 2 45) {res : Int32 × SS} (R : RI false X cX6_about 3 res) {N : Nat} : ∀ (a1 : Int32) (a2 : Int32) (s0 : SS), fX6_about N a1 a2 s0 = some res → G false X 3 0 [(0, rf X.2.2 0), (1, .int a1), (2, .int a2)] [] s0 := by
  intro a1 a2 s0 h
  unfold fX6_about at h
  refine g_iload_n F (j := 1) dX6_about_0 rfl rfl ?_
  refine g_iconst F (v := 0) dX6_about_1 (by decide) ?_
  refine g_aload_n F (a := 0) (j := 0) dX6_about_2 rfl rfl ?_
  refine gt_X6_67 F (k := 0) pm0 dX6_about_3 (v := .int (s0 0 3)) rfl ?_
  refine g_iconst F (v := 1) dX6_about_6 (by decide) ?_
  refine g_isub F dX6_about_7 ?_
  refine g_si F (As := [.int a1, .int 0, .int ((s0 0 3) - 1)]) (rest := []) (fun _ q => mX6_in N F.inj  q) mw_X6_in ml_X6_60 rfl ⟨Nat.le_of_ble_eq_true rfl, Nat.le_of_ble_eq_true rfl⟩ rfl (Nat.le_of_ble_eq_true rfl) dX6_about_8 h (fun v1 s1 h => ?_)
  refine g_ifeq F (tgt := 23) dX6_about_11 (by decide) h (fun h => ?_) (fun h => ?_)
  · refine g_sub (lv' := []) [] rfl ?_
    exact wX6_about_23 F R s1 h
  · refine g_iload_n F (j := 2) dX6_about_14 rfl rfl ?_
    refine g_iconst F (v := 0) dX6_about_15 (by decide) ?_
    refine g_iconst F (v := 5) dX6_about_16 (by decide) ?_
    refine g_si F (As := [.int a2, .int 0, .int 5]) (rest := []) (fun _ q => mX6_in N F.inj  q) mw_X6_in ml_X6_60 rfl ⟨Nat.le_of_ble_eq_true rfl, Nat.le_of_ble_eq_true rfl⟩ rfl (Nat.le_of_ble_eq_true rfl) dX6_about_17 h (fun v2 s2 h => ?_)
    refine g_ifne F (tgt := 26) dX6_about_20 (by decide) h (fun h => ?_) (fun h => ?_)
    · refine g_sub (lv' := []) [] rfl ?_
      exact wX6_about_23 F R s2 h
    · refine g_iload_n F (j := 2) dX6_about_26 rfl rfl ?_
      have ex : a2 = a2 := rfl
      by_cases c0 : a2 = 0
      · rw [if_pos c0] at h
        refine g_tabIn F (tgt := 60) (off := 33) dX6_about_27 (by rw [c0]; decide) (by rw [c0]; decide) (by rw [c0]; rfl) (by decide) ?_
        refine g_aload_n F (a := 0) (j := 0) dX6_about_60 rfl rfl ?_
        refine gt_X6_31 F (k := 0) pm0 dX6_about_61 (v := rf X.2.2 8) rfl ?_
        refine g_iload_n F (j := 1) dX6_about_64 rfl rfl ?_
        refine g_zald F (k := 8) pm8 dX6_about_65 h (fun h => ?_)
        refine g_ifeq F (tgt := 73) dX6_about_66 (by decide) h (fun h => ?_) (fun h => ?_)
        · refine g_aload_n F (a := 0) (j := 0) dX6_about_73 rfl rfl ?_
          refine gt_X6_28 F (k := 0) pm0 dX6_about_74 (v := rf X.2.2 7) rfl ?_
          refine g_iload_n F (j := 1) dX6_about_77 rfl rfl ?_
          refine g_iald F (k := 7) pm7 dX6_about_78 h (fun h => ?_)
          refine g_sub (lv' := []) [] rfl ?_
          exact wX6_about_79 F R (s2 7 (Int32.toNatClampNeg a1)) s2 h
        · refine g_iconst F (v := (-1)) dX6_about_69 (by decide) ?_
          refine g_goto F (tgt := 79) dX6_about_70 (by decide) ?_
          refine g_sub (lv' := []) [] rfl ?_
          exact wX6_about_79 F R (-1) s2 h
      rw [if_neg c0] at h
      by_cases c1 : a2 = 1
      · rw [if_pos c1] at h
        refine g_tabIn F (tgt := 80) (off := 53) dX6_about_27 (by rw [c1]; decide) (by rw [c1]; decide) (by rw [c1]; rfl) (by decide) ?_
        refine g_aload_n F (a := 0) (j := 0) dX6_about_80 rfl rfl ?_
        refine gt_X6_16 F (k := 0) pm0 dX6_about_81 (v := rf X.2.2 3) rfl ?_
        refine g_iload_n F (j := 1) dX6_about_84 rfl rfl ?_
        refine g_iald F (k := 3) pm3 dX6_about_85 h (fun h => ?_)
        exact R _ _ _ _ dX6_about_86 h
      rw [if_neg c1] at h
      by_cases c2 : a2 = 2
      · rw [if_pos c2] at h
        refine g_tabIn F (tgt := 87) (off := 60) dX6_about_27 (by rw [c2]; decide) (by rw [c2]; decide) (by rw [c2]; rfl) (by decide) ?_
        refine g_aload_n F (a := 0) (j := 0) dX6_about_87 rfl rfl ?_
        refine gt_X6_19 F (k := 0) pm0 dX6_about_88 (v := rf X.2.2 4) rfl ?_
        refine g_iload_n F (j := 1) dX6_about_91 rfl rfl ?_
        refine g_iald F (k := 4) pm4 dX6_about_92 h (fun h => ?_)
        exact R _ _ _ _ dX6_about_93 h
      rw [if_neg c2] at h
      by_cases c3 : a2 = 3
      · rw [if_pos c3] at h
        refine g_tabIn F (tgt := 94) (off := 67) dX6_about_27 (by rw [c3]; decide) (by rw [c3]; decide) (by rw [c3]; rfl) (by decide) ?_
        refine g_aload_n F (a := 0) (j := 0) dX6_about_94 rfl rfl ?_
        refine gt_X6_22 F (k := 0) pm0 dX6_about_95 (v := rf X.2.2 5) rfl ?_
        refine g_iload_n F (j := 1) dX6_about_98 rfl rfl ?_
        refine g_iald F (k := 5) pm5 dX6_about_99 h (fun h => ?_)
        exact R _ _ _ _ dX6_about_100 h
      rw [if_neg c3] at h
      by_cases c4 : a2 = 4
      · rw [if_pos c4] at h
        refine g_tabIn F (tgt := 101) (off := 74) dX6_about_27 (by rw [c4]; decide) (by rw [c4]; decide) (by rw [c4]; rfl) (by decide) ?_
        refine g_aload_n F (a := 0) (j := 0) dX6_about_101 rfl rfl ?_
        refine gt_X6_31 F (k := 0) pm0 dX6_about_102 (v := rf X.2.2 8) rfl ?_
        refine g_iload_n F (j := 1) dX6_about_105 rfl rfl ?_
        refine g_zald F (k := 8) pm8 dX6_about_106 h (fun h => ?_)
        refine g_ifeq F (tgt := 114) dX6_about_107 (by decide) h (fun h => ?_) (fun h => ?_)
        · refine g_aload_n F (a := 0) (j := 0) dX6_about_114 rfl rfl ?_
          refine g_iload_n F (j := 1) dX6_about_115 rfl rfl ?_
          refine g_vi F (k := 0) (As := [.int a1]) (rest := []) (fun _ q => mX6_blockOf N F.inj  q) mw_X6_blockOf ml_X6_99 rfl ⟨Nat.le_of_ble_eq_true rfl, Nat.le_of_ble_eq_true rfl⟩ pm0 cl6 rfl (Nat.le_of_ble_eq_true rfl) dX6_about_116 h (fun v3 s3 h => ?_)
          refine g_sub (lv' := []) [] rfl ?_
          exact wX6_about_119 F R v3 s3 h
        · refine g_iconst F (v := (-1)) dX6_about_110 (by decide) ?_
          refine g_goto F (tgt := 119) dX6_about_111 (by decide) ?_
          refine g_sub (lv' := []) [] rfl ?_
          exact wX6_about_119 F R (-1) s2 h
      rw [if_neg c4] at h
      refine g_tabOut F (tgt := 120) dX6_about_27 (tab_out_5 c0 c1 c2 c3 c4) (by decide) ?_
      refine g_aload_n F (a := 0) (j := 0) dX6_about_120 rfl rfl ?_
      refine gt_X6_31 F (k := 0) pm0 dX6_about_121 (v := rf X.2.2 8) rfl ?_
      refine g_iload_n F (j := 1) dX6_about_124 rfl rfl ?_
      refine g_zald F (k := 8) pm8 dX6_about_125 h (fun h => ?_)
      refine g_ifeq F (tgt := 133) dX6_about_126 (by decide) h (fun h => ?_) (fun h => ?_)
      · refine g_iconst F (v := 0) dX6_about_133 (by decide) ?_
        refine g_sub (lv' := []) [] rfl ?_
        exact wX6_about_134 F R 0 s2 h
      · refine g_iconst F (v := 1) dX6_about_129 (by decide) ?_
        refine g_goto F (tgt := 134) dX6_about_130 (by decide) ?_
        refine g_sub (lv' := []) [] rfl ?_
        exact wX6_about_134 F R 1 s2 h
theorem mX6_about {l : Launch} {w : Wd} (N : Nat) (hi : inj false w)  {res : Int32 × SS} {a1 a2 : Int32} {s0 : SS} (h : fX6_about N a1 a2 s0 = some res) : MI false l yX6_about cX6_about 3 (some .int) { frames := 2, cells := 0, slots := 0, locals := 45 } w [rf w 0, .int a1, .int a2] s0 res := by
  refine mk_i (by decide) hi (Nat.le_of_ble_eq_true rfl) (fun X hX hL F R => ?_)
  subst hX; subst hL
  exact wX6_about_e F R a1 a2 s0 h
set_option maxRecDepth 20000 in
theorem wX5_free_e {X : Cx} (F : Fx true X cX5_free RX5 3 1 21) {res : Int32 × SS} (R : RI true X cX5_free 3 res) {N : Nat} : ∀ (a1 : Int32) (a2 : Int32) (s0 : SS), fX5_free N a1 a2 s0 = some res → G true X 3 0 [(0, rf X.2.2 0), (1, .int a1), (2, .int a2)] [] s0 := by
  intro a1 a2 s0 h
  unfold fX5_free at h
  refine g_aload_n F (a := 0) (j := 0) dX5_free_0 rfl rfl ?_
  refine gt_X5_10 F (k := 0) pc0 dX5_free_1 (v := rf X.2.2 1) rfl ?_
  refine g_iload_n F (j := 1) dX5_free_4 rfl rfl ?_
  refine g_vi F (k := 1) (As := [.int a1]) (rest := []) (fun _ q => mX3_hasMachine N F.inj  q) mw_X3_hasMachine ml_X5_86 rfl ⟨Nat.le_of_ble_eq_true rfl, Nat.le_of_ble_eq_true rfl⟩ pc1 cl3 rfl (Nat.le_of_ble_eq_true rfl) dX5_free_5 h (fun v1 s1 h => ?_)
  refine g_ifne F (tgt := 14) dX5_free_8 (by decide) h (fun h => ?_) (fun h => ?_)
  · refine g_bipush F (v := (-2)) dX5_free_11 (by decide) ?_
    exact R _ _ _ _ dX5_free_13 h
  · refine g_iload_n F (j := 2) dX5_free_14 rfl rfl ?_
    have ex : a2 = a2 := rfl
    by_cases c0 : a2 = 0
    · rw [if_pos c0] at h
      refine g_tabIn F (tgt := 40) (off := 25) dX5_free_15 (by rw [c0]; decide) (by rw [c0]; decide) (by rw [c0]; rfl) (by decide) ?_
      refine g_aload_n F (a := 0) (j := 0) dX5_free_40 rfl rfl ?_
      refine gt_X5_21 F (k := 0) pc0 dX5_free_41 (v := rf X.2.2 13) rfl ?_
      refine g_iload_n F (j := 1) dX5_free_44 rfl rfl ?_
      refine g_vi F (k := 13) (As := [.int a1]) (rest := []) (fun _ q => mX1_freeA N F.inj row13 q) mw_X1_freeA ml_X5_133 rfl ⟨Nat.le_of_ble_eq_true rfl, Nat.le_of_ble_eq_true rfl⟩ pc13 cl1 rfl (Nat.le_of_ble_eq_true rfl) dX5_free_45 h (fun v2 s2 h => ?_)
      exact R _ _ _ _ dX5_free_48 h
    rw [if_neg c0] at h
    by_cases c1 : a2 = 1
    · rw [if_pos c1] at h
      refine g_tabIn F (tgt := 49) (off := 34) dX5_free_15 (by rw [c1]; decide) (by rw [c1]; decide) (by rw [c1]; rfl) (by decide) ?_
      refine g_aload_n F (a := 0) (j := 0) dX5_free_49 rfl rfl ?_
      refine gt_X5_21 F (k := 0) pc0 dX5_free_50 (v := rf X.2.2 13) rfl ?_
      refine g_iload_n F (j := 1) dX5_free_53 rfl rfl ?_
      refine g_vi F (k := 13) (As := [.int a1]) (rest := []) (fun _ q => mX1_freeB N F.inj row13 q) mw_X1_freeB ml_X5_137 rfl ⟨Nat.le_of_ble_eq_true rfl, Nat.le_of_ble_eq_true rfl⟩ pc13 cl1 rfl (Nat.le_of_ble_eq_true rfl) dX5_free_54 h (fun v3 s3 h => ?_)
      exact R _ _ _ _ dX5_free_57 h
    rw [if_neg c1] at h
    by_cases c2 : a2 = 2
    · rw [if_pos c2] at h
      refine g_tabIn F (tgt := 58) (off := 43) dX5_free_15 (by rw [c2]; decide) (by rw [c2]; decide) (by rw [c2]; rfl) (by decide) ?_
      refine g_aload_n F (a := 0) (j := 0) dX5_free_58 rfl rfl ?_
      refine gt_X5_21 F (k := 0) pc0 dX5_free_59 (v := rf X.2.2 13) rfl ?_
      refine gt_X5_140 F (k := 13) pc13 dX5_free_62 (v := rf X.2.2 17) rfl ?_
      refine g_iload_n F (j := 1) dX5_free_65 rfl rfl ?_
      refine g_iald F (k := 17) pc17 dX5_free_66 h (fun h => ?_)
      exact R _ _ _ _ dX5_free_67 h
    rw [if_neg c2] at h
    refine g_tabOut F (tgt := 68) dX5_free_15 (tab_out_3 c0 c1 c2) (by decide) ?_
    refine g_bipush F (v := (-2)) dX5_free_68 (by decide) ?_
    exact R _ _ _ _ dX5_free_70 h
theorem mX5_free {l : Launch} {w : Wd} (N : Nat) (hi : inj true w)  {res : Int32 × SS} {a1 a2 : Int32} {s0 : SS} (h : fX5_free N a1 a2 s0 = some res) : MI true l yX5_free cX5_free 3 (some .int) { frames := 1, cells := 0, slots := 0, locals := 21 } w [rf w 0, .int a1, .int a2] s0 res := by
  refine mk_i (by decide) hi (Nat.le_of_ble_eq_true rfl) (fun X hX hL F R => ?_)
  subst hX; subst hL
  exact wX5_free_e F R a1 a2 s0 h
set_option maxRecDepth 20000 in
theorem wX6_many_37 {X : Cx} (F : Fx false X cX6_many RX6 4 0 0) {res : Int32 × SS} (R : RI false X cX6_many 4 res) {N : Nat} {k4 : Int32 → Int32 → Int32 → SS → Option (Int32 × SS)} (hk4 : ∀ (x1 : Int32) (x2 : Int32) (x3 : Int32) (σ : SS), k4 x1 x2 x3 σ = some res → G false X 4 4 [(0, rf X.2.2 0), (1, .int x1), (2, .int x2), (3, .int x3)] [] σ) : ∀ (x1 : Int32) (x3 : Int32) (t0 : Int32) (t1 : Int32) (s0 : SS), fX6_many_37 N k4 x1 x3 t0 t1 s0 = some res → G false X 4 37 [(0, rf X.2.2 0), (1, .int x1), (3, .int x3)] [.int t0, .int t1] s0 := by
  intro x1 x3 t0 t1 s0 h
  unfold fX6_many_37 at h
  refine g_iadd F dX6_many_37 ?_
  refine g_istore_n F dX6_many_38 rfl (by decide) (lv' := [(0, rf X.2.2 0), (1, .int x1), (2, .int (t1 + t0)), (3, .int x3)]) [1, 2, 0, 3] rfl ?_
  refine g_iinc F (j := 3) (v := x3 + 1) dX6_many_39 rfl rfl (by decide) (lv' := [(0, rf X.2.2 0), (1, .int x1), (2, .int (t1 + t0)), (3, .int (x3 + 1))]) [1, 2, 3, 0] rfl ?_
  refine g_goto F (tgt := 4) dX6_many_42 (by decide) ?_
  exact hk4 x1 (t1 + t0) (x3 + 1) s0 h
set_option maxRecDepth 20000 in
theorem wX6_many_36 {X : Cx} (F : Fx false X cX6_many RX6 4 0 0) {res : Int32 × SS} (R : RI false X cX6_many 4 res) {N : Nat} {k4 : Int32 → Int32 → Int32 → SS → Option (Int32 × SS)} (hk4 : ∀ (x1 : Int32) (x2 : Int32) (x3 : Int32) (σ : SS), k4 x1 x2 x3 σ = some res → G false X 4 4 [(0, rf X.2.2 0), (1, .int x1), (2, .int x2), (3, .int x3)] [] σ) : ∀ (x1 : Int32) (x3 : Int32) (t0 : Int32) (s0 : SS), fX6_many_36 N k4 x1 x3 t0 s0 = some res → G false X 4 36 [(0, rf X.2.2 0), (1, .int x1), (3, .int x3)] [.int t0] s0 := by
  intro x1 x3 t0 s0 h
  unfold fX6_many_36 at h
  refine g_iconst F (v := 0) dX6_many_36 (by decide) ?_
  exact wX6_many_37 F R hk4 x1 x3 0 t0 s0 h
set_option maxRecDepth 20000 in
theorem wX6_many_4 {X : Cx} (F : Fx false X cX6_many RX6 4 0 0) {res : Int32 × SS} (R : RI false X cX6_many 4 res) {N : Nat} {k4 : Int32 → Int32 → Int32 → SS → Option (Int32 × SS)} (hk4 : ∀ (x1 : Int32) (x2 : Int32) (x3 : Int32) (σ : SS), k4 x1 x2 x3 σ = some res → G false X 4 4 [(0, rf X.2.2 0), (1, .int x1), (2, .int x2), (3, .int x3)] [] σ) : ∀ (x1 : Int32) (x2 : Int32) (x3 : Int32) (s0 : SS), fX6_many_4 N k4 x1 x2 x3 s0 = some res → G false X 4 4 [(0, rf X.2.2 0), (1, .int x1), (2, .int x2), (3, .int x3)] [] s0 := by
  intro x1 x2 x3 s0 h
  unfold fX6_many_4 at h
  refine g_iload_n F (j := 3) dX6_many_4 rfl rfl ?_
  refine g_aload_n F (a := 0) (j := 0) dX6_many_5 rfl rfl ?_
  refine gt_X6_67 F (k := 0) pm0 dX6_many_6 (v := .int (s0 0 3)) rfl ?_
  refine g_icmp_ge F (tgt := 45) dX6_many_9 (by decide) h (fun h => ?_) (fun h => ?_)
  · refine g_iload_n F (j := 2) dX6_many_45 rfl rfl ?_
    exact R _ _ _ _ dX6_many_46 h
  · refine g_iload_n F (j := 2) dX6_many_12 rfl rfl ?_
    refine g_aload_n F (a := 0) (j := 0) dX6_many_13 rfl rfl ?_
    refine gt_X6_31 F (k := 0) pm0 dX6_many_14 (v := rf X.2.2 8) rfl ?_
    refine g_iload_n F (j := 3) dX6_many_17 rfl rfl ?_
    refine g_zald F (k := 8) pm8 dX6_many_18 h (fun h => ?_)
    refine g_ifne F (tgt := 36) dX6_many_19 (by decide) h (fun h => ?_) (fun h => ?_)
    · refine g_aload_n F (a := 0) (j := 0) dX6_many_22 rfl rfl ?_
      refine gt_X6_28 F (k := 0) pm0 dX6_many_23 (v := rf X.2.2 7) rfl ?_
      refine g_iload_n F (j := 3) dX6_many_26 rfl rfl ?_
      refine g_iald F (k := 7) pm7 dX6_many_27 h (fun h => ?_)
      refine g_iload_n F (j := 1) dX6_many_28 rfl rfl ?_
      refine g_icmp_ne F (tgt := 36) dX6_many_29 (by decide) h (fun h => ?_) (fun h => ?_)
      · refine g_iconst F (v := 1) dX6_many_32 (by decide) ?_
        refine g_goto F (tgt := 37) dX6_many_33 (by decide) ?_
        refine g_sub (lv' := [(0, rf X.2.2 0), (1, .int x1), (3, .int x3)]) [0, 1, 3] rfl ?_
        exact wX6_many_37 F R hk4 x1 x3 1 x2 s0 h
      · refine g_sub (lv' := [(0, rf X.2.2 0), (1, .int x1), (3, .int x3)]) [0, 1, 3] rfl ?_
        exact wX6_many_36 F R hk4 x1 x3 x2 s0 h
    · refine g_sub (lv' := [(0, rf X.2.2 0), (1, .int x1), (3, .int x3)]) [0, 1, 3] rfl ?_
      exact wX6_many_36 F R hk4 x1 x3 x2 s0 h
theorem wX6_many_4_lp {X : Cx} (F : Fx false X cX6_many RX6 4 0 0) {res : Int32 × SS} (R : RI false X cX6_many 4 res) {N : Nat} : ∀ (n : Nat) (x1 : Int32) (x2 : Int32) (x3 : Int32) (s0 : SS), lp (fX6_many_4 N) (fun _ _ _ _ => none) n x1 x2 x3 s0 = some res → G false X 4 4 [(0, rf X.2.2 0), (1, .int x1), (2, .int x2), (3, .int x3)] [] s0 := by
  intro n
  induction n with
  | zero => intro x1 x2 x3 s0 h; cases (show (none : Option (Int32 × SS)) = some res from h)
  | succ n ih => intro x1 x2 x3 s0 h; exact wX6_many_4 F R ih x1 x2 x3 s0 h
set_option maxRecDepth 20000 in
theorem wX6_many_e {X : Cx} (F : Fx false X cX6_many RX6 4 0 0) {res : Int32 × SS} (R : RI false X cX6_many 4 res) {N : Nat} : ∀ (a1 : Int32) (s0 : SS), fX6_many N a1 s0 = some res → G false X 4 0 [(0, rf X.2.2 0), (1, .int a1)] [] s0 := by
  intro a1 s0 h
  unfold fX6_many at h
  refine g_iconst F (v := 0) dX6_many_0 (by decide) ?_
  refine g_istore_n F dX6_many_1 rfl (by decide) (lv' := [(0, rf X.2.2 0), (1, .int a1), (2, .int 0)]) [1, 2, 0] rfl ?_
  refine g_iconst F (v := 0) dX6_many_2 (by decide) ?_
  refine g_istore_n F dX6_many_3 rfl (by decide) (lv' := [(0, rf X.2.2 0), (1, .int a1), (2, .int 0), (3, .int 0)]) [1, 2, 3, 0] rfl ?_
  exact wX6_many_4_lp F R N a1 0 0 s0 h
theorem mX6_many {l : Launch} {w : Wd} (N : Nat) (hi : inj false w)  {res : Int32 × SS} {a1 : Int32} {s0 : SS} (h : fX6_many N a1 s0 = some res) : MI false l yX6_many cX6_many 4 (some .int) { frames := 0, cells := 0, slots := 0, locals := 0 } w [rf w 0, .int a1] s0 res := by
  refine mk_i (by decide) hi (Nat.le_of_ble_eq_true rfl) (fun X hX hL F R => ?_)
  subst hX; subst hL
  exact wX6_many_e F R a1 s0 h
