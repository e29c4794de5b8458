set_option maxRecDepth 20000 in
theorem wX5_digest_47 {X : Cx} (F : Fx true X cX5_digest RX5 5 2 44) {res : Int64 × SS} (R : RL64 true X cX5_digest 5 res) {N : Nat} {k33 : Int64 → Int32 → SS → Option (Int64 × SS)} {k47 : Int64 → Int32 → Int32 → SS → Option (Int64 × SS)} (hk33 : ∀ (x1 : Int64) (x3 : Int32) (σ : SS), k33 x1 x3 σ = some res → G true X 5 33 [(0, rf X.2.2 0), (1, .long x1), (3, .int x3)] [] σ) (hk47 : ∀ (x1 : Int64) (x3 : Int32) (x4 : Int32) (σ : SS), k47 x1 x3 x4 σ = some res → G true X 5 47 [(0, rf X.2.2 0), (1, .long x1), (3, .int x3), (4, .int x4)] [] σ) : ∀ (x1 : Int64) (x3 : Int32) (x4 : Int32) (s0 : SS), fX5_digest_47 N k33 k47 x1 x3 x4 s0 = some res → G true X 5 47 [(0, rf X.2.2 0), (1, .long x1), (3, .int x3), (4, .int x4)] [] s0 := by
  intro x1 x3 x4 s0 h
  unfold fX5_digest_47 at h
  refine g_iload F (j := 3) dX5_digest_47 rfl ?_
  refine g_iconst F (v := 5) dX5_digest_49 (by decide) ?_
  refine g_icmp_gt F (tgt := 74) dX5_digest_50 (by decide) h (fun h => ?_) (fun h => ?_)
  · refine g_ldc2 F (inr_28 _ (List.mem_of_getElem? (i := 16) rfl)) dX5_digest_74 ?_
    refine g_lload_n F (j := 1) dX5_digest_77 rfl rfl ?_
    refine g_lmul F dX5_digest_78 ?_
    refine g_aload_n F (a := 0) (j := 0) dX5_digest_79 rfl rfl ?_
    refine g_iload_n F (j := 2) dX5_digest_80 rfl rfl ?_
    refine g_vi F (k := 0) (As := [.int x3]) (rest := [.long (31 * x1)]) (fun _ q => mX5_planAt N F.inj  q) mw_X5_planAt ml_X5_227 rfl ⟨Nat.le_of_ble_eq_true rfl, Nat.le_of_ble_eq_true rfl⟩ pc0 cl5 rfl (Nat.le_of_ble_eq_true rfl) dX5_digest_81 h (fun v1 s1 h => ?_)
    refine g_i2l F dX5_digest_84 ?_
    refine g_ladd F dX5_digest_85 ?_
    refine g_lstore_n F dX5_digest_86 rfl (by decide) (lv' := [(0, rf X.2.2 0), (1, .long ((31 * x1) + (Int32.toInt64 v1))), (3, .int x3)]) [1, 0, 2] rfl ?_
    refine g_iinc F (j := 2) (v := x3 + 1) dX5_digest_87 rfl rfl (by decide) (lv' := [(0, rf X.2.2 0), (1, .long ((31 * x1) + (Int32.toInt64 v1))), (3, .int (x3 + 1))]) [1, 2, 0] rfl ?_
    refine g_goto F (tgt := 33) dX5_digest_90 (by decide) ?_
    exact hk33 ((31 * x1) + (Int32.toInt64 v1)) (x3 + 1) s1 h
  · refine g_ldc2 F (inr_28 _ (List.mem_of_getElem? (i := 16) rfl)) dX5_digest_53 ?_
    refine g_lload_n F (j := 1) dX5_digest_56 rfl rfl ?_
    refine g_lmul F dX5_digest_57 ?_
    refine g_aload_n F (a := 0) (j := 0) dX5_digest_58 rfl rfl ?_
    refine g_iload_n F (j := 2) dX5_digest_59 rfl rfl ?_
    refine g_iload F (j := 3) dX5_digest_60 rfl ?_
    refine g_vi F (k := 0) (As := [.int x3, .int x4]) (rest := [.long (31 * x1)]) (fun _ q => mX5_about N F.inj  q) mw_X5_about ml_X5_224 rfl ⟨Nat.le_of_ble_eq_true rfl, Nat.le_of_ble_eq_true rfl⟩ pc0 cl5 rfl (Nat.le_of_ble_eq_true rfl) dX5_digest_62 h (fun v2 s2 h => ?_)
    refine g_i2l F dX5_digest_65 ?_
    refine g_ladd F dX5_digest_66 ?_
    refine g_lstore_n F dX5_digest_67 rfl (by decide) (lv' := [(0, rf X.2.2 0), (1, .long ((31 * x1) + (Int32.toInt64 v2))), (3, .int x3), (4, .int x4)]) [1, 0, 2, 3] rfl ?_
    refine g_iinc F (j := 3) (v := x4 + 1) dX5_digest_68 rfl rfl (by decide) (lv' := [(0, rf X.2.2 0), (1, .long ((31 * x1) + (Int32.toInt64 v2))), (3, .int x3), (4, .int (x4 + 1))]) [1, 2, 3, 0] rfl ?_
    refine g_goto F (tgt := 47) dX5_digest_71 (by decide) ?_
    exact hk47 ((31 * x1) + (Int32.toInt64 v2)) x3 (x4 + 1) s2 h
theorem wX5_digest_47_lp {X : Cx} (F : Fx true X cX5_digest RX5 5 2 44) {res : Int64 × SS} (R : RL64 true X cX5_digest 5 res) {N : Nat} {k33 : Int64 → Int32 → SS → Option (Int64 × SS)} (hk33 : ∀ (x1 : Int64) (x3 : Int32) (σ : SS), k33 x1 x3 σ = some res → G true X 5 33 [(0, rf X.2.2 0), (1, .long x1), (3, .int x3)] [] σ) : ∀ (n : Nat) (x1 : Int64) (x3 : Int32) (x4 : Int32) (s0 : SS), lp (fX5_digest_47 N k33) (fun _ _ _ _ => none) n x1 x3 x4 s0 = some res → G true X 5 47 [(0, rf X.2.2 0), (1, .long x1), (3, .int x3), (4, .int x4)] [] s0 := by
  intro n
  induction n with
  | zero => intro x1 x3 x4 s0 h; cases (show (none : Option (Int64 × SS)) = some res from h)
  | succ n ih => intro x1 x3 x4 s0 h; exact wX5_digest_47 F R hk33 ih x1 x3 x4 s0 h
set_option maxRecDepth 20000 in
theorem wX5_digest_109 {X : Cx} (F : Fx true X cX5_digest RX5 5 2 44) {res : Int64 × SS} (R : RL64 true X cX5_digest 5 res) {N : Nat} {k95 : Int64 → Int32 → SS → Option (Int64 × SS)} {k109 : Int64 → Int32 → Int32 → SS → Option (Int64 × SS)} (hk95 : ∀ (x1 : Int64) (x3 : Int32) (σ : SS), k95 x1 x3 σ = some res → G true X 5 95 [(0, rf X.2.2 0), (1, .long x1), (3, .int x3)] [] σ) (hk109 : ∀ (x1 : Int64) (x3 : Int32) (x4 : Int32) (σ : SS), k109 x1 x3 x4 σ = some res → G true X 5 109 [(0, rf X.2.2 0), (1, .long x1), (3, .int x3), (4, .int x4)] [] σ) : ∀ (x1 : Int64) (x3 : Int32) (x4 : Int32) (s0 : SS), fX5_digest_109 N k95 k109 x1 x3 x4 s0 = some res → G true X 5 109 [(0, rf X.2.2 0), (1, .long x1), (3, .int x3), (4, .int x4)] [] s0 := by
  intro x1 x3 x4 s0 h
  unfold fX5_digest_109 at h
  refine g_iload F (j := 3) dX5_digest_109 rfl ?_
  refine g_iconst F (v := 2) dX5_digest_111 (by decide) ?_
  refine g_icmp_gt F (tgt := 136) dX5_digest_112 (by decide) h (fun h => ?_) (fun h => ?_)
  · refine g_iinc F (j := 2) (v := x3 + 1) dX5_digest_136 rfl rfl (by decide) (lv' := [(0, rf X.2.2 0), (1, .long x1), (3, .int (x3 + 1))]) [1, 2, 0] rfl ?_
    refine g_goto F (tgt := 95) dX5_digest_139 (by decide) ?_
    exact hk95 x1 (x3 + 1) s0 h
  · refine g_ldc2 F (inr_28 _ (List.mem_of_getElem? (i := 16) rfl)) dX5_digest_115 ?_
    refine g_lload_n F (j := 1) dX5_digest_118 rfl rfl ?_
    refine g_lmul F dX5_digest_119 ?_
    refine g_aload_n F (a := 0) (j := 0) dX5_digest_120 rfl rfl ?_
    refine g_iload_n F (j := 2) dX5_digest_121 rfl rfl ?_
    refine g_iload F (j := 3) dX5_digest_122 rfl ?_
    refine g_vi F (k := 0) (As := [.int x3, .int x4]) (rest := [.long (31 * x1)]) (fun _ q => mX5_free N F.inj  q) mw_X5_free ml_X5_230 rfl ⟨Nat.le_of_ble_eq_true rfl, Nat.le_of_ble_eq_true rfl⟩ pc0 cl5 rfl (Nat.le_of_ble_eq_true rfl) dX5_digest_124 h (fun v1 s1 h => ?_)
    refine g_i2l F dX5_digest_127 ?_
    refine g_ladd F dX5_digest_128 ?_
    refine g_lstore_n F dX5_digest_129 rfl (by decide) (lv' := [(0, rf X.2.2 0), (1, .long ((31 * x1) + (Int32.toInt64 v1))), (3, .int x3), (4, .int x4)]) [1, 0, 2, 3] rfl ?_
    refine g_iinc F (j := 3) (v := x4 + 1) dX5_digest_130 rfl rfl (by decide) (lv' := [(0, rf X.2.2 0), (1, .long ((31 * x1) + (Int32.toInt64 v1))), (3, .int x3), (4, .int (x4 + 1))]) [1, 2, 3, 0] rfl ?_
    refine g_goto F (tgt := 109) dX5_digest_133 (by decide) ?_
    exact hk109 ((31 * x1) + (Int32.toInt64 v1)) x3 (x4 + 1) s1 h
theorem wX5_digest_109_lp {X : Cx} (F : Fx true X cX5_digest RX5 5 2 44) {res : Int64 × SS} (R : RL64 true X cX5_digest 5 res) {N : Nat} {k95 : Int64 → Int32 → SS → Option (Int64 × SS)} (hk95 : ∀ (x1 : Int64) (x3 : Int32) (σ : SS), k95 x1 x3 σ = some res → G true X 5 95 [(0, rf X.2.2 0), (1, .long x1), (3, .int x3)] [] σ) : ∀ (n : Nat) (x1 : Int64) (x3 : Int32) (x4 : Int32) (s0 : SS), lp (fX5_digest_109 N k95) (fun _ _ _ _ => none) n x1 x3 x4 s0 = some res → G true X 5 109 [(0, rf X.2.2 0), (1, .long x1), (3, .int x3), (4, .int x4)] [] s0 := by
  intro n
  induction n with
  | zero => intro x1 x3 x4 s0 h; cases (show (none : Option (Int64 × SS)) = some res from h)
  | succ n ih => intro x1 x3 x4 s0 h; exact wX5_digest_109 F R hk95 ih x1 x3 x4 s0 h
set_option maxRecDepth 20000 in
theorem wX5_digest_95 {X : Cx} (F : Fx true X cX5_digest RX5 5 2 44) {res : Int64 × SS} (R : RL64 true X cX5_digest 5 res) {N : Nat} {k95 : Int64 → Int32 → SS → Option (Int64 × SS)} (hk95 : ∀ (x1 : Int64) (x3 : Int32) (σ : SS), k95 x1 x3 σ = some res → G true X 5 95 [(0, rf X.2.2 0), (1, .long x1), (3, .int x3)] [] σ) : ∀ (x1 : Int64) (x3 : Int32) (s0 : SS), fX5_digest_95 N k95 x1 x3 s0 = some res → G true X 5 95 [(0, rf X.2.2 0), (1, .long x1), (3, .int x3)] [] s0 := by
  intro x1 x3 s0 h
  unfold fX5_digest_95 at h
  refine g_iload_n F (j := 2) dX5_digest_95 rfl rfl ?_
  refine g_aload_n F (a := 0) (j := 0) dX5_digest_96 rfl rfl ?_
  refine gt_X5_10 F (k := 0) pc0 dX5_digest_97 (v := rf X.2.2 1) rfl ?_
  refine gt_X5_75 F (k := 1) pc1 dX5_digest_100 (v := .int (s0 1 0)) rfl ?_
  refine g_icmp_ge F (tgt := 142) dX5_digest_103 (by decide) h (fun h => ?_) (fun h => ?_)
  · refine g_lload_n F (j := 1) dX5_digest_142 rfl rfl ?_
    exact R _ _ _ _ dX5_digest_143 h
  · refine g_iconst F (v := 0) dX5_digest_106 (by decide) ?_
    refine g_istore F dX5_digest_107 (by decide) (lv' := [(0, rf X.2.2 0), (1, .long x1), (3, .int x3), (4, .int 0)]) [1, 2, 3, 0] rfl ?_
    exact wX5_digest_109_lp F R hk95 N x1 x3 0 s0 h
theorem wX5_digest_95_lp {X : Cx} (F : Fx true X cX5_digest RX5 5 2 44) {res : Int64 × SS} (R : RL64 true X cX5_digest 5 res) {N : Nat} : ∀ (n : Nat) (x1 : Int64) (x3 : Int32) (s0 : SS), lp (fX5_digest_95 N) (fun _ _ _ => none) n x1 x3 s0 = some res → G true X 5 95 [(0, rf X.2.2 0), (1, .long x1), (3, .int x3)] [] s0 := by
  intro n
  induction n with
  | zero => intro x1 x3 s0 h; cases (show (none : Option (Int64 × SS)) = some res from h)
  | succ n ih => intro x1 x3 s0 h; exact wX5_digest_95 F R ih x1 x3 s0 h
set_option maxRecDepth 20000 in
theorem wX5_digest_33 {X : Cx} (F : Fx true X cX5_digest RX5 5 2 44) {res : Int64 × SS} (R : RL64 true X cX5_digest 5 res) {N : Nat} {k33 : Int64 → Int32 → SS → Option (Int64 × SS)} (hk33 : ∀ (x1 : Int64) (x3 : Int32) (σ : SS), k33 x1 x3 σ = some res → G true X 5 33 [(0, rf X.2.2 0), (1, .long x1), (3, .int x3)] [] σ) : ∀ (x1 : Int64) (x3 : Int32) (s0 : SS), fX5_digest_33 N k33 x1 x3 s0 = some res → G true X 5 33 [(0, rf X.2.2 0), (1, .long x1), (3, .int x3)] [] s0 := by
  intro x1 x3 s0 h
  unfold fX5_digest_33 at h
  refine g_iload_n F (j := 2) dX5_digest_33 rfl rfl ?_
  refine g_aload_n F (a := 0) (j := 0) dX5_digest_34 rfl rfl ?_
  refine gt_X5_10 F (k := 0) pc0 dX5_digest_35 (v := rf X.2.2 1) rfl ?_
  refine gt_X5_96 F (k := 1) pc1 dX5_digest_38 (v := .int (s0 1 1)) rfl ?_
  refine g_icmp_ge F (tgt := 93) dX5_digest_41 (by decide) h (fun h => ?_) (fun h => ?_)
  · refine g_iconst F (v := 0) dX5_digest_93 (by decide) ?_
    refine g_istore_n F dX5_digest_94 rfl (by decide) (lv' := [(0, rf X.2.2 0), (1, .long x1), (3, .int 0)]) [1, 2, 0] rfl ?_
    exact wX5_digest_95_lp F R N x1 0 s0 h
  · refine g_iconst F (v := 0) dX5_digest_44 (by decide) ?_
    refine g_istore F dX5_digest_45 (by decide) (lv' := [(0, rf X.2.2 0), (1, .long x1), (3, .int x3), (4, .int 0)]) [1, 2, 3, 0] rfl ?_
    exact wX5_digest_47_lp F R hk33 N x1 x3 0 s0 h
theorem wX5_digest_33_lp {X : Cx} (F : Fx true X cX5_digest RX5 5 2 44) {res : Int64 × SS} (R : RL64 true X cX5_digest 5 res) {N : Nat} : ∀ (n : Nat) (x1 : Int64) (x3 : Int32) (s0 : SS), lp (fX5_digest_33 N) (fun _ _ _ => none) n x1 x3 s0 = some res → G true X 5 33 [(0, rf X.2.2 0), (1, .long x1), (3, .int x3)] [] s0 := by
  intro n
  induction n with
  | zero => intro x1 x3 s0 h; cases (show (none : Option (Int64 × SS)) = some res from h)
  | succ n ih => intro x1 x3 s0 h; exact wX5_digest_33 F R ih x1 x3 s0 h
set_option maxRecDepth 20000 in
theorem wX5_digest_6 {X : Cx} (F : Fx true X cX5_digest RX5 5 2 44) {res : Int64 × SS} (R : RL64 true X cX5_digest 5 res) {N : Nat} {k6 : Int64 → Int32 → SS → Option (Int64 × SS)} (hk6 : ∀ (x1 : Int64) (x3 : Int32) (σ : SS), k6 x1 x3 σ = some res → G true X 5 6 [(0, rf X.2.2 0), (1, .long x1), (3, .int x3)] [] σ) : ∀ (x1 : Int64) (x3 : Int32) (s0 : SS), fX5_digest_6 N k6 x1 x3 s0 = some res → G true X 5 6 [(0, rf X.2.2 0), (1, .long x1), (3, .int x3)] [] s0 := by
  intro x1 x3 s0 h
  unfold fX5_digest_6 at h
  refine g_iload_n F (j := 2) dX5_digest_6 rfl rfl ?_
  refine g_bipush F (v := 6) dX5_digest_7 (by decide) ?_
  refine g_icmp_gt F (tgt := 31) dX5_digest_9 (by decide) h (fun h => ?_) (fun h => ?_)
  · refine g_iconst F (v := 0) dX5_digest_31 (by decide) ?_
    refine g_istore_n F dX5_digest_32 rfl (by decide) (lv' := [(0, rf X.2.2 0), (1, .long x1), (3, .int 0)]) [1, 2, 0] rfl ?_
    exact wX5_digest_33_lp F R N x1 0 s0 h
  · refine g_ldc2 F (inr_28 _ (List.mem_of_getElem? (i := 16) rfl)) dX5_digest_12 ?_
    refine g_lload_n F (j := 1) dX5_digest_15 rfl rfl ?_
    refine g_lmul F dX5_digest_16 ?_
    refine g_aload_n F (a := 0) (j := 0) dX5_digest_17 rfl rfl ?_
    refine g_iload_n F (j := 2) dX5_digest_18 rfl rfl ?_
    refine g_vi F (k := 0) (As := [.int x3]) (rest := [.long (31 * x1)]) (fun _ q => mX5_count N F.inj  q) mw_X5_count ml_X5_221 rfl ⟨Nat.le_of_ble_eq_true rfl, Nat.le_of_ble_eq_true rfl⟩ pc0 cl5 rfl (Nat.le_of_ble_eq_true rfl) dX5_digest_19 h (fun v1 s1 h => ?_)
    refine g_i2l F dX5_digest_22 ?_
    refine g_ladd F dX5_digest_23 ?_
    refine g_lstore_n F dX5_digest_24 rfl (by decide) (lv' := [(0, rf X.2.2 0), (1, .long ((31 * x1) + (Int32.toInt64 v1))), (3, .int x3)]) [1, 0, 2] rfl ?_
    refine g_iinc F (j := 2) (v := x3 + 1) dX5_digest_25 rfl rfl (by decide) (lv' := [(0, rf X.2.2 0), (1, .long ((31 * x1) + (Int32.toInt64 v1))), (3, .int (x3 + 1))]) [1, 2, 0] rfl ?_
    refine g_goto F (tgt := 6) dX5_digest_28 (by decide) ?_
    exact hk6 ((31 * x1) + (Int32.toInt64 v1)) (x3 + 1) s1 h
theorem wX5_digest_6_lp {X : Cx} (F : Fx true X cX5_digest RX5 5 2 44) {res : Int64 × SS} (R : RL64 true X cX5_digest 5 res) {N : Nat} : ∀ (n : Nat) (x1 : Int64) (x3 : Int32) (s0 : SS), lp (fX5_digest_6 N) (fun _ _ _ => none) n x1 x3 s0 = some res → G true X 5 6 [(0, rf X.2.2 0), (1, .long x1), (3, .int x3)] [] s0 := by
  intro n
  induction n with
  | zero => intro x1 x3 s0 h; cases (show (none : Option (Int64 × SS)) = some res from h)
  | succ n ih => intro x1 x3 s0 h; exact wX5_digest_6 F R ih x1 x3 s0 h
set_option maxRecDepth 20000 in
theorem wX5_digest_e {X : Cx} (F : Fx true X cX5_digest RX5 5 2 44) {res : Int64 × SS} (R : RL64 true X cX5_digest 5 res) {N : Nat} : ∀  (s0 : SS), fX5_digest N s0 = some res → G true X 5 0 [(0, rf X.2.2 0)] [] s0 := by
  intro  s0 h
  unfold fX5_digest at h
  refine g_ldc2 F (inr_28 _ (List.mem_of_getElem? (i := 15) rfl)) dX5_digest_0 ?_
  refine g_lstore_n F dX5_digest_3 rfl (by decide) (lv' := [(0, rf X.2.2 0), (1, .long 127)]) [1, 0] rfl ?_
  refine g_iconst F (v := 0) dX5_digest_4 (by decide) ?_
  refine g_istore_n F dX5_digest_5 rfl (by decide) (lv' := [(0, rf X.2.2 0), (1, .long 127), (3, .int 0)]) [1, 2, 0] rfl ?_
  exact wX5_digest_6_lp F R N 127 0 s0 h
theorem mX5_digest {l : Launch} {w : Wd} (N : Nat) (hi : inj true w)  {res : Int64 × SS} {s0 : SS} (h : fX5_digest N s0 = some res) : ML true l yX5_digest cX5_digest 5 (some .long) { frames := 2, cells := 0, slots := 0, locals := 44 } w [rf w 0] s0 res := by
  refine mk_l (by decide) hi (Nat.le_of_ble_eq_true rfl) (fun X hX hL F R => ?_)
  subst hX; subst hL
  exact wX5_digest_e F R  s0 h
set_option maxRecDepth 20000 in
theorem wX6_digest_44 {X : Cx} (F : Fx false X cX6_digest RX6 5 3 67) {res : Int64 × SS} (R : RL64 false X cX6_digest 5 res) {N : Nat} {k33 : Int64 → Int32 → SS → Option (Int64 × SS)} {k44 : Int64 → Int32 → Int32 → SS → Option (Int64 × SS)} (hk33 : ∀ (x1 : Int64) (x3 : Int32) (σ : SS), k33 x1 x3 σ = some res → G false X 5 33 [(0, rf X.2.2 0), (1, .long x1), (3, .int x3)] [] σ) (hk44 : ∀ (x1 : Int64) (x3 : Int32) (x4 : Int32) (σ : SS), k44 x1 x3 x4 σ = some res → G false X 5 44 [(0, rf X.2.2 0), (1, .long x1), (3, .int x3), (4, .int x4)] [] σ) : ∀ (x1 : Int64) (x3 : Int32) (x4 : Int32) (s0 : SS), fX6_digest_44 N k33 k44 x1 x3 x4 s0 = some res → G false X 5 44 [(0, rf X.2.2 0), (1, .long x1), (3, .int x3), (4, .int x4)] [] s0 := by
  intro x1 x3 x4 s0 h
  unfold fX6_digest_44 at h
  refine g_iload F (j := 3) dX6_digest_44 rfl ?_
  refine g_bipush F (v := 6) dX6_digest_46 (by decide) ?_
  refine g_icmp_ge F (tgt := 72) dX6_digest_48 (by decide) h (fun h => ?_) (fun h => ?_)
  · refine g_ldc2 F (inr_29 _ (List.mem_of_getElem? (i := 2) rfl)) dX6_digest_72 ?_
    refine g_lload_n F (j := 1) dX6_digest_75 rfl rfl ?_
    refine g_lmul F dX6_digest_76 ?_
    refine g_aload_n F (a := 0) (j := 0) dX6_digest_77 rfl rfl ?_
    refine g_iload_n F (j := 2) dX6_digest_78 rfl rfl ?_
    refine g_vi F (k := 0) (As := [.int x3]) (rest := [.long (31 * x1)]) (fun _ q => mX6_planAt N F.inj  q) mw_X6_planAt ml_X6_214 rfl ⟨Nat.le_of_ble_eq_true rfl, Nat.le_of_ble_eq_true rfl⟩ pm0 cl6 rfl (Nat.le_of_ble_eq_true rfl) dX6_digest_79 h (fun v1 s1 h => ?_)
    refine g_i2l F dX6_digest_82 ?_
    refine g_ladd F dX6_digest_83 ?_
    refine g_lstore_n F dX6_digest_84 rfl (by decide) (lv' := [(0, rf X.2.2 0), (1, .long ((31 * x1) + (Int32.toInt64 v1))), (3, .int x3)]) [1, 0, 2] rfl ?_
    refine g_iinc F (j := 2) (v := x3 + 1) dX6_digest_85 rfl rfl (by decide) (lv' := [(0, rf X.2.2 0), (1, .long ((31 * x1) + (Int32.toInt64 v1))), (3, .int (x3 + 1))]) [1, 2, 0] rfl ?_
    refine g_goto F (tgt := 33) dX6_digest_88 (by decide) ?_
    exact hk33 ((31 * x1) + (Int32.toInt64 v1)) (x3 + 1) s1 h
  · refine g_ldc2 F (inr_29 _ (List.mem_of_getElem? (i := 2) rfl)) dX6_digest_51 ?_
    refine g_lload_n F (j := 1) dX6_digest_54 rfl rfl ?_
    refine g_lmul F dX6_digest_55 ?_
    refine g_aload_n F (a := 0) (j := 0) dX6_digest_56 rfl rfl ?_
    refine g_iload_n F (j := 2) dX6_digest_57 rfl rfl ?_
    refine g_iload F (j := 3) dX6_digest_58 rfl ?_
    refine g_vi F (k := 0) (As := [.int x3, .int x4]) (rest := [.long (31 * x1)]) (fun _ q => mX6_about N F.inj  q) mw_X6_about ml_X6_211 rfl ⟨Nat.le_of_ble_eq_true rfl, Nat.le_of_ble_eq_true rfl⟩ pm0 cl6 rfl (Nat.le_of_ble_eq_true rfl) dX6_digest_60 h (fun v2 s2 h => ?_)
    refine g_i2l F dX6_digest_63 ?_
    refine g_ladd F dX6_digest_64 ?_
    refine g_lstore_n F dX6_digest_65 rfl (by decide) (lv' := [(0, rf X.2.2 0), (1, .long ((31 * x1) + (Int32.toInt64 v2))), (3, .int x3), (4, .int x4)]) [1, 0, 2, 3] rfl ?_
    refine g_iinc F (j := 3) (v := x4 + 1) dX6_digest_66 rfl rfl (by decide) (lv' := [(0, rf X.2.2 0), (1, .long ((31 * x1) + (Int32.toInt64 v2))), (3, .int x3), (4, .int (x4 + 1))]) [1, 2, 3, 0] rfl ?_
    refine g_goto F (tgt := 44) dX6_digest_69 (by decide) ?_
    exact hk44 ((31 * x1) + (Int32.toInt64 v2)) x3 (x4 + 1) s2 h
theorem wX6_digest_44_lp {X : Cx} (F : Fx false X cX6_digest RX6 5 3 67) {res : Int64 × SS} (R : RL64 false X cX6_digest 5 res) {N : Nat} {k33 : Int64 → Int32 → SS → Option (Int64 × SS)} (hk33 : ∀ (x1 : Int64) (x3 : Int32) (σ : SS), k33 x1 x3 σ = some res → G false X 5 33 [(0, rf X.2.2 0), (1, .long x1), (3, .int x3)] [] σ) : ∀ (n : Nat) (x1 : Int64) (x3 : Int32) (x4 : Int32) (s0 : SS), lp (fX6_digest_44 N k33) (fun _ _ _ _ => none) n x1 x3 x4 s0 = some res → G false X 5 44 [(0, rf X.2.2 0), (1, .long x1), (3, .int x3), (4, .int x4)] [] s0 := by
  intro n
  induction n with
  | zero => intro x1 x3 x4 s0 h; cases (show (none : Option (Int64 × SS)) = some res from h)
  | succ n ih => intro x1 x3 x4 s0 h; exact wX6_digest_44 F R hk33 ih x1 x3 x4 s0 h
set_option maxRecDepth 20000 in
theorem wX6_digest_104 {X : Cx} (F : Fx false X cX6_digest RX6 5 3 67) {res : Int64 × SS} (R : RL64 false X cX6_digest 5 res) {N : Nat} {k93 : Int64 → Int32 → SS → Option (Int64 × SS)} {k104 : Int64 → Int32 → Int32 → SS → Option (Int64 × SS)} (hk93 : ∀ (x1 : Int64) (x3 : Int32) (σ : SS), k93 x1 x3 σ = some res → G false X 5 93 [(0, rf X.2.2 0), (1, .long x1), (3, .int x3)] [] σ) (hk104 : ∀ (x1 : Int64) (x3 : Int32) (x4 : Int32) (σ : SS), k104 x1 x3 x4 σ = some res → G false X 5 104 [(0, rf X.2.2 0), (1, .long x1), (3, .int x3), (4, .int x4)] [] σ) : ∀ (x1 : Int64) (x3 : Int32) (x4 : Int32) (s0 : SS), fX6_digest_104 N k93 k104 x1 x3 x4 s0 = some res → G false X 5 104 [(0, rf X.2.2 0), (1, .long x1), (3, .int x3), (4, .int x4)] [] s0 := by
  intro x1 x3 x4 s0 h
  unfold fX6_digest_104 at h
  refine g_iload F (j := 3) dX6_digest_104 rfl ?_
  refine g_iconst F (v := 3) dX6_digest_106 (by decide) ?_
  refine g_icmp_ge F (tgt := 131) dX6_digest_107 (by decide) h (fun h => ?_) (fun h => ?_)
  · refine g_iinc F (j := 2) (v := x3 + 1) dX6_digest_131 rfl rfl (by decide) (lv' := [(0, rf X.2.2 0), (1, .long x1), (3, .int (x3 + 1))]) [1, 2, 0] rfl ?_
    refine g_goto F (tgt := 93) dX6_digest_134 (by decide) ?_
    exact hk93 x1 (x3 + 1) s0 h
  · refine g_ldc2 F (inr_29 _ (List.mem_of_getElem? (i := 2) rfl)) dX6_digest_110 ?_
    refine g_lload_n F (j := 1) dX6_digest_113 rfl rfl ?_
    refine g_lmul F dX6_digest_114 ?_
    refine g_aload_n F (a := 0) (j := 0) dX6_digest_115 rfl rfl ?_
    refine g_iload_n F (j := 2) dX6_digest_116 rfl rfl ?_
    refine g_iload F (j := 3) dX6_digest_117 rfl ?_
    refine g_vi F (k := 0) (As := [.int x3, .int x4]) (rest := [.long (31 * x1)]) (fun _ q => mX6_free N F.inj  q) mw_X6_free ml_X6_217 rfl ⟨Nat.le_of_ble_eq_true rfl, Nat.le_of_ble_eq_true rfl⟩ pm0 cl6 rfl (Nat.le_of_ble_eq_true rfl) dX6_digest_119 h (fun v1 s1 h => ?_)
    refine g_i2l F dX6_digest_122 ?_
    refine g_ladd F dX6_digest_123 ?_
    refine g_lstore_n F dX6_digest_124 rfl (by decide) (lv' := [(0, rf X.2.2 0), (1, .long ((31 * x1) + (Int32.toInt64 v1))), (3, .int x3), (4, .int x4)]) [1, 0, 2, 3] rfl ?_
    refine g_iinc F (j := 3) (v := x4 + 1) dX6_digest_125 rfl rfl (by decide) (lv' := [(0, rf X.2.2 0), (1, .long ((31 * x1) + (Int32.toInt64 v1))), (3, .int x3), (4, .int (x4 + 1))]) [1, 2, 3, 0] rfl ?_
    refine g_goto F (tgt := 104) dX6_digest_128 (by decide) ?_
    exact hk104 ((31 * x1) + (Int32.toInt64 v1)) x3 (x4 + 1) s1 h
theorem wX6_digest_104_lp {X : Cx} (F : Fx false X cX6_digest RX6 5 3 67) {res : Int64 × SS} (R : RL64 false X cX6_digest 5 res) {N : Nat} {k93 : Int64 → Int32 → SS → Option (Int64 × SS)} (hk93 : ∀ (x1 : Int64) (x3 : Int32) (σ : SS), k93 x1 x3 σ = some res → G false X 5 93 [(0, rf X.2.2 0), (1, .long x1), (3, .int x3)] [] σ) : ∀ (n : Nat) (x1 : Int64) (x3 : Int32) (x4 : Int32) (s0 : SS), lp (fX6_digest_104 N k93) (fun _ _ _ _ => none) n x1 x3 x4 s0 = some res → G false X 5 104 [(0, rf X.2.2 0), (1, .long x1), (3, .int x3), (4, .int x4)] [] s0 := by
  intro n
  induction n with
  | zero => intro x1 x3 x4 s0 h; cases (show (none : Option (Int64 × SS)) = some res from h)
  | succ n ih => intro x1 x3 x4 s0 h; exact wX6_digest_104 F R hk93 ih x1 x3 x4 s0 h
set_option maxRecDepth 20000 in
theorem wX6_digest_93 {X : Cx} (F : Fx false X cX6_digest RX6 5 3 67) {res : Int64 × SS} (R : RL64 false X cX6_digest 5 res) {N : Nat} {k93 : Int64 → Int32 → SS → Option (Int64 × SS)} (hk93 : ∀ (x1 : Int64) (x3 : Int32) (σ : SS), k93 x1 x3 σ = some res → G false X 5 93 [(0, rf X.2.2 0), (1, .long x1), (3, .int x3)] [] σ) : ∀ (x1 : Int64) (x3 : Int32) (s0 : SS), fX6_digest_93 N k93 x1 x3 s0 = some res → G false X 5 93 [(0, rf X.2.2 0), (1, .long x1), (3, .int x3)] [] s0 := by
  intro x1 x3 s0 h
  unfold fX6_digest_93 at h
  refine g_iload_n F (j := 2) dX6_digest_93 rfl rfl ?_
  refine g_aload_n F (a := 0) (j := 0) dX6_digest_94 rfl rfl ?_
  refine gt_X6_64 F (k := 0) pm0 dX6_digest_95 (v := .int (s0 0 0)) rfl ?_
  refine g_icmp_ge F (tgt := 137) dX6_digest_98 (by decide) h (fun h => ?_) (fun h => ?_)
  · refine g_lload_n F (j := 1) dX6_digest_137 rfl rfl ?_
    exact R _ _ _ _ dX6_digest_138 h
  · refine g_iconst F (v := 0) dX6_digest_101 (by decide) ?_
    refine g_istore F dX6_digest_102 (by decide) (lv' := [(0, rf X.2.2 0), (1, .long x1), (3, .int x3), (4, .int 0)]) [1, 2, 3, 0] rfl ?_
    exact wX6_digest_104_lp F R hk93 N x1 x3 0 s0 h
theorem wX6_digest_93_lp {X : Cx} (F : Fx false X cX6_digest RX6 5 3 67) {res : Int64 × SS} (R : RL64 false X cX6_digest 5 res) {N : Nat} : ∀ (n : Nat) (x1 : Int64) (x3 : Int32) (s0 : SS), lp (fX6_digest_93 N) (fun _ _ _ => none) n x1 x3 s0 = some res → G false X 5 93 [(0, rf X.2.2 0), (1, .long x1), (3, .int x3)] [] s0 := by
  intro n
  induction n with
  | zero => intro x1 x3 s0 h; cases (show (none : Option (Int64 × SS)) = some res from h)
  | succ n ih => intro x1 x3 s0 h; exact wX6_digest_93 F R ih x1 x3 s0 h
set_option maxRecDepth 20000 in
theorem wX6_digest_33 {X : Cx} (F : Fx false X cX6_digest RX6 5 3 67) {res : Int64 × SS} (R : RL64 false X cX6_digest 5 res) {N : Nat} {k33 : Int64 → Int32 → SS → Option (Int64 × SS)} (hk33 : ∀ (x1 : Int64) (x3 : Int32) (σ : SS), k33 x1 x3 σ = some res → G false X 5 33 [(0, rf X.2.2 0), (1, .long x1), (3, .int x3)] [] σ) : ∀ (x1 : Int64) (x3 : Int32) (s0 : SS), fX6_digest_33 N k33 x1 x3 s0 = some res → G false X 5 33 [(0, rf X.2.2 0), (1, .long x1), (3, .int x3)] [] s0 := by
  intro x1 x3 s0 h
  unfold fX6_digest_33 at h
  refine g_iload_n F (j := 2) dX6_digest_33 rfl rfl ?_
  refine g_aload_n F (a := 0) (j := 0) dX6_digest_34 rfl rfl ?_
  refine gt_X6_67 F (k := 0) pm0 dX6_digest_35 (v := .int (s0 0 3)) rfl ?_
  refine g_icmp_ge F (tgt := 91) dX6_digest_38 (by decide) h (fun h => ?_) (fun h => ?_)
  · refine g_iconst F (v := 0) dX6_digest_91 (by decide) ?_
    refine g_istore_n F dX6_digest_92 rfl (by decide) (lv' := [(0, rf X.2.2 0), (1, .long x1), (3, .int 0)]) [1, 2, 0] rfl ?_
    exact wX6_digest_93_lp F R N x1 0 s0 h
  · refine g_iconst F (v := 0) dX6_digest_41 (by decide) ?_
    refine g_istore F dX6_digest_42 (by decide) (lv' := [(0, rf X.2.2 0), (1, .long x1), (3, .int x3), (4, .int 0)]) [1, 2, 3, 0] rfl ?_
    exact wX6_digest_44_lp F R hk33 N x1 x3 0 s0 h
theorem wX6_digest_33_lp {X : Cx} (F : Fx false X cX6_digest RX6 5 3 67) {res : Int64 × SS} (R : RL64 false X cX6_digest 5 res) {N : Nat} : ∀ (n : Nat) (x1 : Int64) (x3 : Int32) (s0 : SS), lp (fX6_digest_33 N) (fun _ _ _ => none) n x1 x3 s0 = some res → G false X 5 33 [(0, rf X.2.2 0), (1, .long x1), (3, .int x3)] [] s0 := by
  intro n
  induction n with
  | zero => intro x1 x3 s0 h; cases (show (none : Option (Int64 × SS)) = some res from h)
  | succ n ih => intro x1 x3 s0 h; exact wX6_digest_33 F R ih x1 x3 s0 h
set_option maxRecDepth 20000 in
theorem wX6_digest_6 {X : Cx} (F : Fx false X cX6_digest RX6 5 3 67) {res : Int64 × SS} (R : RL64 false X cX6_digest 5 res) {N : Nat} {k6 : Int64 → Int32 → SS → Option (Int64 × SS)} (hk6 : ∀ (x1 : Int64) (x3 : Int32) (σ : SS), k6 x1 x3 σ = some res → G false X 5 6 [(0, rf X.2.2 0), (1, .long x1), (3, .int x3)] [] σ) : ∀ (x1 : Int64) (x3 : Int32) (s0 : SS), fX6_digest_6 N k6 x1 x3 s0 = some res → G false X 5 6 [(0, rf X.2.2 0), (1, .long x1), (3, .int x3)] [] s0 := by
  intro x1 x3 s0 h
  unfold fX6_digest_6 at h
  refine g_iload_n F (j := 2) dX6_digest_6 rfl rfl ?_
  refine g_bipush F (v := 7) dX6_digest_7 (by decide) ?_
  refine g_icmp_ge F (tgt := 31) dX6_digest_9 (by decide) h (fun h => ?_) (fun h => ?_)
  · refine g_iconst F (v := 0) dX6_digest_31 (by decide) ?_
    refine g_istore_n F dX6_digest_32 rfl (by decide) (lv' := [(0, rf X.2.2 0), (1, .long x1), (3, .int 0)]) [1, 2, 0] rfl ?_
    exact wX6_digest_33_lp F R N x1 0 s0 h
  · refine g_ldc2 F (inr_29 _ (List.mem_of_getElem? (i := 2) rfl)) dX6_digest_12 ?_
    refine g_lload_n F (j := 1) dX6_digest_15 rfl rfl ?_
    refine g_lmul F dX6_digest_16 ?_
    refine g_aload_n F (a := 0) (j := 0) dX6_digest_17 rfl rfl ?_
    refine g_iload_n F (j := 2) dX6_digest_18 rfl rfl ?_
    refine g_vi F (k := 0) (As := [.int x3]) (rest := [.long (31 * x1)]) (fun _ q => mX6_count N F.inj  q) mw_X6_count ml_X6_208 rfl ⟨Nat.le_of_ble_eq_true rfl, Nat.le_of_ble_eq_true rfl⟩ pm0 cl6 rfl (Nat.le_of_ble_eq_true rfl) dX6_digest_19 h (fun v1 s1 h => ?_)
    refine g_i2l F dX6_digest_22 ?_
    refine g_ladd F dX6_digest_23 ?_
    refine g_lstore_n F dX6_digest_24 rfl (by decide) (lv' := [(0, rf X.2.2 0), (1, .long ((31 * x1) + (Int32.toInt64 v1))), (3, .int x3)]) [1, 0, 2] rfl ?_
    refine g_iinc F (j := 2) (v := x3 + 1) dX6_digest_25 rfl rfl (by decide) (lv' := [(0, rf X.2.2 0), (1, .long ((31 * x1) + (Int32.toInt64 v1))), (3, .int (x3 + 1))]) [1, 2, 0] rfl ?_
    refine g_goto F (tgt := 6) dX6_digest_28 (by decide) ?_
    exact hk6 ((31 * x1) + (Int32.toInt64 v1)) (x3 + 1) s1 h
theorem wX6_digest_6_lp {X : Cx} (F : Fx false X cX6_digest RX6 5 3 67) {res : Int64 × SS} (R : RL64 false X cX6_digest 5 res) {N : Nat} : ∀ (n : Nat) (x1 : Int64) (x3 : Int32) (s0 : SS), lp (fX6_digest_6 N) (fun _ _ _ => none) n x1 x3 s0 = some res → G false X 5 6 [(0, rf X.2.2 0), (1, .long x1), (3, .int x3)] [] s0 := by
  intro n
  induction n with
  | zero => intro x1 x3 s0 h; cases (show (none : Option (Int64 × SS)) = some res from h)
  | succ n ih => intro x1 x3 s0 h; exact wX6_digest_6 F R ih x1 x3 s0 h
set_option maxRecDepth 20000 in
theorem wX6_digest_e {X : Cx} (F : Fx false X cX6_digest RX6 5 3 67) {res : Int64 × SS} (R : RL64 false X cX6_digest 5 res) {N : Nat} : ∀  (s0 : SS), fX6_digest N s0 = some res → G false X 5 0 [(0, rf X.2.2 0)] [] s0 := by
  intro  s0 h
  unfold fX6_digest at h
  refine g_ldc2 F (inr_29 _ (List.mem_of_getElem? (i := 1) rfl)) dX6_digest_0 ?_
  refine g_lstore_n F dX6_digest_3 rfl (by decide) (lv' := [(0, rf X.2.2 0), (1, .long 127)]) [1, 0] rfl ?_
  refine g_iconst F (v := 0) dX6_digest_4 (by decide) ?_
  refine g_istore_n F dX6_digest_5 rfl (by decide) (lv' := [(0, rf X.2.2 0), (1, .long 127), (3, .int 0)]) [1, 2, 0] rfl ?_
  exact wX6_digest_6_lp F R N 127 0 s0 h
theorem mX6_digest {l : Launch} {w : Wd} (N : Nat) (hi : inj false w)  {res : Int64 × SS} {s0 : SS} (h : fX6_digest N s0 = some res) : ML false l yX6_digest cX6_digest 5 (some .long) { frames := 3, cells := 0, slots := 0, locals := 67 } w [rf w 0] s0 res := by
  refine mk_l (by decide) hi (Nat.le_of_ble_eq_true rfl) (fun X hX hL F R => ?_)
  subst hX; subst hL
  exact wX6_digest_e F R  s0 h
