set_option maxRecDepth 20000 in
theorem wX6_freeB_47 {X : Cx} (F : Fx false X cX6_freeB RX6 4 0 0) {res : Int32 × SS} (R : RI false X cX6_freeB 4 res) {N : Nat} {k9 : Int32 → Int32 → Int32 → SS → Option (Int32 × SS)} (hk9 : ∀ (x1 : Int32) (x2 : Int32) (x3 : Int32) (σ : SS), k9 x1 x2 x3 σ = some res → G false X 4 9 [(0, rf X.2.2 0), (1, .int x1), (2, .int x2), (3, .int x3)] [] σ) : ∀ (x1 : Int32) (x3 : Int32) (t0 : Int32) (t1 : Int32) (s0 : SS), fX6_freeB_47 N k9 x1 x3 t0 t1 s0 = some res → G false X 4 47 [(0, rf X.2.2 0), (1, .int x1), (3, .int x3)] [.int t0, .int t1] s0 := by
  intro x1 x3 t0 t1 s0 h
  unfold fX6_freeB_47 at h
  refine g_isub F dX6_freeB_47 ?_
  refine g_istore_n F dX6_freeB_48 rfl (by decide) (lv' := [(0, rf X.2.2 0), (1, .int x1), (2, .int (t1 - t0)), (3, .int x3)]) [1, 2, 0, 3] rfl ?_
  refine g_iinc F (j := 3) (v := x3 + 1) dX6_freeB_49 rfl rfl (by decide) (lv' := [(0, rf X.2.2 0), (1, .int x1), (2, .int (t1 - t0)), (3, .int (x3 + 1))]) [1, 2, 3, 0] rfl ?_
  refine g_goto F (tgt := 9) dX6_freeB_52 (by decide) ?_
  exact hk9 x1 (t1 - t0) (x3 + 1) s0 h
set_option maxRecDepth 20000 in
theorem wX6_freeB_46 {X : Cx} (F : Fx false X cX6_freeB RX6 4 0 0) {res : Int32 × SS} (R : RI false X cX6_freeB 4 res) {N : Nat} {k9 : Int32 → Int32 → Int32 → SS → Option (Int32 × SS)} (hk9 : ∀ (x1 : Int32) (x2 : Int32) (x3 : Int32) (σ : SS), k9 x1 x2 x3 σ = some res → G false X 4 9 [(0, rf X.2.2 0), (1, .int x1), (2, .int x2), (3, .int x3)] [] σ) : ∀ (x1 : Int32) (x3 : Int32) (t0 : Int32) (s0 : SS), fX6_freeB_46 N k9 x1 x3 t0 s0 = some res → G false X 4 46 [(0, rf X.2.2 0), (1, .int x1), (3, .int x3)] [.int t0] s0 := by
  intro x1 x3 t0 s0 h
  unfold fX6_freeB_46 at h
  refine g_iconst F (v := 0) dX6_freeB_46 (by decide) ?_
  exact wX6_freeB_47 F R hk9 x1 x3 0 t0 s0 h
set_option maxRecDepth 20000 in
theorem wX6_freeB_9 {X : Cx} (F : Fx false X cX6_freeB RX6 4 0 0) {res : Int32 × SS} (R : RI false X cX6_freeB 4 res) {N : Nat} {k9 : Int32 → Int32 → Int32 → SS → Option (Int32 × SS)} (hk9 : ∀ (x1 : Int32) (x2 : Int32) (x3 : Int32) (σ : SS), k9 x1 x2 x3 σ = some res → G false X 4 9 [(0, rf X.2.2 0), (1, .int x1), (2, .int x2), (3, .int x3)] [] σ) : ∀ (x1 : Int32) (x2 : Int32) (x3 : Int32) (s0 : SS), fX6_freeB_9 N k9 x1 x2 x3 s0 = some res → G false X 4 9 [(0, rf X.2.2 0), (1, .int x1), (2, .int x2), (3, .int x3)] [] s0 := by
  intro x1 x2 x3 s0 h
  unfold fX6_freeB_9 at h
  refine g_iload_n F (j := 3) dX6_freeB_9 rfl rfl ?_
  refine g_aload_n F (a := 0) (j := 0) dX6_freeB_10 rfl rfl ?_
  refine gt_X6_67 F (k := 0) pm0 dX6_freeB_11 (v := .int (s0 0 3)) rfl ?_
  refine g_icmp_ge F (tgt := 55) dX6_freeB_14 (by decide) h (fun h => ?_) (fun h => ?_)
  · refine g_iload_n F (j := 2) dX6_freeB_55 rfl rfl ?_
    exact R _ _ _ _ dX6_freeB_56 h
  · refine g_iload_n F (j := 2) dX6_freeB_17 rfl rfl ?_
    refine g_aload_n F (a := 0) (j := 0) dX6_freeB_18 rfl rfl ?_
    refine gt_X6_31 F (k := 0) pm0 dX6_freeB_19 (v := rf X.2.2 8) rfl ?_
    refine g_iload_n F (j := 3) dX6_freeB_22 rfl rfl ?_
    refine g_zald F (k := 8) pm8 dX6_freeB_23 h (fun h => ?_)
    refine g_ifne F (tgt := 46) dX6_freeB_24 (by decide) h (fun h => ?_) (fun h => ?_)
    · refine g_aload_n F (a := 0) (j := 0) dX6_freeB_27 rfl rfl ?_
      refine gt_X6_28 F (k := 0) pm0 dX6_freeB_28 (v := rf X.2.2 7) rfl ?_
      refine g_iload_n F (j := 3) dX6_freeB_31 rfl rfl ?_
      refine g_iald F (k := 7) pm7 dX6_freeB_32 h (fun h => ?_)
      refine g_iload_n F (j := 1) dX6_freeB_33 rfl rfl ?_
      refine g_icmp_ne F (tgt := 46) dX6_freeB_34 (by decide) h (fun h => ?_) (fun h => ?_)
      · refine g_aload_n F (a := 0) (j := 0) dX6_freeB_37 rfl rfl ?_
        refine gt_X6_19 F (k := 0) pm0 dX6_freeB_38 (v := rf X.2.2 4) rfl ?_
        refine g_iload_n F (j := 3) dX6_freeB_41 rfl rfl ?_
        refine g_iald F (k := 4) pm4 dX6_freeB_42 h (fun h => ?_)
        refine g_goto F (tgt := 47) dX6_freeB_43 (by decide) ?_
        refine g_sub (lv' := [(0, rf X.2.2 0), (1, .int x1), (3, .int x3)]) [0, 1, 3] rfl ?_
        exact wX6_freeB_47 F R hk9 x1 x3 (s0 4 (Int32.toNatClampNeg x3)) x2 s0 h
      · refine g_sub (lv' := [(0, rf X.2.2 0), (1, .int x1), (3, .int x3)]) [0, 1, 3] rfl ?_
        exact wX6_freeB_46 F R hk9 x1 x3 x2 s0 h
    · refine g_sub (lv' := [(0, rf X.2.2 0), (1, .int x1), (3, .int x3)]) [0, 1, 3] rfl ?_
      exact wX6_freeB_46 F R hk9 x1 x3 x2 s0 h
theorem wX6_freeB_9_lp {X : Cx} (F : Fx false X cX6_freeB RX6 4 0 0) {res : Int32 × SS} (R : RI false X cX6_freeB 4 res) {N : Nat} : ∀ (n : Nat) (x1 : Int32) (x2 : Int32) (x3 : Int32) (s0 : SS), lp (fX6_freeB_9 N) (fun _ _ _ _ => none) n x1 x2 x3 s0 = some res → G false X 4 9 [(0, rf X.2.2 0), (1, .int x1), (2, .int x2), (3, .int x3)] [] s0 := by
  intro n
  induction n with
  | zero => intro x1 x2 x3 s0 h; cases (show (none : Option (Int32 × SS)) = some res from h)
  | succ n ih => intro x1 x2 x3 s0 h; exact wX6_freeB_9 F R ih x1 x2 x3 s0 h
set_option maxRecDepth 20000 in
theorem wX6_freeB_e {X : Cx} (F : Fx false X cX6_freeB RX6 4 0 0) {res : Int32 × SS} (R : RI false X cX6_freeB 4 res) {N : Nat} : ∀ (a1 : Int32) (s0 : SS), fX6_freeB N a1 s0 = some res → G false X 4 0 [(0, rf X.2.2 0), (1, .int a1)] [] s0 := by
  intro a1 s0 h
  unfold fX6_freeB at h
  refine g_aload_n F (a := 0) (j := 0) dX6_freeB_0 rfl rfl ?_
  refine gt_X6_13 F (k := 0) pm0 dX6_freeB_1 (v := rf X.2.2 2) rfl ?_
  refine g_iload_n F (j := 1) dX6_freeB_4 rfl rfl ?_
  refine g_iald F (k := 2) pm2 dX6_freeB_5 h (fun h => ?_)
  refine g_istore_n F dX6_freeB_6 rfl (by decide) (lv' := [(0, rf X.2.2 0), (1, .int a1), (2, .int (s0 2 (Int32.toNatClampNeg a1)))]) [1, 2, 0] rfl ?_
  refine g_iconst F (v := 0) dX6_freeB_7 (by decide) ?_
  refine g_istore_n F dX6_freeB_8 rfl (by decide) (lv' := [(0, rf X.2.2 0), (1, .int a1), (2, .int (s0 2 (Int32.toNatClampNeg a1))), (3, .int 0)]) [1, 2, 3, 0] rfl ?_
  exact wX6_freeB_9_lp F R N a1 (s0 2 (Int32.toNatClampNeg a1)) 0 s0 h
theorem mX6_freeB {l : Launch} {w : Wd} (N : Nat) (hi : inj false w)  {res : Int32 × SS} {a1 : Int32} {s0 : SS} (h : fX6_freeB N a1 s0 = some res) : MI false l yX6_freeB cX6_freeB 4 (some .int) { frames := 0, cells := 0, slots := 0, locals := 0 } w [rf w 0, .int a1] s0 res := by
  refine mk_i (by decide) hi (Nat.le_of_ble_eq_true rfl) (fun X hX hL F R => ?_)
  subst hX; subst hL
  exact wX6_freeB_e F R a1 s0 h
set_option maxRecDepth 20000 in
theorem wX6_fitsNinth_133 {X : Cx} (F : Fx false X cX6_fitsNinth RX6 9 1 23) {res : Int32 × SS} (R : RZ false X cX6_fitsNinth 9 res) {N : Nat} {k30 : Int32 → Int32 → Int32 → Int32 → Int32 → SS → Option (Int32 × SS)} (hk30 : ∀ (x3 : Int32) (x4 : Int32) (x5 : Int32) (x6 : Int32) (x7 : Int32) (σ : SS), k30 x3 x4 x5 x6 x7 σ = some res → G false X 9 30 [(0, rf X.2.2 0), (3, .int x3), (4, .int x4), (5, .int x5), (6, .int x6), (7, .int x7)] [] σ) : ∀ (x3 : Int32) (x4 : Int32) (x5 : Int32) (x7 : Int32) (t0 : Int32) (s0 : SS), fX6_fitsNinth_133 N k30 x3 x4 x5 x7 t0 s0 = some res → G false X 9 133 [(0, rf X.2.2 0), (3, .int x3), (4, .int x4), (5, .int x5), (7, .int x7)] [.int t0] s0 := by
  intro x3 x4 x5 x7 t0 s0 h
  unfold fX6_fitsNinth_133 at h
  refine g_istore F dX6_fitsNinth_133 (by decide) (lv' := [(0, rf X.2.2 0), (3, .int x3), (4, .int x4), (5, .int x5), (6, .int t0), (7, .int x7)]) [1, 2, 3, 4, 0, 5] rfl ?_
  refine g_iinc F (j := 5) (v := x7 + 1) dX6_fitsNinth_135 rfl rfl (by decide) (lv' := [(0, rf X.2.2 0), (3, .int x3), (4, .int x4), (5, .int x5), (6, .int t0), (7, .int (x7 + 1))]) [1, 2, 3, 4, 5, 0] rfl ?_
  refine g_goto F (tgt := 30) dX6_fitsNinth_138 (by decide) ?_
  exact hk30 x3 x4 x5 t0 (x7 + 1) s0 h
set_option maxRecDepth 20000 in
theorem wX6_fitsNinth_128 {X : Cx} (F : Fx false X cX6_fitsNinth RX6 9 1 23) {res : Int32 × SS} (R : RZ false X cX6_fitsNinth 9 res) {N : Nat} {k30 : Int32 → Int32 → Int32 → Int32 → Int32 → SS → Option (Int32 × SS)} (hk30 : ∀ (x3 : Int32) (x4 : Int32) (x5 : Int32) (x6 : Int32) (x7 : Int32) (σ : SS), k30 x3 x4 x5 x6 x7 σ = some res → G false X 9 30 [(0, rf X.2.2 0), (3, .int x3), (4, .int x4), (5, .int x5), (6, .int x6), (7, .int x7)] [] σ) : ∀ (x3 : Int32) (x4 : Int32) (x5 : Int32) (x7 : Int32) (s0 : SS), fX6_fitsNinth_128 N k30 x3 x4 x5 x7 s0 = some res → G false X 9 128 [(0, rf X.2.2 0), (3, .int x3), (4, .int x4), (5, .int x5), (7, .int x7)] [] s0 := by
  intro x3 x4 x5 x7 s0 h
  unfold fX6_fitsNinth_128 at h
  refine g_iconst F (v := 1) dX6_fitsNinth_128 (by decide) ?_
  refine g_goto F (tgt := 133) dX6_fitsNinth_129 (by decide) ?_
  exact wX6_fitsNinth_133 F R hk30 x3 x4 x5 x7 1 s0 h
set_option maxRecDepth 20000 in
theorem wX6_fitsNinth_132 {X : Cx} (F : Fx false X cX6_fitsNinth RX6 9 1 23) {res : Int32 × SS} (R : RZ false X cX6_fitsNinth 9 res) {N : Nat} {k30 : Int32 → Int32 → Int32 → Int32 → Int32 → SS → Option (Int32 × SS)} (hk30 : ∀ (x3 : Int32) (x4 : Int32) (x5 : Int32) (x6 : Int32) (x7 : Int32) (σ : SS), k30 x3 x4 x5 x6 x7 σ = some res → G false X 9 30 [(0, rf X.2.2 0), (3, .int x3), (4, .int x4), (5, .int x5), (6, .int x6), (7, .int x7)] [] σ) : ∀ (x3 : Int32) (x4 : Int32) (x5 : Int32) (x7 : Int32) (s0 : SS), fX6_fitsNinth_132 N k30 x3 x4 x5 x7 s0 = some res → G false X 9 132 [(0, rf X.2.2 0), (3, .int x3), (4, .int x4), (5, .int x5), (7, .int x7)] [] s0 := by
  intro x3 x4 x5 x7 s0 h
  unfold fX6_fitsNinth_132 at h
  refine g_iconst F (v := 0) dX6_fitsNinth_132 (by decide) ?_
  exact wX6_fitsNinth_133 F R hk30 x3 x4 x5 x7 0 s0 h
set_option maxRecDepth 20000 in
theorem wX6_fitsNinth_106 {X : Cx} (F : Fx false X cX6_fitsNinth RX6 9 1 23) {res : Int32 × SS} (R : RZ false X cX6_fitsNinth 9 res) {N : Nat} {k30 : Int32 → Int32 → Int32 → Int32 → Int32 → SS → Option (Int32 × SS)} (hk30 : ∀ (x3 : Int32) (x4 : Int32) (x5 : Int32) (x6 : Int32) (x7 : Int32) (σ : SS), k30 x3 x4 x5 x6 x7 σ = some res → G false X 9 30 [(0, rf X.2.2 0), (3, .int x3), (4, .int x4), (5, .int x5), (6, .int x6), (7, .int x7)] [] σ) : ∀ (x3 : Int32) (x4 : Int32) (x5 : Int32) (x7 : Int32) (x8 : Int32) (s0 : SS), fX6_fitsNinth_106 N k30 x3 x4 x5 x7 x8 s0 = some res → G false X 9 106 [(0, rf X.2.2 0), (3, .int x3), (4, .int x4), (5, .int x5), (7, .int x7), (8, .int x8)] [] s0 := by
  intro x3 x4 x5 x7 x8 s0 h
  unfold fX6_fitsNinth_106 at h
  refine g_iload F (j := 5) dX6_fitsNinth_106 rfl ?_
  refine g_ifeq F (tgt := 128) dX6_fitsNinth_108 (by decide) h (fun h => ?_) (fun h => ?_)
  · refine g_sub (lv' := [(0, rf X.2.2 0), (3, .int x3), (4, .int x4), (5, .int x5), (7, .int x7)]) [0, 1, 2, 3, 4] rfl ?_
    exact wX6_fitsNinth_128 F R hk30 x3 x4 x5 x7 s0 h
  · refine g_iload_n F (j := 1) dX6_fitsNinth_111 rfl rfl ?_
    refine g_iconst F (v := 2) dX6_fitsNinth_112 (by decide) ?_
    refine g_icmp_ne F (tgt := 128) dX6_fitsNinth_113 (by decide) h (fun h => ?_) (fun h => ?_)
    · refine g_aload_n F (a := 0) (j := 0) dX6_fitsNinth_116 rfl rfl ?_
      refine gt_X6_28 F (k := 0) pm0 dX6_fitsNinth_117 (v := rf X.2.2 7) rfl ?_
      refine g_iload F (j := 4) dX6_fitsNinth_120 rfl ?_
      refine g_iald F (k := 7) pm7 dX6_fitsNinth_122 h (fun h => ?_)
      refine g_iload F (j := 3) dX6_fitsNinth_123 rfl ?_
      refine g_icmp_ne F (tgt := 132) dX6_fitsNinth_125 (by decide) h (fun h => ?_) (fun h => ?_)
      · refine g_sub (lv' := [(0, rf X.2.2 0), (3, .int x3), (4, .int x4), (5, .int x5), (7, .int x7)]) [0, 1, 2, 3, 4] rfl ?_
        exact wX6_fitsNinth_128 F R hk30 x3 x4 x5 x7 s0 h
      · refine g_sub (lv' := [(0, rf X.2.2 0), (3, .int x3), (4, .int x4), (5, .int x5), (7, .int x7)]) [0, 1, 2, 3, 4] rfl ?_
        exact wX6_fitsNinth_132 F R hk30 x3 x4 x5 x7 s0 h
    · refine g_sub (lv' := [(0, rf X.2.2 0), (3, .int x3), (4, .int x4), (5, .int x5), (7, .int x7)]) [0, 1, 2, 3, 4] rfl ?_
      exact wX6_fitsNinth_128 F R hk30 x3 x4 x5 x7 s0 h
set_option maxRecDepth 20000 in
theorem wX6_fitsNinth_77 {X : Cx} (F : Fx false X cX6_fitsNinth RX6 9 1 23) {res : Int32 × SS} (R : RZ false X cX6_fitsNinth 9 res) {N : Nat} {k30 : Int32 → Int32 → Int32 → Int32 → Int32 → SS → Option (Int32 × SS)} (hk30 : ∀ (x3 : Int32) (x4 : Int32) (x5 : Int32) (x6 : Int32) (x7 : Int32) (σ : SS), k30 x3 x4 x5 x6 x7 σ = some res → G false X 9 30 [(0, rf X.2.2 0), (3, .int x3), (4, .int x4), (5, .int x5), (6, .int x6), (7, .int x7)] [] σ) : ∀ (x3 : Int32) (x4 : Int32) (x5 : Int32) (x6 : Int32) (x7 : Int32) (t0 : Int32) (s0 : SS), fX6_fitsNinth_77 N k30 x3 x4 x5 x6 x7 t0 s0 = some res → G false X 9 77 [(0, rf X.2.2 0), (3, .int x3), (4, .int x4), (5, .int x5), (6, .int x6), (7, .int x7)] [.int t0] s0 := by
  intro x3 x4 x5 x6 x7 t0 s0 h
  unfold fX6_fitsNinth_77 at h
  refine g_istore F dX6_fitsNinth_77 (by decide) (lv' := [(0, rf X.2.2 0), (3, .int x3), (4, .int x4), (5, .int x5), (6, .int x6), (7, .int x7), (8, .int t0)]) [1, 2, 3, 4, 5, 6, 0] rfl ?_
  refine g_iload F (j := 4) dX6_fitsNinth_79 rfl ?_
  refine g_ifeq F (tgt := 132) dX6_fitsNinth_81 (by decide) h (fun h => ?_) (fun h => ?_)
  · refine g_sub (lv' := [(0, rf X.2.2 0), (3, .int x3), (4, .int x4), (5, .int x5), (7, .int x7)]) [0, 1, 2, 3, 5] rfl ?_
    exact wX6_fitsNinth_132 F R hk30 x3 x4 x5 x7 s0 h
  · refine g_iload F (j := 6) dX6_fitsNinth_84 rfl ?_
    refine g_ifeq F (tgt := 106) dX6_fitsNinth_86 (by decide) h (fun h => ?_) (fun h => ?_)
    · refine g_sub (lv' := [(0, rf X.2.2 0), (3, .int x3), (4, .int x4), (5, .int x5), (7, .int x7), (8, .int t0)]) [0, 1, 2, 3, 5, 6] rfl ?_
      exact wX6_fitsNinth_106 F R hk30 x3 x4 x5 x7 t0 s0 h
    · refine g_iload_n F (j := 1) dX6_fitsNinth_89 rfl rfl ?_
      refine g_iconst F (v := 1) dX6_fitsNinth_90 (by decide) ?_
      refine g_icmp_ne F (tgt := 106) dX6_fitsNinth_91 (by decide) h (fun h => ?_) (fun h => ?_)
      · refine g_aload_n F (a := 0) (j := 0) dX6_fitsNinth_94 rfl rfl ?_
        refine gt_X6_28 F (k := 0) pm0 dX6_fitsNinth_95 (v := rf X.2.2 7) rfl ?_
        refine g_iload F (j := 5) dX6_fitsNinth_98 rfl ?_
        refine g_iald F (k := 7) pm7 dX6_fitsNinth_100 h (fun h => ?_)
        refine g_iload F (j := 3) dX6_fitsNinth_101 rfl ?_
        refine g_icmp_eq F (tgt := 132) dX6_fitsNinth_103 (by decide) h (fun h => ?_) (fun h => ?_)
        · refine g_sub (lv' := [(0, rf X.2.2 0), (3, .int x3), (4, .int x4), (5, .int x5), (7, .int x7)]) [0, 1, 2, 3, 5] rfl ?_
          exact wX6_fitsNinth_132 F R hk30 x3 x4 x5 x7 s0 h
        · refine g_sub (lv' := [(0, rf X.2.2 0), (3, .int x3), (4, .int x4), (5, .int x5), (7, .int x7), (8, .int t0)]) [0, 1, 2, 3, 5, 6] rfl ?_
          exact wX6_fitsNinth_106 F R hk30 x3 x4 x5 x7 t0 s0 h
      · refine g_sub (lv' := [(0, rf X.2.2 0), (3, .int x3), (4, .int x4), (5, .int x5), (7, .int x7), (8, .int t0)]) [0, 1, 2, 3, 5, 6] rfl ?_
        exact wX6_fitsNinth_106 F R hk30 x3 x4 x5 x7 t0 s0 h
set_option maxRecDepth 20000 in
theorem wX6_fitsNinth_76 {X : Cx} (F : Fx false X cX6_fitsNinth RX6 9 1 23) {res : Int32 × SS} (R : RZ false X cX6_fitsNinth 9 res) {N : Nat} {k30 : Int32 → Int32 → Int32 → Int32 → Int32 → SS → Option (Int32 × SS)} (hk30 : ∀ (x3 : Int32) (x4 : Int32) (x5 : Int32) (x6 : Int32) (x7 : Int32) (σ : SS), k30 x3 x4 x5 x6 x7 σ = some res → G false X 9 30 [(0, rf X.2.2 0), (3, .int x3), (4, .int x4), (5, .int x5), (6, .int x6), (7, .int x7)] [] σ) : ∀ (x3 : Int32) (x4 : Int32) (x5 : Int32) (x6 : Int32) (x7 : Int32) (s0 : SS), fX6_fitsNinth_76 N k30 x3 x4 x5 x6 x7 s0 = some res → G false X 9 76 [(0, rf X.2.2 0), (3, .int x3), (4, .int x4), (5, .int x5), (6, .int x6), (7, .int x7)] [] s0 := by
  intro x3 x4 x5 x6 x7 s0 h
  unfold fX6_fitsNinth_76 at h
  refine g_iconst F (v := 0) dX6_fitsNinth_76 (by decide) ?_
  exact wX6_fitsNinth_77 F R hk30 x3 x4 x5 x6 x7 0 s0 h
set_option maxRecDepth 20000 in
theorem wX6_fitsNinth_30 {X : Cx} (F : Fx false X cX6_fitsNinth RX6 9 1 23) {res : Int32 × SS} (R : RZ false X cX6_fitsNinth 9 res) {N : Nat} {k30 : Int32 → Int32 → Int32 → Int32 → Int32 → SS → Option (Int32 × SS)} (hk30 : ∀ (x3 : Int32) (x4 : Int32) (x5 : Int32) (x6 : Int32) (x7 : Int32) (σ : SS), k30 x3 x4 x5 x6 x7 σ = some res → G false X 9 30 [(0, rf X.2.2 0), (3, .int x3), (4, .int x4), (5, .int x5), (6, .int x6), (7, .int x7)] [] σ) : ∀ (x3 : Int32) (x4 : Int32) (x5 : Int32) (x6 : Int32) (x7 : Int32) (s0 : SS), fX6_fitsNinth_30 N k30 x3 x4 x5 x6 x7 s0 = some res → G false X 9 30 [(0, rf X.2.2 0), (3, .int x3), (4, .int x4), (5, .int x5), (6, .int x6), (7, .int x7)] [] s0 := by
  intro x3 x4 x5 x6 x7 s0 h
  unfold fX6_fitsNinth_30 at h
  refine g_iload F (j := 5) dX6_fitsNinth_30 rfl ?_
  refine g_aload_n F (a := 0) (j := 0) dX6_fitsNinth_32 rfl rfl ?_
  refine gt_X6_67 F (k := 0) pm0 dX6_fitsNinth_33 (v := .int (s0 0 3)) rfl ?_
  refine g_icmp_ge F (tgt := 141) dX6_fitsNinth_36 (by decide) h (fun h => ?_) (fun h => ?_)
  · refine g_iload F (j := 4) dX6_fitsNinth_141 rfl ?_
    exact R _ _ _ _ dX6_fitsNinth_143 h
  · refine g_aload_n F (a := 0) (j := 0) dX6_fitsNinth_39 rfl rfl ?_
    refine gt_X6_31 F (k := 0) pm0 dX6_fitsNinth_40 (v := rf X.2.2 8) rfl ?_
    refine g_iload F (j := 5) dX6_fitsNinth_43 rfl ?_
    refine g_zald F (k := 8) pm8 dX6_fitsNinth_45 h (fun h => ?_)
    refine g_ifne F (tgt := 76) dX6_fitsNinth_46 (by decide) h (fun h => ?_) (fun h => ?_)
    · refine g_aload_n F (a := 0) (j := 0) dX6_fitsNinth_49 rfl rfl ?_
      refine gt_X6_22 F (k := 0) pm0 dX6_fitsNinth_50 (v := rf X.2.2 5) rfl ?_
      refine g_iload F (j := 5) dX6_fitsNinth_53 rfl ?_
      refine g_iald F (k := 5) pm5 dX6_fitsNinth_55 h (fun h => ?_)
      refine g_iload_n F (j := 1) dX6_fitsNinth_56 rfl rfl ?_
      refine g_icmp_ne F (tgt := 76) dX6_fitsNinth_57 (by decide) h (fun h => ?_) (fun h => ?_)
      · refine g_aload_n F (a := 0) (j := 0) dX6_fitsNinth_60 rfl rfl ?_
        refine gt_X6_25 F (k := 0) pm0 dX6_fitsNinth_61 (v := rf X.2.2 6) rfl ?_
        refine g_iload F (j := 5) dX6_fitsNinth_64 rfl ?_
        refine g_iald F (k := 6) pm6 dX6_fitsNinth_66 h (fun h => ?_)
        refine g_iload F (j := 2) dX6_fitsNinth_67 rfl ?_
        refine g_icmp_ne F (tgt := 76) dX6_fitsNinth_69 (by decide) h (fun h => ?_) (fun h => ?_)
        · refine g_iconst F (v := 1) dX6_fitsNinth_72 (by decide) ?_
          refine g_goto F (tgt := 77) dX6_fitsNinth_73 (by decide) ?_
          exact wX6_fitsNinth_77 F R hk30 x3 x4 x5 x6 x7 1 s0 h
        · exact wX6_fitsNinth_76 F R hk30 x3 x4 x5 x6 x7 s0 h
      · exact wX6_fitsNinth_76 F R hk30 x3 x4 x5 x6 x7 s0 h
    · exact wX6_fitsNinth_76 F R hk30 x3 x4 x5 x6 x7 s0 h
theorem wX6_fitsNinth_30_lp {X : Cx} (F : Fx false X cX6_fitsNinth RX6 9 1 23) {res : Int32 × SS} (R : RZ false X cX6_fitsNinth 9 res) {N : Nat} : ∀ (n : Nat) (x3 : Int32) (x4 : Int32) (x5 : Int32) (x6 : Int32) (x7 : Int32) (s0 : SS), lp (fX6_fitsNinth_30 N) (fun _ _ _ _ _ _ => none) n x3 x4 x5 x6 x7 s0 = some res → G false X 9 30 [(0, rf X.2.2 0), (3, .int x3), (4, .int x4), (5, .int x5), (6, .int x6), (7, .int x7)] [] s0 := by
  intro n
  induction n with
  | zero => intro x3 x4 x5 x6 x7 s0 h; cases (show (none : Option (Int32 × SS)) = some res from h)
  | succ n ih => intro x3 x4 x5 x6 x7 s0 h; exact wX6_fitsNinth_30 F R ih x3 x4 x5 x6 x7 s0 h
set_option maxRecDepth 20000 in
theorem wX6_fitsNinth_25 {X : Cx} (F : Fx false X cX6_fitsNinth RX6 9 1 23) {res : Int32 × SS} (R : RZ false X cX6_fitsNinth 9 res) {N : Nat} : ∀ (x3 : Int32) (x4 : Int32) (x5 : Int32) (t0 : Int32) (s0 : SS), fX6_fitsNinth_25 N x3 x4 x5 t0 s0 = some res → G false X 9 25 [(0, rf X.2.2 0), (3, .int x3), (4, .int x4), (5, .int x5)] [.int t0] s0 := by
  intro x3 x4 x5 t0 s0 h
  unfold fX6_fitsNinth_25 at h
  refine g_istore F dX6_fitsNinth_25 (by decide) (lv' := [(0, rf X.2.2 0), (3, .int x3), (4, .int x4), (5, .int x5), (6, .int t0)]) [1, 2, 3, 4, 0] rfl ?_
  refine g_iconst F (v := 0) dX6_fitsNinth_27 (by decide) ?_
  refine g_istore F dX6_fitsNinth_28 (by decide) (lv' := [(0, rf X.2.2 0), (3, .int x3), (4, .int x4), (5, .int x5), (6, .int t0), (7, .int 0)]) [1, 2, 3, 4, 5, 0] rfl ?_
  exact wX6_fitsNinth_30_lp F R N x3 x4 x5 t0 0 s0 h
set_option maxRecDepth 20000 in
theorem wX6_fitsNinth_24 {X : Cx} (F : Fx false X cX6_fitsNinth RX6 9 1 23) {res : Int32 × SS} (R : RZ false X cX6_fitsNinth 9 res) {N : Nat} : ∀ (x3 : Int32) (x4 : Int32) (x5 : Int32) (s0 : SS), fX6_fitsNinth_24 N x3 x4 x5 s0 = some res → G false X 9 24 [(0, rf X.2.2 0), (3, .int x3), (4, .int x4), (5, .int x5)] [] s0 := by
  intro x3 x4 x5 s0 h
  unfold fX6_fitsNinth_24 at h
  refine g_iconst F (v := 0) dX6_fitsNinth_24 (by decide) ?_
  exact wX6_fitsNinth_25 F R x3 x4 x5 0 s0 h
set_option maxRecDepth 20000 in
theorem wX6_fitsNinth_e {X : Cx} (F : Fx false X cX6_fitsNinth RX6 9 1 23) {res : Int32 × SS} (R : RZ false X cX6_fitsNinth 9 res) {N : Nat} : ∀ (a1 : Int32) (a2 : Int32) (a3 : Int32) (a4 : Int32) (a5 : Int32) (s0 : SS), fX6_fitsNinth N a1 a2 a3 a4 a5 s0 = some res → G false X 9 0 [(0, rf X.2.2 0), (1, .int a1), (2, .int a2), (3, .int a3), (4, .int a4), (5, .int a5)] [] s0 := by
  intro a1 a2 a3 a4 a5 s0 h
  unfold fX6_fitsNinth at h
  refine g_iload_n F (j := 1) dX6_fitsNinth_0 rfl rfl ?_
  refine g_aload_n F (a := 0) (j := 0) dX6_fitsNinth_1 rfl rfl ?_
  refine g_iload F (j := 5) dX6_fitsNinth_2 rfl ?_
  refine g_vi F (k := 0) (As := [.int a5]) (rest := [.int a1]) (fun _ q => mX6_freeA N F.inj  q) mw_X6_freeA ml_X6_92 rfl ⟨Nat.le_of_ble_eq_true rfl, Nat.le_of_ble_eq_true rfl⟩ pm0 cl6 rfl (Nat.le_of_ble_eq_true rfl) dX6_fitsNinth_4 h (fun v1 s1 h => ?_)
  refine g_icmp_gt F (tgt := 24) dX6_fitsNinth_7 (by decide) h (fun h => ?_) (fun h => ?_)
  · refine g_sub (lv' := [(0, rf X.2.2 0), (3, .int a3), (4, .int a4), (5, .int a5)]) [0, 3, 4, 5] rfl ?_
    exact wX6_fitsNinth_24 F R a3 a4 a5 s1 h
  · refine g_iload_n F (j := 2) dX6_fitsNinth_10 rfl rfl ?_
    refine g_aload_n F (a := 0) (j := 0) dX6_fitsNinth_11 rfl rfl ?_
    refine g_iload F (j := 5) dX6_fitsNinth_12 rfl ?_
    refine g_vi F (k := 0) (As := [.int a5]) (rest := [.int a2]) (fun _ q => mX6_freeB N F.inj  q) mw_X6_freeB ml_X6_96 rfl ⟨Nat.le_of_ble_eq_true rfl, Nat.le_of_ble_eq_true rfl⟩ pm0 cl6 rfl (Nat.le_of_ble_eq_true rfl) dX6_fitsNinth_14 h (fun v2 s2 h => ?_)
    refine g_icmp_gt F (tgt := 24) dX6_fitsNinth_17 (by decide) h (fun h => ?_) (fun h => ?_)
    · refine g_sub (lv' := [(0, rf X.2.2 0), (3, .int a3), (4, .int a4), (5, .int a5)]) [0, 3, 4, 5] rfl ?_
      exact wX6_fitsNinth_24 F R a3 a4 a5 s2 h
    · refine g_iconst F (v := 1) dX6_fitsNinth_20 (by decide) ?_
      refine g_goto F (tgt := 25) dX6_fitsNinth_21 (by decide) ?_
      refine g_sub (lv' := [(0, rf X.2.2 0), (3, .int a3), (4, .int a4), (5, .int a5)]) [0, 3, 4, 5] rfl ?_
      exact wX6_fitsNinth_25 F R a3 a4 a5 1 s2 h
theorem mX6_fitsNinth {l : Launch} {w : Wd} (N : Nat) (hi : inj false w)  {res : Int32 × SS} {a1 a2 a3 a4 a5 : Int32} {s0 : SS} (h : fX6_fitsNinth N a1 a2 a3 a4 a5 s0 = some res) : MI false l yX6_fitsNinth cX6_fitsNinth 9 (some .boolean) { frames := 1, cells := 0, slots := 0, locals := 23 } w [rf w 0, .int a1, .int a2, .int a3, .int a4, .int a5] s0 res := by
  refine mk_z (by decide) hi (Nat.le_of_ble_eq_true rfl) (fun X hX hL F R => ?_)
  subst hX; subst hL
  exact wX6_fitsNinth_e F R a1 a2 a3 a4 a5 s0 h
set_option maxRecDepth 20000 in
theorem wX6_isLike_40 {X : Cx} (F : Fx false X cX6_isLike RX6 4 0 0) {res : Int32 × SS} (R : RZ false X cX6_isLike 4 res) {N : Nat} : ∀ (t0 : Int32) (s0 : SS), fX6_isLike_40 N t0 s0 = some res → G false X 4 40 [] [.int t0] s0 := by
  intro t0 s0 h
  unfold fX6_isLike_40 at h
  exact R _ _ _ _ dX6_isLike_40 h
set_option maxRecDepth 20000 in
theorem wX6_isLike_39 {X : Cx} (F : Fx false X cX6_isLike RX6 4 0 0) {res : Int32 × SS} (R : RZ false X cX6_isLike 4 res) {N : Nat} : ∀  (s0 : SS), fX6_isLike_39 N s0 = some res → G false X 4 39 [] [] s0 := by
  intro  s0 h
  unfold fX6_isLike_39 at h
  refine g_iconst F (v := 0) dX6_isLike_39 (by decide) ?_
  exact wX6_isLike_40 F R 0 s0 h
set_option maxRecDepth 20000 in
theorem wX6_isLike_e {X : Cx} (F : Fx false X cX6_isLike RX6 4 0 0) {res : Int32 × SS} (R : RZ false X cX6_isLike 4 res) {N : Nat} : ∀ (a1 : Int32) (a2 : Int32) (a3 : Int32) (s0 : SS), fX6_isLike N a1 a2 a3 s0 = some res → G false X 4 0 [(0, rf X.2.2 0), (1, .int a1), (2, .int a2), (3, .int a3)] [] s0 := by
  intro a1 a2 a3 s0 h
  unfold fX6_isLike at h
  refine g_aload_n F (a := 0) (j := 0) dX6_isLike_0 rfl rfl ?_
  refine gt_X6_22 F (k := 0) pm0 dX6_isLike_1 (v := rf X.2.2 5) rfl ?_
  refine g_iload_n F (j := 1) dX6_isLike_4 rfl rfl ?_
  refine g_iald F (k := 5) pm5 dX6_isLike_5 h (fun h => ?_)
  refine g_iload_n F (j := 3) dX6_isLike_6 rfl rfl ?_
  refine g_icmp_ne F (tgt := 39) dX6_isLike_7 (by decide) h (fun h => ?_) (fun h => ?_)
  · refine g_aload_n F (a := 0) (j := 0) dX6_isLike_10 rfl rfl ?_
    refine gt_X6_22 F (k := 0) pm0 dX6_isLike_11 (v := rf X.2.2 5) rfl ?_
    refine g_iload_n F (j := 2) dX6_isLike_14 rfl rfl ?_
    refine g_iald F (k := 5) pm5 dX6_isLike_15 h (fun h => ?_)
    refine g_iload_n F (j := 3) dX6_isLike_16 rfl rfl ?_
    refine g_icmp_ne F (tgt := 39) dX6_isLike_17 (by decide) h (fun h => ?_) (fun h => ?_)
    · refine g_aload_n F (a := 0) (j := 0) dX6_isLike_20 rfl rfl ?_
      refine gt_X6_25 F (k := 0) pm0 dX6_isLike_21 (v := rf X.2.2 6) rfl ?_
      refine g_iload_n F (j := 1) dX6_isLike_24 rfl rfl ?_
      refine g_iald F (k := 6) pm6 dX6_isLike_25 h (fun h => ?_)
      refine g_aload_n F (a := 0) (j := 0) dX6_isLike_26 rfl rfl ?_
      refine gt_X6_25 F (k := 0) pm0 dX6_isLike_27 (v := rf X.2.2 6) rfl ?_
      refine g_iload_n F (j := 2) dX6_isLike_30 rfl rfl ?_
      refine g_iald F (k := 6) pm6 dX6_isLike_31 h (fun h => ?_)
      refine g_icmp_ne F (tgt := 39) dX6_isLike_32 (by decide) h (fun h => ?_) (fun h => ?_)
      · refine g_iconst F (v := 1) dX6_isLike_35 (by decide) ?_
        refine g_goto F (tgt := 40) dX6_isLike_36 (by decide) ?_
        refine g_sub (lv' := []) [] rfl ?_
        exact wX6_isLike_40 F R 1 s0 h
      · refine g_sub (lv' := []) [] rfl ?_
        exact wX6_isLike_39 F R s0 h
    · refine g_sub (lv' := []) [] rfl ?_
      exact wX6_isLike_39 F R s0 h
  · refine g_sub (lv' := []) [] rfl ?_
    exact wX6_isLike_39 F R s0 h
theorem mX6_isLike {l : Launch} {w : Wd} (N : Nat) (hi : inj false w)  {res : Int32 × SS} {a1 a2 a3 : Int32} {s0 : SS} (h : fX6_isLike N a1 a2 a3 s0 = some res) : MI false l yX6_isLike cX6_isLike 4 (some .boolean) { frames := 0, cells := 0, slots := 0, locals := 0 } w [rf w 0, .int a1, .int a2, .int a3] s0 res := by
  refine mk_z (by decide) hi (Nat.le_of_ble_eq_true rfl) (fun X hX hL F R => ?_)
  subst hX; subst hL
  exact wX6_isLike_e F R a1 a2 a3 s0 h
set_option maxRecDepth 20000 in
theorem wX6_isRight_94 {X : Cx} (F : Fx false X cX6_isRight RX6 7 1 23) {res : Int32 × SS} (R : RZ false X cX6_isRight 7 res) {N : Nat} {k4 : Int32 → Int32 → SS → Option (Int32 × SS)} {k20 : Int32 → Int32 → Int32 → Int32 → Int32 → SS → Option (Int32 × SS)} (hk4 : ∀ (x1 : Int32) (x2 : Int32) (σ : SS), k4 x1 x2 σ = some res → G false X 7 4 [(0, rf X.2.2 0), (1, .int x1), (2, .int x2)] [] σ) (hk20 : ∀ (x1 : Int32) (x2 : Int32) (x3 : Int32) (x4 : Int32) (x5 : Int32) (σ : SS), k20 x1 x2 x3 x4 x5 σ = some res → G false X 7 20 [(0, rf X.2.2 0), (1, .int x1), (2, .int x2), (3, .int x3), (4, .int x4), (5, .int x5)] [] σ) : ∀ (x1 : Int32) (x2 : Int32) (x3 : Int32) (x5 : Int32) (t0 : Int32) (t1 : Int32) (s0 : SS), fX6_isRight_94 N k4 k20 x1 x2 x3 x5 t0 t1 s0 = some res → G false X 7 94 [(0, rf X.2.2 0), (1, .int x1), (2, .int x2), (3, .int x3), (5, .int x5)] [.int t0, .int t1] s0 := by
  intro x1 x2 x3 x5 t0 t1 s0 h
  unfold fX6_isRight_94 at h
  refine g_iadd F dX6_isRight_94 ?_
  refine g_istore F dX6_isRight_95 (by decide) (lv' := [(0, rf X.2.2 0), (1, .int x1), (2, .int x2), (3, .int x3), (4, .int (t1 + t0)), (5, .int x5)]) [1, 2, 3, 4, 0, 5] rfl ?_
  refine g_iinc F (j := 5) (v := x5 + 1) dX6_isRight_97 rfl rfl (by decide) (lv' := [(0, rf X.2.2 0), (1, .int x1), (2, .int x2), (3, .int x3), (4, .int (t1 + t0)), (5, .int (x5 + 1))]) [1, 2, 3, 4, 5, 0] rfl ?_
  refine g_goto F (tgt := 20) dX6_isRight_100 (by decide) ?_
  exact hk20 x1 x2 x3 (t1 + t0) (x5 + 1) s0 h
set_option maxRecDepth 20000 in
theorem wX6_isRight_74 {X : Cx} (F : Fx false X cX6_isRight RX6 7 1 23) {res : Int32 × SS} (R : RZ false X cX6_isRight 7 res) {N : Nat} {k4 : Int32 → Int32 → SS → Option (Int32 × SS)} {k20 : Int32 → Int32 → Int32 → Int32 → Int32 → SS → Option (Int32 × SS)} (hk4 : ∀ (x1 : Int32) (x2 : Int32) (σ : SS), k4 x1 x2 σ = some res → G false X 7 4 [(0, rf X.2.2 0), (1, .int x1), (2, .int x2)] [] σ) (hk20 : ∀ (x1 : Int32) (x2 : Int32) (x3 : Int32) (x4 : Int32) (x5 : Int32) (σ : SS), k20 x1 x2 x3 x4 x5 σ = some res → G false X 7 20 [(0, rf X.2.2 0), (1, .int x1), (2, .int x2), (3, .int x3), (4, .int x4), (5, .int x5)] [] σ) : ∀ (x1 : Int32) (x2 : Int32) (x4 : Int32) (x5 : Int32) (x6 : Int32) (t0 : Int32) (t1 : Int32) (s0 : SS), fX6_isRight_74 N k4 k20 x1 x2 x4 x5 x6 t0 t1 s0 = some res → G false X 7 74 [(0, rf X.2.2 0), (1, .int x1), (2, .int x2), (4, .int x4), (5, .int x5), (6, .int x6)] [.int t0, .int t1] s0 := by
  intro x1 x2 x4 x5 x6 t0 t1 s0 h
  unfold fX6_isRight_74 at h
  refine g_iadd F dX6_isRight_74 ?_
  refine g_istore_n F dX6_isRight_75 rfl (by decide) (lv' := [(0, rf X.2.2 0), (1, .int x1), (2, .int x2), (3, .int (t1 + t0)), (4, .int x4), (5, .int x5), (6, .int x6)]) [1, 2, 3, 0, 4, 5, 6] rfl ?_
  refine g_iload F (j := 4) dX6_isRight_76 rfl ?_
  refine g_iload F (j := 6) dX6_isRight_78 rfl ?_
  refine g_ifeq F (tgt := 93) dX6_isRight_80 (by decide) h (fun h => ?_) (fun h => ?_)
  · refine g_iconst F (v := 0) dX6_isRight_93 (by decide) ?_
    refine g_sub (lv' := [(0, rf X.2.2 0), (1, .int x1), (2, .int x2), (3, .int (t1 + t0)), (5, .int x5)]) [0, 1, 2, 3, 5] rfl ?_
    exact wX6_isRight_94 F R hk4 hk20 x1 x2 (t1 + t0) x5 0 x4 s0 h
  · refine g_aload_n F (a := 0) (j := 0) dX6_isRight_83 rfl rfl ?_
    refine gt_X6_19 F (k := 0) pm0 dX6_isRight_84 (v := rf X.2.2 4) rfl ?_
    refine g_iload F (j := 5) dX6_isRight_87 rfl ?_
    refine g_iald F (k := 4) pm4 dX6_isRight_89 h (fun h => ?_)
    refine g_goto F (tgt := 94) dX6_isRight_90 (by decide) ?_
    refine g_sub (lv' := [(0, rf X.2.2 0), (1, .int x1), (2, .int x2), (3, .int (t1 + t0)), (5, .int x5)]) [0, 1, 2, 3, 5] rfl ?_
    exact wX6_isRight_94 F R hk4 hk20 x1 x2 (t1 + t0) x5 (s0 4 (Int32.toNatClampNeg x5)) x4 s0 h
set_option maxRecDepth 20000 in
theorem wX6_isRight_55 {X : Cx} (F : Fx false X cX6_isRight RX6 7 1 23) {res : Int32 × SS} (R : RZ false X cX6_isRight 7 res) {N : Nat} {k4 : Int32 → Int32 → SS → Option (Int32 × SS)} {k20 : Int32 → Int32 → Int32 → Int32 → Int32 → SS → Option (Int32 × SS)} (hk4 : ∀ (x1 : Int32) (x2 : Int32) (σ : SS), k4 x1 x2 σ = some res → G false X 7 4 [(0, rf X.2.2 0), (1, .int x1), (2, .int x2)] [] σ) (hk20 : ∀ (x1 : Int32) (x2 : Int32) (x3 : Int32) (x4 : Int32) (x5 : Int32) (σ : SS), k20 x1 x2 x3 x4 x5 σ = some res → G false X 7 20 [(0, rf X.2.2 0), (1, .int x1), (2, .int x2), (3, .int x3), (4, .int x4), (5, .int x5)] [] σ) : ∀ (x1 : Int32) (x2 : Int32) (x3 : Int32) (x4 : Int32) (x5 : Int32) (t0 : Int32) (s0 : SS), fX6_isRight_55 N k4 k20 x1 x2 x3 x4 x5 t0 s0 = some res → G false X 7 55 [(0, rf X.2.2 0), (1, .int x1), (2, .int x2), (3, .int x3), (4, .int x4), (5, .int x5)] [.int t0] s0 := by
  intro x1 x2 x3 x4 x5 t0 s0 h
  unfold fX6_isRight_55 at h
  refine g_istore F dX6_isRight_55 (by decide) (lv' := [(0, rf X.2.2 0), (1, .int x1), (2, .int x2), (3, .int x3), (4, .int x4), (5, .int x5), (6, .int t0)]) [1, 2, 3, 4, 5, 6, 0] rfl ?_
  refine g_iload_n F (j := 3) dX6_isRight_57 rfl rfl ?_
  refine g_iload F (j := 6) dX6_isRight_58 rfl ?_
  refine g_ifeq F (tgt := 73) dX6_isRight_60 (by decide) h (fun h => ?_) (fun h => ?_)
  · refine g_iconst F (v := 0) dX6_isRight_73 (by decide) ?_
    refine g_sub (lv' := [(0, rf X.2.2 0), (1, .int x1), (2, .int x2), (4, .int x4), (5, .int x5), (6, .int t0)]) [0, 1, 2, 4, 5, 6] rfl ?_
    exact wX6_isRight_74 F R hk4 hk20 x1 x2 x4 x5 t0 0 x3 s0 h
  · refine g_aload_n F (a := 0) (j := 0) dX6_isRight_63 rfl rfl ?_
    refine gt_X6_16 F (k := 0) pm0 dX6_isRight_64 (v := rf X.2.2 3) rfl ?_
    refine g_iload F (j := 5) dX6_isRight_67 rfl ?_
    refine g_iald F (k := 3) pm3 dX6_isRight_69 h (fun h => ?_)
    refine g_goto F (tgt := 74) dX6_isRight_70 (by decide) ?_
    refine g_sub (lv' := [(0, rf X.2.2 0), (1, .int x1), (2, .int x2), (4, .int x4), (5, .int x5), (6, .int t0)]) [0, 1, 2, 4, 5, 6] rfl ?_
    exact wX6_isRight_74 F R hk4 hk20 x1 x2 x4 x5 t0 (s0 3 (Int32.toNatClampNeg x5)) x3 s0 h
set_option maxRecDepth 20000 in
theorem wX6_isRight_54 {X : Cx} (F : Fx false X cX6_isRight RX6 7 1 23) {res : Int32 × SS} (R : RZ false X cX6_isRight 7 res) {N : Nat} {k4 : Int32 → Int32 → SS → Option (Int32 × SS)} {k20 : Int32 → Int32 → Int32 → Int32 → Int32 → SS → Option (Int32 × SS)} (hk4 : ∀ (x1 : Int32) (x2 : Int32) (σ : SS), k4 x1 x2 σ = some res → G false X 7 4 [(0, rf X.2.2 0), (1, .int x1), (2, .int x2)] [] σ) (hk20 : ∀ (x1 : Int32) (x2 : Int32) (x3 : Int32) (x4 : Int32) (x5 : Int32) (σ : SS), k20 x1 x2 x3 x4 x5 σ = some res → G false X 7 20 [(0, rf X.2.2 0), (1, .int x1), (2, .int x2), (3, .int x3), (4, .int x4), (5, .int x5)] [] σ) : ∀ (x1 : Int32) (x2 : Int32) (x3 : Int32) (x4 : Int32) (x5 : Int32) (s0 : SS), fX6_isRight_54 N k4 k20 x1 x2 x3 x4 x5 s0 = some res → G false X 7 54 [(0, rf X.2.2 0), (1, .int x1), (2, .int x2), (3, .int x3), (4, .int x4), (5, .int x5)] [] s0 := by
  intro x1 x2 x3 x4 x5 s0 h
  unfold fX6_isRight_54 at h
  refine g_iconst F (v := 0) dX6_isRight_54 (by decide) ?_
  exact wX6_isRight_55 F R hk4 hk20 x1 x2 x3 x4 x5 0 s0 h
set_option maxRecDepth 20000 in
theorem wX6_isRight_133 {X : Cx} (F : Fx false X cX6_isRight RX6 7 1 23) {res : Int32 × SS} (R : RZ false X cX6_isRight 7 res) {N : Nat} {k4 : Int32 → Int32 → SS → Option (Int32 × SS)} (hk4 : ∀ (x1 : Int32) (x2 : Int32) (σ : SS), k4 x1 x2 σ = some res → G false X 7 4 [(0, rf X.2.2 0), (1, .int x1), (2, .int x2)] [] σ) : ∀ (x2 : Int32) (t0 : Int32) (s0 : SS), fX6_isRight_133 N k4 x2 t0 s0 = some res → G false X 7 133 [(0, rf X.2.2 0), (2, .int x2)] [.int t0] s0 := by
  intro x2 t0 s0 h
  unfold fX6_isRight_133 at h
  refine g_istore_n F dX6_isRight_133 rfl (by decide) (lv' := [(0, rf X.2.2 0), (1, .int t0), (2, .int x2)]) [1, 0, 2] rfl ?_
  refine g_iinc F (j := 2) (v := x2 + 1) dX6_isRight_134 rfl rfl (by decide) (lv' := [(0, rf X.2.2 0), (1, .int t0), (2, .int (x2 + 1))]) [1, 2, 0] rfl ?_
  refine g_goto F (tgt := 4) dX6_isRight_137 (by decide) ?_
  exact hk4 t0 (x2 + 1) s0 h
set_option maxRecDepth 20000 in
theorem wX6_isRight_132 {X : Cx} (F : Fx false X cX6_isRight RX6 7 1 23) {res : Int32 × SS} (R : RZ false X cX6_isRight 7 res) {N : Nat} {k4 : Int32 → Int32 → SS → Option (Int32 × SS)} (hk4 : ∀ (x1 : Int32) (x2 : Int32) (σ : SS), k4 x1 x2 σ = some res → G false X 7 4 [(0, rf X.2.2 0), (1, .int x1), (2, .int x2)] [] σ) : ∀ (x2 : Int32) (s0 : SS), fX6_isRight_132 N k4 x2 s0 = some res → G false X 7 132 [(0, rf X.2.2 0), (2, .int x2)] [] s0 := by
  intro x2 s0 h
  unfold fX6_isRight_132 at h
  refine g_iconst F (v := 0) dX6_isRight_132 (by decide) ?_
  exact wX6_isRight_133 F R hk4 x2 0 s0 h
set_option maxRecDepth 20000 in
theorem wX6_isRight_20 {X : Cx} (F : Fx false X cX6_isRight RX6 7 1 23) {res : Int32 × SS} (R : RZ false X cX6_isRight 7 res) {N : Nat} {k4 : Int32 → Int32 → SS → Option (Int32 × SS)} {k20 : Int32 → Int32 → Int32 → Int32 → Int32 → SS → Option (Int32 × SS)} (hk4 : ∀ (x1 : Int32) (x2 : Int32) (σ : SS), k4 x1 x2 σ = some res → G false X 7 4 [(0, rf X.2.2 0), (1, .int x1), (2, .int x2)] [] σ) (hk20 : ∀ (x1 : Int32) (x2 : Int32) (x3 : Int32) (x4 : Int32) (x5 : Int32) (σ : SS), k20 x1 x2 x3 x4 x5 σ = some res → G false X 7 20 [(0, rf X.2.2 0), (1, .int x1), (2, .int x2), (3, .int x3), (4, .int x4), (5, .int x5)] [] σ) : ∀ (x1 : Int32) (x2 : Int32) (x3 : Int32) (x4 : Int32) (x5 : Int32) (s0 : SS), fX6_isRight_20 N k4 k20 x1 x2 x3 x4 x5 s0 = some res → G false X 7 20 [(0, rf X.2.2 0), (1, .int x1), (2, .int x2), (3, .int x3), (4, .int x4), (5, .int x5)] [] s0 := by
  intro x1 x2 x3 x4 x5 s0 h
  unfold fX6_isRight_20 at h
  refine g_iload F (j := 5) dX6_isRight_20 rfl ?_
  refine g_aload_n F (a := 0) (j := 0) dX6_isRight_22 rfl rfl ?_
  refine gt_X6_67 F (k := 0) pm0 dX6_isRight_23 (v := .int (s0 0 3)) rfl ?_
  refine g_icmp_ge F (tgt := 103) dX6_isRight_26 (by decide) h (fun h => ?_) (fun h => ?_)
  · refine g_iload_n F (j := 1) dX6_isRight_103 rfl rfl ?_
    refine g_ifeq F (tgt := 132) dX6_isRight_104 (by decide) h (fun h => ?_) (fun h => ?_)
    · refine g_sub (lv' := [(0, rf X.2.2 0), (2, .int x2)]) [0, 2] rfl ?_
      exact wX6_isRight_132 F R hk4 x2 s0 h
    · refine g_iload_n F (j := 3) dX6_isRight_107 rfl rfl ?_
      refine g_aload_n F (a := 0) (j := 0) dX6_isRight_108 rfl rfl ?_
      refine gt_X6_7 F (k := 0) pm0 dX6_isRight_109 (v := rf X.2.2 1) rfl ?_
      refine g_iload_n F (j := 2) dX6_isRight_112 rfl rfl ?_
      refine g_iald F (k := 1) pm1 dX6_isRight_113 h (fun h => ?_)
      refine g_icmp_gt F (tgt := 132) dX6_isRight_114 (by decide) h (fun h => ?_) (fun h => ?_)
      · refine g_sub (lv' := [(0, rf X.2.2 0), (2, .int x2)]) [0, 2] rfl ?_
        exact wX6_isRight_132 F R hk4 x2 s0 h
      · refine g_iload F (j := 4) dX6_isRight_117 rfl ?_
        refine g_aload_n F (a := 0) (j := 0) dX6_isRight_119 rfl rfl ?_
        refine gt_X6_13 F (k := 0) pm0 dX6_isRight_120 (v := rf X.2.2 2) rfl ?_
        refine g_iload_n F (j := 2) dX6_isRight_123 rfl rfl ?_
        refine g_iald F (k := 2) pm2 dX6_isRight_124 h (fun h => ?_)
        refine g_icmp_gt F (tgt := 132) dX6_isRight_125 (by decide) h (fun h => ?_) (fun h => ?_)
        · refine g_sub (lv' := [(0, rf X.2.2 0), (2, .int x2)]) [0, 2] rfl ?_
          exact wX6_isRight_132 F R hk4 x2 s0 h
        · refine g_iconst F (v := 1) dX6_isRight_128 (by decide) ?_
          refine g_goto F (tgt := 133) dX6_isRight_129 (by decide) ?_
          refine g_sub (lv' := [(0, rf X.2.2 0), (2, .int x2)]) [0, 2] rfl ?_
          exact wX6_isRight_133 F R hk4 x2 1 s0 h
  · refine g_aload_n F (a := 0) (j := 0) dX6_isRight_29 rfl rfl ?_
    refine gt_X6_31 F (k := 0) pm0 dX6_isRight_30 (v := rf X.2.2 8) rfl ?_
    refine g_iload F (j := 5) dX6_isRight_33 rfl ?_
    refine g_zald F (k := 8) pm8 dX6_isRight_35 h (fun h => ?_)
    refine g_ifne F (tgt := 54) dX6_isRight_36 (by decide) h (fun h => ?_) (fun h => ?_)
    · refine g_aload_n F (a := 0) (j := 0) dX6_isRight_39 rfl rfl ?_
      refine gt_X6_28 F (k := 0) pm0 dX6_isRight_40 (v := rf X.2.2 7) rfl ?_
      refine g_iload F (j := 5) dX6_isRight_43 rfl ?_
      refine g_iald F (k := 7) pm7 dX6_isRight_45 h (fun h => ?_)
      refine g_iload_n F (j := 2) dX6_isRight_46 rfl rfl ?_
      refine g_icmp_ne F (tgt := 54) dX6_isRight_47 (by decide) h (fun h => ?_) (fun h => ?_)
      · refine g_iconst F (v := 1) dX6_isRight_50 (by decide) ?_
        refine g_goto F (tgt := 55) dX6_isRight_51 (by decide) ?_
        exact wX6_isRight_55 F R hk4 hk20 x1 x2 x3 x4 x5 1 s0 h
      · exact wX6_isRight_54 F R hk4 hk20 x1 x2 x3 x4 x5 s0 h
    · exact wX6_isRight_54 F R hk4 hk20 x1 x2 x3 x4 x5 s0 h
theorem wX6_isRight_20_lp {X : Cx} (F : Fx false X cX6_isRight RX6 7 1 23) {res : Int32 × SS} (R : RZ false X cX6_isRight 7 res) {N : Nat} {k4 : Int32 → Int32 → SS → Option (Int32 × SS)} (hk4 : ∀ (x1 : Int32) (x2 : Int32) (σ : SS), k4 x1 x2 σ = some res → G false X 7 4 [(0, rf X.2.2 0), (1, .int x1), (2, .int x2)] [] σ) : ∀ (n : Nat) (x1 : Int32) (x2 : Int32) (x3 : Int32) (x4 : Int32) (x5 : Int32) (s0 : SS), lp (fX6_isRight_20 N k4) (fun _ _ _ _ _ _ => none) n x1 x2 x3 x4 x5 s0 = some res → G false X 7 20 [(0, rf X.2.2 0), (1, .int x1), (2, .int x2), (3, .int x3), (4, .int x4), (5, .int x5)] [] s0 := by
  intro n
  induction n with
  | zero => intro x1 x2 x3 x4 x5 s0 h; cases (show (none : Option (Int32 × SS)) = some res from h)
  | succ n ih => intro x1 x2 x3 x4 x5 s0 h; exact wX6_isRight_20 F R hk4 ih x1 x2 x3 x4 x5 s0 h
set_option maxRecDepth 20000 in
theorem wX6_isRight_235 {X : Cx} (F : Fx false X cX6_isRight RX6 7 1 23) {res : Int32 × SS} (R : RZ false X cX6_isRight 7 res) {N : Nat} {k142 : Int32 → Int32 → SS → Option (Int32 × SS)} {k152 : Int32 → Int32 → Int32 → SS → Option (Int32 × SS)} (hk142 : ∀ (x1 : Int32) (x2 : Int32) (σ : SS), k142 x1 x2 σ = some res → G false X 7 142 [(0, rf X.2.2 0), (1, .int x1), (2, .int x2)] [] σ) (hk152 : ∀ (x1 : Int32) (x2 : Int32) (x3 : Int32) (σ : SS), k152 x1 x2 x3 σ = some res → G false X 7 152 [(0, rf X.2.2 0), (1, .int x1), (2, .int x2), (3, .int x3)] [] σ) : ∀ (x1 : Int32) (x2 : Int32) (x3 : Int32) (s0 : SS), fX6_isRight_235 N k142 k152 x1 x2 x3 s0 = some res → G false X 7 235 [(0, rf X.2.2 0), (1, .int x1), (2, .int x2), (3, .int x3)] [] s0 := by
  intro x1 x2 x3 s0 h
  unfold fX6_isRight_235 at h
  refine g_iinc F (j := 3) (v := x3 + 1) dX6_isRight_235 rfl rfl (by decide) (lv' := [(0, rf X.2.2 0), (1, .int x1), (2, .int x2), (3, .int (x3 + 1))]) [1, 2, 3, 0] rfl ?_
  refine g_goto F (tgt := 152) dX6_isRight_238 (by decide) ?_
  exact hk152 x1 x2 (x3 + 1) s0 h
set_option maxRecDepth 20000 in
theorem wX6_isRight_234 {X : Cx} (F : Fx false X cX6_isRight RX6 7 1 23) {res : Int32 × SS} (R : RZ false X cX6_isRight 7 res) {N : Nat} {k142 : Int32 → Int32 → SS → Option (Int32 × SS)} {k152 : Int32 → Int32 → Int32 → SS → Option (Int32 × SS)} (hk142 : ∀ (x1 : Int32) (x2 : Int32) (σ : SS), k142 x1 x2 σ = some res → G false X 7 142 [(0, rf X.2.2 0), (1, .int x1), (2, .int x2)] [] σ) (hk152 : ∀ (x1 : Int32) (x2 : Int32) (x3 : Int32) (σ : SS), k152 x1 x2 x3 σ = some res → G false X 7 152 [(0, rf X.2.2 0), (1, .int x1), (2, .int x2), (3, .int x3)] [] σ) : ∀ (x2 : Int32) (x3 : Int32) (t0 : Int32) (s0 : SS), fX6_isRight_234 N k142 k152 x2 x3 t0 s0 = some res → G false X 7 234 [(0, rf X.2.2 0), (2, .int x2), (3, .int x3)] [.int t0] s0 := by
  intro x2 x3 t0 s0 h
  unfold fX6_isRight_234 at h
  refine g_istore_n F dX6_isRight_234 rfl (by decide) (lv' := [(0, rf X.2.2 0), (1, .int t0), (2, .int x2), (3, .int x3)]) [1, 0, 2, 3] rfl ?_
  exact wX6_isRight_235 F R hk142 hk152 t0 x2 x3 s0 h
set_option maxRecDepth 20000 in
theorem wX6_isRight_229 {X : Cx} (F : Fx false X cX6_isRight RX6 7 1 23) {res : Int32 × SS} (R : RZ false X cX6_isRight 7 res) {N : Nat} {k142 : Int32 → Int32 → SS → Option (Int32 × SS)} {k152 : Int32 → Int32 → Int32 → SS → Option (Int32 × SS)} (hk142 : ∀ (x1 : Int32) (x2 : Int32) (σ : SS), k142 x1 x2 σ = some res → G false X 7 142 [(0, rf X.2.2 0), (1, .int x1), (2, .int x2)] [] σ) (hk152 : ∀ (x1 : Int32) (x2 : Int32) (x3 : Int32) (σ : SS), k152 x1 x2 x3 σ = some res → G false X 7 152 [(0, rf X.2.2 0), (1, .int x1), (2, .int x2), (3, .int x3)] [] σ) : ∀ (x2 : Int32) (x3 : Int32) (s0 : SS), fX6_isRight_229 N k142 k152 x2 x3 s0 = some res → G false X 7 229 [(0, rf X.2.2 0), (2, .int x2), (3, .int x3)] [] s0 := by
  intro x2 x3 s0 h
  unfold fX6_isRight_229 at h
  refine g_iconst F (v := 1) dX6_isRight_229 (by decide) ?_
  refine g_goto F (tgt := 234) dX6_isRight_230 (by decide) ?_
  exact wX6_isRight_234 F R hk142 hk152 x2 x3 1 s0 h
set_option maxRecDepth 20000 in
theorem wX6_isRight_233 {X : Cx} (F : Fx false X cX6_isRight RX6 7 1 23) {res : Int32 × SS} (R : RZ false X cX6_isRight 7 res) {N : Nat} {k142 : Int32 → Int32 → SS → Option (Int32 × SS)} {k152 : Int32 → Int32 → Int32 → SS → Option (Int32 × SS)} (hk142 : ∀ (x1 : Int32) (x2 : Int32) (σ : SS), k142 x1 x2 σ = some res → G false X 7 142 [(0, rf X.2.2 0), (1, .int x1), (2, .int x2)] [] σ) (hk152 : ∀ (x1 : Int32) (x2 : Int32) (x3 : Int32) (σ : SS), k152 x1 x2 x3 σ = some res → G false X 7 152 [(0, rf X.2.2 0), (1, .int x1), (2, .int x2), (3, .int x3)] [] σ) : ∀ (x2 : Int32) (x3 : Int32) (s0 : SS), fX6_isRight_233 N k142 k152 x2 x3 s0 = some res → G false X 7 233 [(0, rf X.2.2 0), (2, .int x2), (3, .int x3)] [] s0 := by
  intro x2 x3 s0 h
  unfold fX6_isRight_233 at h
  refine g_iconst F (v := 0) dX6_isRight_233 (by decide) ?_
  exact wX6_isRight_234 F R hk142 hk152 x2 x3 0 s0 h
set_option maxRecDepth 20000 in
theorem wX6_isRight_204 {X : Cx} (F : Fx false X cX6_isRight RX6 7 1 23) {res : Int32 × SS} (R : RZ false X cX6_isRight 7 res) {N : Nat} {k142 : Int32 → Int32 → SS → Option (Int32 × SS)} {k152 : Int32 → Int32 → Int32 → SS → Option (Int32 × SS)} (hk142 : ∀ (x1 : Int32) (x2 : Int32) (σ : SS), k142 x1 x2 σ = some res → G false X 7 142 [(0, rf X.2.2 0), (1, .int x1), (2, .int x2)] [] σ) (hk152 : ∀ (x1 : Int32) (x2 : Int32) (x3 : Int32) (σ : SS), k152 x1 x2 x3 σ = some res → G false X 7 152 [(0, rf X.2.2 0), (1, .int x1), (2, .int x2), (3, .int x3)] [] σ) : ∀ (x2 : Int32) (x3 : Int32) (s0 : SS), fX6_isRight_204 N k142 k152 x2 x3 s0 = some res → G false X 7 204 [(0, rf X.2.2 0), (2, .int x2), (3, .int x3)] [] s0 := by
  intro x2 x3 s0 h
  unfold fX6_isRight_204 at h
  refine g_aload_n F (a := 0) (j := 0) dX6_isRight_204 rfl rfl ?_
  refine g_iload_n F (j := 1) dX6_isRight_205 rfl rfl ?_
  refine g_iload_n F (j := 2) dX6_isRight_206 rfl rfl ?_
  refine g_iconst F (v := 2) dX6_isRight_207 (by decide) ?_
  refine g_vi F (k := 0) (As := [.int x2, .int x3, .int 2]) (rest := []) (fun _ q => mX6_isLike N F.inj  q) mw_X6_isLike ml_X6_70 rfl ⟨Nat.le_of_ble_eq_true rfl, Nat.le_of_ble_eq_true rfl⟩ pm0 cl6 rfl (Nat.le_of_ble_eq_true rfl) dX6_isRight_208 h (fun v1 s1 h => ?_)
  refine g_ifeq F (tgt := 229) dX6_isRight_211 (by decide) h (fun h => ?_) (fun h => ?_)
  · exact wX6_isRight_229 F R hk142 hk152 x2 x3 s1 h
  · refine g_aload_n F (a := 0) (j := 0) dX6_isRight_214 rfl rfl ?_
    refine gt_X6_28 F (k := 0) pm0 dX6_isRight_215 (v := rf X.2.2 7) rfl ?_
    refine g_iload_n F (j := 1) dX6_isRight_218 rfl rfl ?_
    refine g_iald F (k := 7) pm7 dX6_isRight_219 h (fun h => ?_)
    refine g_aload_n F (a := 0) (j := 0) dX6_isRight_220 rfl rfl ?_
    refine gt_X6_28 F (k := 0) pm0 dX6_isRight_221 (v := rf X.2.2 7) rfl ?_
    refine g_iload_n F (j := 2) dX6_isRight_224 rfl rfl ?_
    refine g_iald F (k := 7) pm7 dX6_isRight_225 h (fun h => ?_)
    refine g_icmp_ne F (tgt := 233) dX6_isRight_226 (by decide) h (fun h => ?_) (fun h => ?_)
    · exact wX6_isRight_229 F R hk142 hk152 x2 x3 s1 h
    · exact wX6_isRight_233 F R hk142 hk152 x2 x3 s1 h
set_option maxRecDepth 20000 in
theorem wX6_isRight_152 {X : Cx} (F : Fx false X cX6_isRight RX6 7 1 23) {res : Int32 × SS} (R : RZ false X cX6_isRight 7 res) {N : Nat} {k142 : Int32 → Int32 → SS → Option (Int32 × SS)} {k152 : Int32 → Int32 → Int32 → SS → Option (Int32 × SS)} (hk142 : ∀ (x1 : Int32) (x2 : Int32) (σ : SS), k142 x1 x2 σ = some res → G false X 7 142 [(0, rf X.2.2 0), (1, .int x1), (2, .int x2)] [] σ) (hk152 : ∀ (x1 : Int32) (x2 : Int32) (x3 : Int32) (σ : SS), k152 x1 x2 x3 σ = some res → G false X 7 152 [(0, rf X.2.2 0), (1, .int x1), (2, .int x2), (3, .int x3)] [] σ) : ∀ (x1 : Int32) (x2 : Int32) (x3 : Int32) (s0 : SS), fX6_isRight_152 N k142 k152 x1 x2 x3 s0 = some res → G false X 7 152 [(0, rf X.2.2 0), (1, .int x1), (2, .int x2), (3, .int x3)] [] s0 := by
  intro x1 x2 x3 s0 h
  unfold fX6_isRight_152 at h
  refine g_iload_n F (j := 3) dX6_isRight_152 rfl rfl ?_
  refine g_iload_n F (j := 2) dX6_isRight_153 rfl rfl ?_
  refine g_icmp_ge F (tgt := 241) dX6_isRight_154 (by decide) h (fun h => ?_) (fun h => ?_)
  · refine g_iinc F (j := 2) (v := x2 + 1) dX6_isRight_241 rfl rfl (by decide) (lv' := [(0, rf X.2.2 0), (1, .int x1), (2, .int (x2 + 1))]) [1, 2, 0] rfl ?_
    refine g_goto F (tgt := 142) dX6_isRight_244 (by decide) ?_
    exact hk142 x1 (x2 + 1) s0 h
  · refine g_aload_n F (a := 0) (j := 0) dX6_isRight_157 rfl rfl ?_
    refine gt_X6_31 F (k := 0) pm0 dX6_isRight_158 (v := rf X.2.2 8) rfl ?_
    refine g_iload_n F (j := 2) dX6_isRight_161 rfl rfl ?_
    refine g_zald F (k := 8) pm8 dX6_isRight_162 h (fun h => ?_)
    refine g_ifne F (tgt := 235) dX6_isRight_163 (by decide) h (fun h => ?_) (fun h => ?_)
    · refine g_aload_n F (a := 0) (j := 0) dX6_isRight_166 rfl rfl ?_
      refine gt_X6_31 F (k := 0) pm0 dX6_isRight_167 (v := rf X.2.2 8) rfl ?_
      refine g_iload_n F (j := 3) dX6_isRight_170 rfl rfl ?_
      refine g_zald F (k := 8) pm8 dX6_isRight_171 h (fun h => ?_)
      refine g_ifne F (tgt := 235) dX6_isRight_172 (by decide) h (fun h => ?_) (fun h => ?_)
      · refine g_iload_n F (j := 1) dX6_isRight_175 rfl rfl ?_
        refine g_ifeq F (tgt := 233) dX6_isRight_176 (by decide) h (fun h => ?_) (fun h => ?_)
        · refine g_sub (lv' := [(0, rf X.2.2 0), (2, .int x2), (3, .int x3)]) [0, 2, 3] rfl ?_
          exact wX6_isRight_233 F R hk142 hk152 x2 x3 s0 h
        · refine g_aload_n F (a := 0) (j := 0) dX6_isRight_179 rfl rfl ?_
          refine g_iload_n F (j := 2) dX6_isRight_180 rfl rfl ?_
          refine g_iload_n F (j := 3) dX6_isRight_181 rfl rfl ?_
          refine g_iconst F (v := 1) dX6_isRight_182 (by decide) ?_
          refine g_vi F (k := 0) (As := [.int x2, .int x3, .int 1]) (rest := []) (fun _ q => mX6_isLike N F.inj  q) mw_X6_isLike ml_X6_70 rfl ⟨Nat.le_of_ble_eq_true rfl, Nat.le_of_ble_eq_true rfl⟩ pm0 cl6 rfl (Nat.le_of_ble_eq_true rfl) dX6_isRight_183 h (fun v1 s1 h => ?_)
          refine g_ifeq F (tgt := 204) dX6_isRight_186 (by decide) h (fun h => ?_) (fun h => ?_)
          · refine g_sub (lv' := [(0, rf X.2.2 0), (2, .int x2), (3, .int x3)]) [0, 2, 3] rfl ?_
            exact wX6_isRight_204 F R hk142 hk152 x2 x3 s1 h
          · refine g_aload_n F (a := 0) (j := 0) dX6_isRight_189 rfl rfl ?_
            refine gt_X6_28 F (k := 0) pm0 dX6_isRight_190 (v := rf X.2.2 7) rfl ?_
            refine g_iload_n F (j := 2) dX6_isRight_193 rfl rfl ?_
            refine g_iald F (k := 7) pm7 dX6_isRight_194 h (fun h => ?_)
            refine g_aload_n F (a := 0) (j := 0) dX6_isRight_195 rfl rfl ?_
            refine gt_X6_28 F (k := 0) pm0 dX6_isRight_196 (v := rf X.2.2 7) rfl ?_
            refine g_iload_n F (j := 3) dX6_isRight_199 rfl rfl ?_
            refine g_iald F (k := 7) pm7 dX6_isRight_200 h (fun h => ?_)
            refine g_icmp_eq F (tgt := 233) dX6_isRight_201 (by decide) h (fun h => ?_) (fun h => ?_)
            · refine g_sub (lv' := [(0, rf X.2.2 0), (2, .int x2), (3, .int x3)]) [0, 2, 3] rfl ?_
              exact wX6_isRight_233 F R hk142 hk152 x2 x3 s1 h
            · refine g_sub (lv' := [(0, rf X.2.2 0), (2, .int x2), (3, .int x3)]) [0, 2, 3] rfl ?_
              exact wX6_isRight_204 F R hk142 hk152 x2 x3 s1 h
      · exact wX6_isRight_235 F R hk142 hk152 x1 x2 x3 s0 h
    · exact wX6_isRight_235 F R hk142 hk152 x1 x2 x3 s0 h
theorem wX6_isRight_152_lp {X : Cx} (F : Fx false X cX6_isRight RX6 7 1 23) {res : Int32 × SS} (R : RZ false X cX6_isRight 7 res) {N : Nat} {k142 : Int32 → Int32 → SS → Option (Int32 × SS)} (hk142 : ∀ (x1 : Int32) (x2 : Int32) (σ : SS), k142 x1 x2 σ = some res → G false X 7 142 [(0, rf X.2.2 0), (1, .int x1), (2, .int x2)] [] σ) : ∀ (n : Nat) (x1 : Int32) (x2 : Int32) (x3 : Int32) (s0 : SS), lp (fX6_isRight_152 N k142) (fun _ _ _ _ => none) n x1 x2 x3 s0 = some res → G false X 7 152 [(0, rf X.2.2 0), (1, .int x1), (2, .int x2), (3, .int x3)] [] s0 := by
  intro n
  induction n with
  | zero => intro x1 x2 x3 s0 h; cases (show (none : Option (Int32 × SS)) = some res from h)
  | succ n ih => intro x1 x2 x3 s0 h; exact wX6_isRight_152 F R hk142 ih x1 x2 x3 s0 h
set_option maxRecDepth 20000 in
theorem wX6_isRight_142 {X : Cx} (F : Fx false X cX6_isRight RX6 7 1 23) {res : Int32 × SS} (R : RZ false X cX6_isRight 7 res) {N : Nat} {k142 : Int32 → Int32 → SS → Option (Int32 × SS)} (hk142 : ∀ (x1 : Int32) (x2 : Int32) (σ : SS), k142 x1 x2 σ = some res → G false X 7 142 [(0, rf X.2.2 0), (1, .int x1), (2, .int x2)] [] σ) : ∀ (x1 : Int32) (x2 : Int32) (s0 : SS), fX6_isRight_142 N k142 x1 x2 s0 = some res → G false X 7 142 [(0, rf X.2.2 0), (1, .int x1), (2, .int x2)] [] s0 := by
  intro x1 x2 s0 h
  unfold fX6_isRight_142 at h
  refine g_iload_n F (j := 2) dX6_isRight_142 rfl rfl ?_
  refine g_aload_n F (a := 0) (j := 0) dX6_isRight_143 rfl rfl ?_
  refine gt_X6_67 F (k := 0) pm0 dX6_isRight_144 (v := .int (s0 0 3)) rfl ?_
  refine g_icmp_ge F (tgt := 247) dX6_isRight_147 (by decide) h (fun h => ?_) (fun h => ?_)
  · refine g_iload_n F (j := 1) dX6_isRight_247 rfl rfl ?_
    exact R _ _ _ _ dX6_isRight_248 h
  · refine g_iconst F (v := 0) dX6_isRight_150 (by decide) ?_
    refine g_istore_n F dX6_isRight_151 rfl (by decide) (lv' := [(0, rf X.2.2 0), (1, .int x1), (2, .int x2), (3, .int 0)]) [1, 2, 3, 0] rfl ?_
    exact wX6_isRight_152_lp F R hk142 N x1 x2 0 s0 h
theorem wX6_isRight_142_lp {X : Cx} (F : Fx false X cX6_isRight RX6 7 1 23) {res : Int32 × SS} (R : RZ false X cX6_isRight 7 res) {N : Nat} : ∀ (n : Nat) (x1 : Int32) (x2 : Int32) (s0 : SS), lp (fX6_isRight_142 N) (fun _ _ _ => none) n x1 x2 s0 = some res → G false X 7 142 [(0, rf X.2.2 0), (1, .int x1), (2, .int x2)] [] s0 := by
  intro n
  induction n with
  | zero => intro x1 x2 s0 h; cases (show (none : Option (Int32 × SS)) = some res from h)
  | succ n ih => intro x1 x2 s0 h; exact wX6_isRight_142 F R ih x1 x2 s0 h
set_option maxRecDepth 20000 in
theorem wX6_isRight_4 {X : Cx} (F : Fx false X cX6_isRight RX6 7 1 23) {res : Int32 × SS} (R : RZ false X cX6_isRight 7 res) {N : Nat} {k4 : Int32 → Int32 → SS → Option (Int32 × SS)} (hk4 : ∀ (x1 : Int32) (x2 : Int32) (σ : SS), k4 x1 x2 σ = some res → G false X 7 4 [(0, rf X.2.2 0), (1, .int x1), (2, .int x2)] [] σ) : ∀ (x1 : Int32) (x2 : Int32) (s0 : SS), fX6_isRight_4 N k4 x1 x2 s0 = some res → G false X 7 4 [(0, rf X.2.2 0), (1, .int x1), (2, .int x2)] [] s0 := by
  intro x1 x2 s0 h
  unfold fX6_isRight_4 at h
  refine g_iload_n F (j := 2) dX6_isRight_4 rfl rfl ?_
  refine g_aload_n F (a := 0) (j := 0) dX6_isRight_5 rfl rfl ?_
  refine gt_X6_64 F (k := 0) pm0 dX6_isRight_6 (v := .int (s0 0 0)) rfl ?_
  refine g_icmp_ge F (tgt := 140) dX6_isRight_9 (by decide) h (fun h => ?_) (fun h => ?_)
  · refine g_iconst F (v := 0) dX6_isRight_140 (by decide) ?_
    refine g_istore_n F dX6_isRight_141 rfl (by decide) (lv' := [(0, rf X.2.2 0), (1, .int x1), (2, .int 0)]) [1, 2, 0] rfl ?_
    exact wX6_isRight_142_lp F R N x1 0 s0 h
  · refine g_iconst F (v := 0) dX6_isRight_12 (by decide) ?_
    refine g_istore_n F dX6_isRight_13 rfl (by decide) (lv' := [(0, rf X.2.2 0), (1, .int x1), (2, .int x2), (3, .int 0)]) [1, 2, 3, 0] rfl ?_
    refine g_iconst F (v := 0) dX6_isRight_14 (by decide) ?_
    refine g_istore F dX6_isRight_15 (by decide) (lv' := [(0, rf X.2.2 0), (1, .int x1), (2, .int x2), (3, .int 0), (4, .int 0)]) [1, 2, 3, 4, 0] rfl ?_
    refine g_iconst F (v := 0) dX6_isRight_17 (by decide) ?_
    refine g_istore F dX6_isRight_18 (by decide) (lv' := [(0, rf X.2.2 0), (1, .int x1), (2, .int x2), (3, .int 0), (4, .int 0), (5, .int 0)]) [1, 2, 3, 4, 5, 0] rfl ?_
    exact wX6_isRight_20_lp F R hk4 N x1 x2 0 0 0 s0 h
theorem wX6_isRight_4_lp {X : Cx} (F : Fx false X cX6_isRight RX6 7 1 23) {res : Int32 × SS} (R : RZ false X cX6_isRight 7 res) {N : Nat} : ∀ (n : Nat) (x1 : Int32) (x2 : Int32) (s0 : SS), lp (fX6_isRight_4 N) (fun _ _ _ => none) n x1 x2 s0 = some res → G false X 7 4 [(0, rf X.2.2 0), (1, .int x1), (2, .int x2)] [] s0 := by
  intro n
  induction n with
  | zero => intro x1 x2 s0 h; cases (show (none : Option (Int32 × SS)) = some res from h)
  | succ n ih => intro x1 x2 s0 h; exact wX6_isRight_4 F R ih x1 x2 s0 h
set_option maxRecDepth 20000 in
theorem wX6_isRight_e {X : Cx} (F : Fx false X cX6_isRight RX6 7 1 23) {res : Int32 × SS} (R : RZ false X cX6_isRight 7 res) {N : Nat} : ∀  (s0 : SS), fX6_isRight N s0 = some res → G false X 7 0 [(0, rf X.2.2 0)] [] s0 := by
  intro  s0 h
  unfold fX6_isRight at h
  refine g_iconst F (v := 1) dX6_isRight_0 (by decide) ?_
  refine g_istore_n F dX6_isRight_1 rfl (by decide) (lv' := [(0, rf X.2.2 0), (1, .int 1)]) [1, 0] rfl ?_
  refine g_iconst F (v := 0) dX6_isRight_2 (by decide) ?_
  refine g_istore_n F dX6_isRight_3 rfl (by decide) (lv' := [(0, rf X.2.2 0), (1, .int 1), (2, .int 0)]) [1, 2, 0] rfl ?_
  exact wX6_isRight_4_lp F R N 1 0 s0 h
theorem mX6_isRight {l : Launch} {w : Wd} (N : Nat) (hi : inj false w)  {res : Int32 × SS} {s0 : SS} (h : fX6_isRight N s0 = some res) : MI false l yX6_isRight cX6_isRight 7 (some .boolean) { frames := 1, cells := 0, slots := 0, locals := 23 } w [rf w 0] s0 res := by
  refine mk_z (by decide) hi (Nat.le_of_ble_eq_true rfl) (fun X hX hL F R => ?_)
  subst hX; subst hL
  exact wX6_isRight_e F R  s0 h
