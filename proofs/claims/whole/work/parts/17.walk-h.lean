set_option maxRecDepth 20000 in
theorem wX0_seek_169 {X : Cx} {d : Nat} (F : Fx true X cX0_seek RX0 7 (2 + (d + 1)) (45 + 26 * (d + 1))) {res : Int32 × SS} (R : RZ true X cX0_seek 7 res) {N : Nat} {self : Int32 → Int32 → SS → Option (Int32 × SS)} (hself : ∀ z1 z2 σ res, self z1 z2 σ = some res → MI true X.1.2.1 yX0_seek cX0_seek 7 (some .boolean) { frames := 2 + d, cells := 0, slots := 0, locals := 45 + 26 * d } X.2.2 [rf X.2.2 27, .int z1, .int z2] σ res) {k23 : Int32 → Int32 → Int32 → SS → Option (Int32 × SS)} (hk23 : ∀ (x1 : Int32) (x2 : Int32) (x3 : Int32) (σ : SS), k23 x1 x2 x3 σ = some res → G true X 7 23 [(0, rf X.2.2 27), (1, .int x1), (2, .int x2), (3, .int x3)] [] σ) : ∀ (x1 : Int32) (x2 : Int32) (x3 : Int32) (s0 : SS), fX0_seek_169 N self k23 x1 x2 x3 s0 = some res → G true X 7 169 [(0, rf X.2.2 27), (1, .int x1), (2, .int x2), (3, .int x3)] [] s0 := by
  intro x1 x2 x3 s0 h
  unfold fX0_seek_169 at h
  refine g_iinc F (j := 3) (v := x3 + 1) dX0_seek_169 rfl rfl (by decide) (lv' := [(0, rf X.2.2 27), (1, .int x1), (2, .int x2), (3, .int (x3 + 1))]) [1, 2, 3, 0] rfl ?_
  refine g_goto F (tgt := 23) dX0_seek_172 (by decide) ?_
  exact hk23 x1 x2 (x3 + 1) s0 h
set_option maxRecDepth 20000 in
theorem wX0_seek_57 {X : Cx} {d : Nat} (F : Fx true X cX0_seek RX0 7 (2 + (d + 1)) (45 + 26 * (d + 1))) {res : Int32 × SS} (R : RZ true X cX0_seek 7 res) {N : Nat} {self : Int32 → Int32 → SS → Option (Int32 × SS)} (hself : ∀ z1 z2 σ res, self z1 z2 σ = some res → MI true X.1.2.1 yX0_seek cX0_seek 7 (some .boolean) { frames := 2 + d, cells := 0, slots := 0, locals := 45 + 26 * d } X.2.2 [rf X.2.2 27, .int z1, .int z2] σ res) {k23 : Int32 → Int32 → Int32 → SS → Option (Int32 × SS)} (hk23 : ∀ (x1 : Int32) (x2 : Int32) (x3 : Int32) (σ : SS), k23 x1 x2 x3 σ = some res → G true X 7 23 [(0, rf X.2.2 27), (1, .int x1), (2, .int x2), (3, .int x3)] [] σ) : ∀ (x1 : Int32) (x2 : Int32) (x3 : Int32) (t0 : Int32) (s0 : SS), fX0_seek_57 N self k23 x1 x2 x3 t0 s0 = some res → G true X 7 57 [(0, rf X.2.2 27), (1, .int x1), (2, .int x2), (3, .int x3)] [.int t0] s0 := by
  intro x1 x2 x3 t0 s0 h
  unfold fX0_seek_57 at h
  refine g_istore F dX0_seek_57 (by decide) (lv' := [(0, rf X.2.2 27), (1, .int x1), (2, .int x2), (3, .int x3), (4, .int t0)]) [1, 2, 3, 4, 0] rfl ?_
  refine g_iload F (j := 4) dX0_seek_59 rfl ?_
  refine g_ifeq F (tgt := 169) dX0_seek_61 (by decide) h (fun h => ?_) (fun h => ?_)
  · refine g_sub (lv' := [(0, rf X.2.2 27), (1, .int x1), (2, .int x2), (3, .int x3)]) [0, 1, 2, 3] rfl ?_
    exact wX0_seek_169 F R hself hk23 x1 x2 x3 s0 h
  · refine g_aload_n F (a := 27) (j := 0) dX0_seek_64 rfl rfl ?_
    refine gt_X0_45 F (k := 27) pc27 dX0_seek_65 (v := rf X.2.2 33) rfl ?_
    refine g_aload_n F (a := 27) (j := 0) dX0_seek_68 rfl rfl ?_
    refine gt_X0_19 F (k := 27) pc27 dX0_seek_69 (v := rf X.2.2 29) rfl ?_
    refine g_iload_n F (j := 3) dX0_seek_72 rfl rfl ?_
    refine g_iald F (k := 29) pc29 dX0_seek_73 h (fun h => ?_)
    refine g_aload_n F (a := 27) (j := 0) dX0_seek_74 rfl rfl ?_
    refine gt_X0_22 F (k := 27) pc27 dX0_seek_75 (v := rf X.2.2 30) rfl ?_
    refine g_iload_n F (j := 3) dX0_seek_78 rfl rfl ?_
    refine g_iald F (k := 30) pc30 dX0_seek_79 h (fun h => ?_)
    refine g_vi F (k := 33) (As := [.int (s0 29 (Int32.toNatClampNeg x3)), .int (s0 30 (Int32.toNatClampNeg x3))]) (rest := []) (fun _ q => mX1_takesBlock N F.inj row33 q) mw_X1_takesBlock ml_X0_99 rfl ⟨by omega, by omega⟩ pc33 cl1 rfl (Nat.le_of_ble_eq_true rfl) dX0_seek_80 h (fun v1 s1 h => ?_)
    refine g_ifeq F (tgt := 169) dX0_seek_83 (by decide) h (fun h => ?_) (fun h => ?_)
    · refine g_sub (lv' := [(0, rf X.2.2 27), (1, .int x1), (2, .int x2), (3, .int x3)]) [0, 1, 2, 3] rfl ?_
      exact wX0_seek_169 F R hself hk23 x1 x2 x3 s1 h
    · refine g_aload_n F (a := 27) (j := 0) dX0_seek_86 rfl rfl ?_
      refine gt_X0_45 F (k := 27) pc27 dX0_seek_87 (v := rf X.2.2 33) rfl ?_
      refine gt_X0_68 F (k := 33) pc33 dX0_seek_90 (v := rf X.2.2 34) rfl ?_
      refine g_aload_n F (a := 27) (j := 0) dX0_seek_93 rfl rfl ?_
      refine gt_X0_19 F (k := 27) pc27 dX0_seek_94 (v := rf X.2.2 29) rfl ?_
      refine g_iload_n F (j := 3) dX0_seek_97 rfl rfl ?_
      refine g_iald F (k := 29) pc29 dX0_seek_98 h (fun h => ?_)
      refine g_iald F (k := 34) pc34 dX0_seek_99 h (fun h => ?_)
      refine g_istore F dX0_seek_100 (by decide) (lv' := [(0, rf X.2.2 27), (1, .int x1), (2, .int x2), (3, .int x3), (5, .int (s1 34 (Int32.toNatClampNeg (s1 29 (Int32.toNatClampNeg x3)))))]) [1, 2, 3, 4, 0] rfl ?_
      refine g_aload_n F (a := 27) (j := 0) dX0_seek_102 rfl rfl ?_
      refine gt_X0_45 F (k := 27) pc27 dX0_seek_103 (v := rf X.2.2 33) rfl ?_
      refine g_aload_n F (a := 27) (j := 0) dX0_seek_106 rfl rfl ?_
      refine gt_X0_19 F (k := 27) pc27 dX0_seek_107 (v := rf X.2.2 29) rfl ?_
      refine g_iload_n F (j := 3) dX0_seek_110 rfl rfl ?_
      refine g_iald F (k := 29) pc29 dX0_seek_111 h (fun h => ?_)
      refine g_aload_n F (a := 27) (j := 0) dX0_seek_112 rfl rfl ?_
      refine gt_X0_22 F (k := 27) pc27 dX0_seek_113 (v := rf X.2.2 30) rfl ?_
      refine g_iload_n F (j := 3) dX0_seek_116 rfl rfl ?_
      refine g_iald F (k := 30) pc30 dX0_seek_117 h (fun h => ?_)
      refine g_vv F (k := 33) (As := [.int (s1 29 (Int32.toNatClampNeg x3)), .int (s1 30 (Int32.toNatClampNeg x3))]) (rest := []) (fun _ q => mX1_shift N F.inj row33 q) mw_X1_shift ml_X0_102 rfl ⟨by omega, by omega⟩ pc33 cl1 rfl (Nat.le_of_ble_eq_true rfl) dX0_seek_118 h (fun s2 h => ?_)
      refine g_aload_n F (a := 27) (j := 0) dX0_seek_121 rfl rfl ?_
      refine gt_X0_15 F (k := 27) pc27 dX0_seek_122 (v := rf X.2.2 28) rfl ?_
      refine g_iload_n F (j := 2) dX0_seek_125 rfl rfl ?_
      refine g_aload_n F (a := 27) (j := 0) dX0_seek_126 rfl rfl ?_
      refine gt_X0_19 F (k := 27) pc27 dX0_seek_127 (v := rf X.2.2 29) rfl ?_
      refine g_iload_n F (j := 3) dX0_seek_130 rfl rfl ?_
      refine g_iald F (k := 29) pc29 dX0_seek_131 h (fun h => ?_)
      refine g_iast F (k := 28) pc28 dX0_seek_132 h (fun s3 h => ?_)
      refine g_aload_n F (a := 27) (j := 0) dX0_seek_133 rfl rfl ?_
      refine g_iload_n F (j := 1) dX0_seek_134 rfl rfl ?_
      refine g_iconst F (v := 1) dX0_seek_135 (by decide) ?_
      refine g_iload_n F (j := 3) dX0_seek_136 rfl rfl ?_
      refine g_ishl F dX0_seek_137 ?_
      refine g_ior F dX0_seek_138 ?_
      refine g_iload_n F (j := 2) dX0_seek_139 rfl rfl ?_
      refine g_iconst F (v := 1) dX0_seek_140 (by decide) ?_
      refine g_iadd F dX0_seek_141 ?_
      refine g_vi F (k := 27) (As := [.int (x1 ||| ((1 : Int32) <<< (x3 &&& (31 : Int32)))), .int (x2 + 1)]) (rest := []) (fun _ q => hself _ _ _ _ q) mw_X0_seek ml_X0_95 rfl ⟨by omega, by omega⟩ pc27 cl0 rfl (Nat.le_of_ble_eq_true rfl) dX0_seek_142 h (fun v4 s4 h => ?_)
      refine g_istore F dX0_seek_145 (by decide) (lv' := [(0, rf X.2.2 27), (1, .int x1), (2, .int x2), (3, .int x3), (5, .int (s1 34 (Int32.toNatClampNeg (s1 29 (Int32.toNatClampNeg x3))))), (6, .int v4)]) [1, 2, 3, 4, 5, 0] rfl ?_
      refine g_aload_n F (a := 27) (j := 0) dX0_seek_147 rfl rfl ?_
      refine gt_X0_45 F (k := 27) pc27 dX0_seek_148 (v := rf X.2.2 33) rfl ?_
      refine g_aload_n F (a := 27) (j := 0) dX0_seek_151 rfl rfl ?_
      refine gt_X0_19 F (k := 27) pc27 dX0_seek_152 (v := rf X.2.2 29) rfl ?_
      refine g_iload_n F (j := 3) dX0_seek_155 rfl rfl ?_
      refine g_iald F (k := 29) pc29 dX0_seek_156 h (fun h => ?_)
      refine g_iload F (j := 4) dX0_seek_157 rfl ?_
      refine g_vv F (k := 33) (As := [.int (s4 29 (Int32.toNatClampNeg x3)), .int (s1 34 (Int32.toNatClampNeg (s1 29 (Int32.toNatClampNeg x3))))]) (rest := []) (fun _ q => mX1_shift N F.inj row33 q) mw_X1_shift ml_X0_102 rfl ⟨by omega, by omega⟩ pc33 cl1 rfl (Nat.le_of_ble_eq_true rfl) dX0_seek_159 h (fun s5 h => ?_)
      refine g_iload F (j := 5) dX0_seek_162 rfl ?_
      refine g_ifeq F (tgt := 169) dX0_seek_164 (by decide) h (fun h => ?_) (fun h => ?_)
      · refine g_sub (lv' := [(0, rf X.2.2 27), (1, .int x1), (2, .int x2), (3, .int x3)]) [0, 1, 2, 3] rfl ?_
        exact wX0_seek_169 F R hself hk23 x1 x2 x3 s5 h
      · refine g_iconst F (v := 1) dX0_seek_167 (by decide) ?_
        exact R _ _ _ _ dX0_seek_168 h
set_option maxRecDepth 20000 in
theorem wX0_seek_56 {X : Cx} {d : Nat} (F : Fx true X cX0_seek RX0 7 (2 + (d + 1)) (45 + 26 * (d + 1))) {res : Int32 × SS} (R : RZ true X cX0_seek 7 res) {N : Nat} {self : Int32 → Int32 → SS → Option (Int32 × SS)} (hself : ∀ z1 z2 σ res, self z1 z2 σ = some res → MI true X.1.2.1 yX0_seek cX0_seek 7 (some .boolean) { frames := 2 + d, cells := 0, slots := 0, locals := 45 + 26 * d } X.2.2 [rf X.2.2 27, .int z1, .int z2] σ res) {k23 : Int32 → Int32 → Int32 → SS → Option (Int32 × SS)} (hk23 : ∀ (x1 : Int32) (x2 : Int32) (x3 : Int32) (σ : SS), k23 x1 x2 x3 σ = some res → G true X 7 23 [(0, rf X.2.2 27), (1, .int x1), (2, .int x2), (3, .int x3)] [] σ) : ∀ (x1 : Int32) (x2 : Int32) (x3 : Int32) (s0 : SS), fX0_seek_56 N self k23 x1 x2 x3 s0 = some res → G true X 7 56 [(0, rf X.2.2 27), (1, .int x1), (2, .int x2), (3, .int x3)] [] s0 := by
  intro x1 x2 x3 s0 h
  unfold fX0_seek_56 at h
  refine g_iconst F (v := 0) dX0_seek_56 (by decide) ?_
  exact wX0_seek_57 F R hself hk23 x1 x2 x3 0 s0 h
set_option maxRecDepth 20000 in
theorem wX0_seek_23 {X : Cx} {d : Nat} (F : Fx true X cX0_seek RX0 7 (2 + (d + 1)) (45 + 26 * (d + 1))) {res : Int32 × SS} (R : RZ true X cX0_seek 7 res) {N : Nat} {self : Int32 → Int32 → SS → Option (Int32 × SS)} (hself : ∀ z1 z2 σ res, self z1 z2 σ = some res → MI true X.1.2.1 yX0_seek cX0_seek 7 (some .boolean) { frames := 2 + d, cells := 0, slots := 0, locals := 45 + 26 * d } X.2.2 [rf X.2.2 27, .int z1, .int z2] σ res) {k23 : Int32 → Int32 → Int32 → SS → Option (Int32 × SS)} (hk23 : ∀ (x1 : Int32) (x2 : Int32) (x3 : Int32) (σ : SS), k23 x1 x2 x3 σ = some res → G true X 7 23 [(0, rf X.2.2 27), (1, .int x1), (2, .int x2), (3, .int x3)] [] σ) : ∀ (x1 : Int32) (x2 : Int32) (x3 : Int32) (s0 : SS), fX0_seek_23 N self k23 x1 x2 x3 s0 = some res → G true X 7 23 [(0, rf X.2.2 27), (1, .int x1), (2, .int x2), (3, .int x3)] [] s0 := by
  intro x1 x2 x3 s0 h
  unfold fX0_seek_23 at h
  refine g_iload_n F (j := 3) dX0_seek_23 rfl rfl ?_
  refine g_aload_n F (a := 27) (j := 0) dX0_seek_24 rfl rfl ?_
  refine gt_X0_9 F (k := 27) pc27 dX0_seek_25 (v := .int (s0 27 3)) rfl ?_
  refine g_icmp_ge F (tgt := 175) dX0_seek_28 (by decide) h (fun h => ?_) (fun h => ?_)
  · refine g_aload_n F (a := 27) (j := 0) dX0_seek_175 rfl rfl ?_
    refine gt_X0_28 F (k := 27) pc27 dX0_seek_176 (v := rf X.2.2 32) rfl ?_
    refine g_iload_n F (j := 1) dX0_seek_179 rfl rfl ?_
    refine g_iconst F (v := 1) dX0_seek_180 (by decide) ?_
    refine g_zast F (k := 32) pc32 dX0_seek_181 h (fun s1 h => ?_)
    refine g_iconst F (v := 0) dX0_seek_182 (by decide) ?_
    exact R _ _ _ _ dX0_seek_183 h
  · refine g_iload_n F (j := 1) dX0_seek_31 rfl rfl ?_
    refine g_iload_n F (j := 3) dX0_seek_32 rfl rfl ?_
    refine g_ishr F dX0_seek_33 ?_
    refine g_iconst F (v := 1) dX0_seek_34 (by decide) ?_
    refine g_iand F dX0_seek_35 ?_
    refine g_ifne F (tgt := 56) dX0_seek_36 (by decide) h (fun h => ?_) (fun h => ?_)
    · refine g_aload_n F (a := 27) (j := 0) dX0_seek_39 rfl rfl ?_
      refine gt_X0_25 F (k := 27) pc27 dX0_seek_40 (v := rf X.2.2 31) rfl ?_
      refine g_iload_n F (j := 3) dX0_seek_43 rfl rfl ?_
      refine g_iald F (k := 31) pc31 dX0_seek_44 h (fun h => ?_)
      refine g_iload_n F (j := 1) dX0_seek_45 rfl rfl ?_
      refine g_iconst F (v := (-1)) dX0_seek_46 (by decide) ?_
      refine g_ixor F dX0_seek_47 ?_
      refine g_iand F dX0_seek_48 ?_
      refine g_ifne F (tgt := 56) dX0_seek_49 (by decide) h (fun h => ?_) (fun h => ?_)
      · refine g_iconst F (v := 1) dX0_seek_52 (by decide) ?_
        refine g_goto F (tgt := 57) dX0_seek_53 (by decide) ?_
        exact wX0_seek_57 F R hself hk23 x1 x2 x3 1 s0 h
      · exact wX0_seek_56 F R hself hk23 x1 x2 x3 s0 h
    · exact wX0_seek_56 F R hself hk23 x1 x2 x3 s0 h
theorem wX0_seek_23_lp {X : Cx} {d : Nat} (F : Fx true X cX0_seek RX0 7 (2 + (d + 1)) (45 + 26 * (d + 1))) {res : Int32 × SS} (R : RZ true X cX0_seek 7 res) {N : Nat} {self : Int32 → Int32 → SS → Option (Int32 × SS)} (hself : ∀ z1 z2 σ res, self z1 z2 σ = some res → MI true X.1.2.1 yX0_seek cX0_seek 7 (some .boolean) { frames := 2 + d, cells := 0, slots := 0, locals := 45 + 26 * d } X.2.2 [rf X.2.2 27, .int z1, .int z2] σ res) : ∀ (n : Nat) (x1 : Int32) (x2 : Int32) (x3 : Int32) (s0 : SS), lp (fX0_seek_23 N self) (fun _ _ _ _ => none) n x1 x2 x3 s0 = some res → G true X 7 23 [(0, rf X.2.2 27), (1, .int x1), (2, .int x2), (3, .int x3)] [] s0 := by
  intro n
  induction n with
  | zero => intro x1 x2 x3 s0 h; cases (show (none : Option (Int32 × SS)) = some res from h)
  | succ n ih => intro x1 x2 x3 s0 h; exact wX0_seek_23 F R hself ih x1 x2 x3 s0 h
set_option maxRecDepth 20000 in
theorem wX0_seek_e {X : Cx} {d : Nat} (F : Fx true X cX0_seek RX0 7 (2 + (d + 1)) (45 + 26 * (d + 1))) {res : Int32 × SS} (R : RZ true X cX0_seek 7 res) {N : Nat} {self : Int32 → Int32 → SS → Option (Int32 × SS)} (hself : ∀ z1 z2 σ res, self z1 z2 σ = some res → MI true X.1.2.1 yX0_seek cX0_seek 7 (some .boolean) { frames := 2 + d, cells := 0, slots := 0, locals := 45 + 26 * d } X.2.2 [rf X.2.2 27, .int z1, .int z2] σ res) : ∀ (a1 : Int32) (a2 : Int32) (s0 : SS), fX0_seek_e N self a1 a2 s0 = some res → G true X 7 0 [(0, rf X.2.2 27), (1, .int a1), (2, .int a2)] [] s0 := by
  intro a1 a2 s0 h
  unfold fX0_seek_e at h
  refine g_iload_n F (j := 2) dX0_seek_0 rfl rfl ?_
  refine g_aload_n F (a := 27) (j := 0) dX0_seek_1 rfl rfl ?_
  refine gt_X0_9 F (k := 27) pc27 dX0_seek_2 (v := .int (s0 27 3)) rfl ?_
  refine g_icmp_lt F (tgt := 10) dX0_seek_5 (by decide) h (fun h => ?_) (fun h => ?_)
  · refine g_aload_n F (a := 27) (j := 0) dX0_seek_10 rfl rfl ?_
    refine gt_X0_28 F (k := 27) pc27 dX0_seek_11 (v := rf X.2.2 32) rfl ?_
    refine g_iload_n F (j := 1) dX0_seek_14 rfl rfl ?_
    refine g_zald F (k := 32) pc32 dX0_seek_15 h (fun h => ?_)
    refine g_ifeq F (tgt := 21) dX0_seek_16 (by decide) h (fun h => ?_) (fun h => ?_)
    · refine g_iconst F (v := 0) dX0_seek_21 (by decide) ?_
      refine g_istore_n F dX0_seek_22 rfl (by decide) (lv' := [(0, rf X.2.2 27), (1, .int a1), (2, .int a2), (3, .int 0)]) [1, 2, 3, 0] rfl ?_
      exact wX0_seek_23_lp F R hself N a1 a2 0 s0 h
    · refine g_iconst F (v := 0) dX0_seek_19 (by decide) ?_
      exact R _ _ _ _ dX0_seek_20 h
  · refine g_iconst F (v := 1) dX0_seek_8 (by decide) ?_
    exact R _ _ _ _ dX0_seek_9 h
theorem mX0_seek {l : Launch} {w : Wd} (N : Nat) : ∀ (d : Nat) (hi : inj true w) {res : Int32 × SS} {a1 a2 : Int32} {s0 : SS} (h : fX0_seek N d a1 a2 s0 = some res), MI true l yX0_seek cX0_seek 7 (some .boolean) { frames := 2 + d, cells := 0, slots := 0, locals := 45 + 26 * d } w [rf w 27, .int a1, .int a2] s0 res := by
  intro d
  induction d with
  | zero => intro hi res a1 a2 s0 h; cases (show (none : Option (Int32 × SS)) = some res from h)
  | succ d ih =>
    intro hi res a1 a2 s0 h
    refine mk_z (by decide) hi (Nat.le_of_ble_eq_true rfl) (fun X hX hL F R => ?_)
    subst hX; subst hL
    exact wX0_seek_e (d := d) F R (self := fX0_seek N d) (fun _ _ _ _ q => ih hi q) a1 a2 s0 h
set_option maxRecDepth 20000 in
theorem wX0_seekAnew_2 {X : Cx} (F : Fx true X cX0_seekAnew RX0 2 14 357) {res : Int32 × SS} (R : RZ true X cX0_seekAnew 2 res) {N : Nat} {k2 : Int32 → SS → Option (Int32 × SS)} (hk2 : ∀ (x1 : Int32) (σ : SS), k2 x1 σ = some res → G true X 2 2 [(0, rf X.2.2 27), (1, .int x1)] [] σ) : ∀ (x1 : Int32) (s0 : SS), fX0_seekAnew_2 N k2 x1 s0 = some res → G true X 2 2 [(0, rf X.2.2 27), (1, .int x1)] [] s0 := by
  intro x1 s0 h
  unfold fX0_seekAnew_2 at h
  refine g_iload_n F (j := 1) dX0_seekAnew_2 rfl rfl ?_
  refine g_iconst F (v := 1) dX0_seekAnew_3 (by decide) ?_
  refine g_aload_n F (a := 27) (j := 0) dX0_seekAnew_4 rfl rfl ?_
  refine gt_X0_9 F (k := 27) pc27 dX0_seekAnew_5 (v := .int (s0 27 3)) rfl ?_
  refine g_ishl F dX0_seekAnew_8 ?_
  refine g_icmp_ge F (tgt := 25) dX0_seekAnew_9 (by decide) h (fun h => ?_) (fun h => ?_)
  · refine g_aload_n F (a := 27) (j := 0) dX0_seekAnew_25 rfl rfl ?_
    refine g_iconst F (v := 0) dX0_seekAnew_26 (by decide) ?_
    refine g_iconst F (v := 0) dX0_seekAnew_27 (by decide) ?_
    refine g_vi F (k := 27) (As := [.int 0, .int 0]) (rest := []) (fun _ q => mX0_seek N 11 F.inj  q) mw_X0_seek ml_X0_95 rfl ⟨Nat.le_of_ble_eq_true rfl, Nat.le_of_ble_eq_true rfl⟩ pc27 cl0 rfl (Nat.le_of_ble_eq_true rfl) dX0_seekAnew_28 h (fun v1 s1 h => ?_)
    exact R _ _ _ _ dX0_seekAnew_31 h
  · refine g_aload_n F (a := 27) (j := 0) dX0_seekAnew_12 rfl rfl ?_
    refine gt_X0_28 F (k := 27) pc27 dX0_seekAnew_13 (v := rf X.2.2 32) rfl ?_
    refine g_iload_n F (j := 1) dX0_seekAnew_16 rfl rfl ?_
    refine g_iconst F (v := 0) dX0_seekAnew_17 (by decide) ?_
    refine g_zast F (k := 32) pc32 dX0_seekAnew_18 h (fun s2 h => ?_)
    refine g_iinc F (j := 1) (v := x1 + 1) dX0_seekAnew_19 rfl rfl (by decide) (lv' := [(0, rf X.2.2 27), (1, .int (x1 + 1))]) [1, 0] rfl ?_
    refine g_goto F (tgt := 2) dX0_seekAnew_22 (by decide) ?_
    exact hk2 (x1 + 1) s2 h
theorem wX0_seekAnew_2_lp {X : Cx} (F : Fx true X cX0_seekAnew RX0 2 14 357) {res : Int32 × SS} (R : RZ true X cX0_seekAnew 2 res) {N : Nat} : ∀ (n : Nat) (x1 : Int32) (s0 : SS), lp (fX0_seekAnew_2 N) (fun _ _ => none) n x1 s0 = some res → G true X 2 2 [(0, rf X.2.2 27), (1, .int x1)] [] s0 := by
  intro n
  induction n with
  | zero => intro x1 s0 h; cases (show (none : Option (Int32 × SS)) = some res from h)
  | succ n ih => intro x1 s0 h; exact wX0_seekAnew_2 F R ih x1 s0 h
set_option maxRecDepth 20000 in
theorem wX0_seekAnew_e {X : Cx} (F : Fx true X cX0_seekAnew RX0 2 14 357) {res : Int32 × SS} (R : RZ true X cX0_seekAnew 2 res) {N : Nat} : ∀  (s0 : SS), fX0_seekAnew N s0 = some res → G true X 2 0 [(0, rf X.2.2 27)] [] s0 := by
  intro  s0 h
  unfold fX0_seekAnew at h
  refine g_iconst F (v := 0) dX0_seekAnew_0 (by decide) ?_
  refine g_istore_n F dX0_seekAnew_1 rfl (by decide) (lv' := [(0, rf X.2.2 27), (1, .int 0)]) [1, 0] rfl ?_
  exact wX0_seekAnew_2_lp F R N 0 s0 h
theorem mX0_seekAnew {l : Launch} {w : Wd} (N : Nat) (hi : inj true w)  {res : Int32 × SS} {s0 : SS} (h : fX0_seekAnew N s0 = some res) : MI true l yX0_seekAnew cX0_seekAnew 2 (some .boolean) { frames := 14, cells := 0, slots := 0, locals := 357 } w [rf w 27] s0 res := by
  refine mk_z (by decide) hi (Nat.le_of_ble_eq_true rfl) (fun X hX hL F R => ?_)
  subst hX; subst hL
  exact wX0_seekAnew_e F R  s0 h
set_option maxRecDepth 20000 in
theorem wX0_findOrder_e {X : Cx} (F : Fx true X cX0_findOrder RX0 2 15 378) {res : Int32 × SS} (R : RZ true X cX0_findOrder 2 res) {N : Nat} {q : Nat} (hq : IsI true X.2.2 q 8) : ∀  (s0 : SS), fX0_findOrder N q s0 = some res → G true X 2 0 [(0, rf X.2.2 27), (1, rf X.2.2 q)] [] s0 := by
  intro  s0 h
  unfold fX0_findOrder at h
  refine g_aload_n F (a := 27) (j := 0) dX0_findOrder_0 rfl rfl ?_
  refine g_aload_n F (a := q) (j := 1) dX0_findOrder_1 rfl rfl ?_
  refine g_iconst F (v := (-1)) dX0_findOrder_2 (by decide) ?_
  refine g_vv F (k := 27) (As := [rf X.2.2 q, .int (-1)]) (rest := []) (fun _ q => mX0_gather N F.inj hq q) mw_X0_gather ml_X0_48 rfl ⟨Nat.le_of_ble_eq_true rfl, Nat.le_of_ble_eq_true rfl⟩ pc27 cl0 rfl (Nat.le_of_ble_eq_true rfl) dX0_findOrder_3 h (fun s1 h => ?_)
  refine g_aload_n F (a := 27) (j := 0) dX0_findOrder_6 rfl rfl ?_
  refine g_vi F (k := 27) (As := []) (rest := []) (fun _ q => mX0_seekAnew N F.inj  q) mw_X0_seekAnew ml_X0_52 rfl ⟨Nat.le_of_ble_eq_true rfl, Nat.le_of_ble_eq_true rfl⟩ pc27 cl0 rfl (Nat.le_of_ble_eq_true rfl) dX0_findOrder_7 h (fun v2 s2 h => ?_)
  exact R _ _ _ _ dX0_findOrder_10 h
theorem mX0_findOrder {l : Launch} {w : Wd} (N : Nat) (hi : inj true w) {q : Nat} (hq : IsI true w q 8) {res : Int32 × SS} {s0 : SS} (h : fX0_findOrder N q s0 = some res) : MI true l yX0_findOrder cX0_findOrder 2 (some .boolean) { frames := 15, cells := 0, slots := 0, locals := 378 } w [rf w 27, rf w q] s0 res := by
  refine mk_z (by decide) hi (Nat.le_of_ble_eq_true rfl) (fun X hX hL F R => ?_)
  subst hX; subst hL
  exact wX0_findOrder_e F R hq s0 h
set_option maxRecDepth 20000 in
theorem wX5_order_29 {X : Cx} (F : Fx true X cX5_order RX5 1 16 399) {res : Int32 × SS} (R : RI true X cX5_order 1 res) {N : Nat} : ∀ (t0 : Int32) (s0 : SS), fX5_order_29 N t0 s0 = some res → G true X 1 29 [] [.int t0] s0 := by
  intro t0 s0 h
  unfold fX5_order_29 at h
  exact R _ _ _ _ dX5_order_29 h
set_option maxRecDepth 20000 in
theorem wX5_order_e {X : Cx} (F : Fx true X cX5_order RX5 1 16 399) {res : Int32 × SS} (R : RI true X cX5_order 1 res) {N : Nat} : ∀  (s0 : SS), fX5_order N s0 = some res → G true X 1 0 [(0, rf X.2.2 0)] [] s0 := by
  intro  s0 h
  unfold fX5_order at h
  refine g_aload_n F (a := 0) (j := 0) dX5_order_0 rfl rfl ?_
  refine gt_X5_54 F (k := 0) pc0 dX5_order_1 (v := .int (s0 0 6)) rfl ?_
  refine g_ifne F (tgt := 10) dX5_order_4 (by decide) h (fun h => ?_) (fun h => ?_)
  · refine g_bipush F (v := (-3)) dX5_order_7 (by decide) ?_
    exact R _ _ _ _ dX5_order_9 h
  · refine g_aload_n F (a := 0) (j := 0) dX5_order_10 rfl rfl ?_
    refine gt_X5_37 F (k := 0) pc0 dX5_order_11 (v := rf X.2.2 27) rfl ?_
    refine g_aload_n F (a := 0) (j := 0) dX5_order_14 rfl rfl ?_
    refine gt_X5_50 F (k := 0) pc0 dX5_order_15 (v := rf X.2.2 40) rfl ?_
    refine g_vi F (k := 27) (As := [rf X.2.2 40]) (rest := []) (fun _ q => mX0_findOrder N F.inj pc40 q) mw_X0_findOrder ml_X5_180 rfl ⟨Nat.le_of_ble_eq_true rfl, Nat.le_of_ble_eq_true rfl⟩ pc27 cl0 rfl (Nat.le_of_ble_eq_true rfl) dX5_order_18 h (fun v1 s1 h => ?_)
    refine g_ifeq F (tgt := 28) dX5_order_21 (by decide) h (fun h => ?_) (fun h => ?_)
    · refine g_iconst F (v := 0) dX5_order_28 (by decide) ?_
      refine g_sub (lv' := []) [] rfl ?_
      exact wX5_order_29 F R 0 s1 h
    · refine g_iconst F (v := 1) dX5_order_24 (by decide) ?_
      refine g_goto F (tgt := 29) dX5_order_25 (by decide) ?_
      refine g_sub (lv' := []) [] rfl ?_
      exact wX5_order_29 F R 1 s1 h
theorem mX5_order {l : Launch} {w : Wd} (N : Nat) (hi : inj true w)  {res : Int32 × SS} {s0 : SS} (h : fX5_order N s0 = some res) : MI true l yX5_order cX5_order 1 (some .int) { frames := 16, cells := 0, slots := 0, locals := 399 } w [rf w 0] s0 res := by
  refine mk_i (by decide) hi (Nat.le_of_ble_eq_true rfl) (fun X hX hL F R => ?_)
  subst hX; subst hL
  exact wX5_order_e F R  s0 h
set_option maxRecDepth 20000 in
theorem wX6_listMoves_58 {X : Cx} (F : Fx false X cX6_listMoves RX6 2 3 66) {res : SS} (R : RV false X cX6_listMoves 2 res) {N : Nat} {k7 : Int32 → SS → Option (SS)} (hk7 : ∀ (x1 : Int32) (σ : SS), k7 x1 σ = some res → G false X 2 7 [(0, rf X.2.2 0), (1, .int x1)] [] σ) : ∀ (x1 : Int32) (s0 : SS), fX6_listMoves_58 N k7 x1 s0 = some res → G false X 2 58 [(0, rf X.2.2 0), (1, .int x1)] [] s0 := by
  intro x1 s0 h
  unfold fX6_listMoves_58 at h
  refine g_iinc F (j := 1) (v := x1 + 1) dX6_listMoves_58 rfl rfl (by decide) (lv' := [(0, rf X.2.2 0), (1, .int (x1 + 1))]) [1, 0] rfl ?_
  refine g_goto F (tgt := 7) dX6_listMoves_61 (by decide) ?_
  exact hk7 (x1 + 1) s0 h
set_option maxRecDepth 20000 in
theorem wX6_listMoves_7 {X : Cx} (F : Fx false X cX6_listMoves RX6 2 3 66) {res : SS} (R : RV false X cX6_listMoves 2 res) {N : Nat} {k7 : Int32 → SS → Option (SS)} (hk7 : ∀ (x1 : Int32) (σ : SS), k7 x1 σ = some res → G false X 2 7 [(0, rf X.2.2 0), (1, .int x1)] [] σ) : ∀ (x1 : Int32) (s0 : SS), fX6_listMoves_7 N k7 x1 s0 = some res → G false X 2 7 [(0, rf X.2.2 0), (1, .int x1)] [] s0 := by
  intro x1 s0 h
  unfold fX6_listMoves_7 at h
  refine g_iload_n F (j := 1) dX6_listMoves_7 rfl rfl ?_
  refine g_aload_n F (a := 0) (j := 0) dX6_listMoves_8 rfl rfl ?_
  refine gt_X6_67 F (k := 0) pm0 dX6_listMoves_9 (v := .int (s0 0 3)) rfl ?_
  refine g_icmp_ge F (tgt := 64) dX6_listMoves_12 (by decide) h (fun h => ?_) (fun h => ?_)
  · exact R _ _ _ dX6_listMoves_64 h
  · refine g_aload_n F (a := 0) (j := 0) dX6_listMoves_15 rfl rfl ?_
    refine g_iload_n F (j := 1) dX6_listMoves_16 rfl rfl ?_
    refine g_vi F (k := 0) (As := [.int x1]) (rest := []) (fun _ q => mX6_isBlock N F.inj  q) mw_X6_isBlock ml_X6_129 rfl ⟨Nat.le_of_ble_eq_true rfl, Nat.le_of_ble_eq_true rfl⟩ pm0 cl6 rfl (Nat.le_of_ble_eq_true rfl) dX6_listMoves_17 h (fun v1 s1 h => ?_)
    refine g_ifeq F (tgt := 58) dX6_listMoves_20 (by decide) h (fun h => ?_) (fun h => ?_)
    · exact wX6_listMoves_58 F R hk7 x1 s1 h
    · refine g_aload_n F (a := 0) (j := 0) dX6_listMoves_23 rfl rfl ?_
      refine gt_X6_45 F (k := 0) pm0 dX6_listMoves_24 (v := rf X.2.2 11) rfl ?_
      refine g_iload_n F (j := 1) dX6_listMoves_27 rfl rfl ?_
      refine g_iald F (k := 11) pm11 dX6_listMoves_28 h (fun h => ?_)
      refine g_aload_n F (a := 0) (j := 0) dX6_listMoves_29 rfl rfl ?_
      refine gt_X6_28 F (k := 0) pm0 dX6_listMoves_30 (v := rf X.2.2 7) rfl ?_
      refine g_iload_n F (j := 1) dX6_listMoves_33 rfl rfl ?_
      refine g_iald F (k := 7) pm7 dX6_listMoves_34 h (fun h => ?_)
      refine g_icmp_eq F (tgt := 58) dX6_listMoves_35 (by decide) h (fun h => ?_) (fun h => ?_)
      · exact wX6_listMoves_58 F R hk7 x1 s1 h
      · refine g_aload_n F (a := 0) (j := 0) dX6_listMoves_38 rfl rfl ?_
        refine gt_X6_48 F (k := 0) pm0 dX6_listMoves_39 (v := rf X.2.2 12) rfl ?_
        refine g_aload_n F (a := 0) (j := 0) dX6_listMoves_42 rfl rfl ?_
        refine gt_X6_164 F (k := 0) pm0 dX6_listMoves_43 (v := .int (s1 0 23)) rfl ?_
        refine g_iload_n F (j := 1) dX6_listMoves_46 rfl rfl ?_
        refine g_iast F (k := 12) pm12 dX6_listMoves_47 h (fun s2 h => ?_)
        refine g_aload_n F (a := 0) (j := 0) dX6_listMoves_48 rfl rfl ?_
        refine g_dupr F dX6_listMoves_49 ?_
        refine gt_X6_164 F (k := 0) pm0 dX6_listMoves_50 (v := .int (s2 0 23)) rfl ?_
        refine g_iconst F (v := 1) dX6_listMoves_53 (by decide) ?_
        refine g_iadd F dX6_listMoves_54 ?_
        refine pt_X6_164 F (k := 0) pm0 (Nat.le_of_ble_eq_true rfl) rfl dX6_listMoves_55 h (fun s3 h => ?_)
        exact wX6_listMoves_58 F R hk7 x1 s3 h
theorem wX6_listMoves_7_lp {X : Cx} (F : Fx false X cX6_listMoves RX6 2 3 66) {res : SS} (R : RV false X cX6_listMoves 2 res) {N : Nat} : ∀ (n : Nat) (x1 : Int32) (s0 : SS), lp (fX6_listMoves_7 N) (fun _ _ => none) n x1 s0 = some res → G false X 2 7 [(0, rf X.2.2 0), (1, .int x1)] [] s0 := by
  intro n
  induction n with
  | zero => intro x1 s0 h; cases (show (none : Option (SS)) = some res from h)
  | succ n ih => intro x1 s0 h; exact wX6_listMoves_7 F R ih x1 s0 h
set_option maxRecDepth 20000 in
theorem wX6_listMoves_e {X : Cx} (F : Fx false X cX6_listMoves RX6 2 3 66) {res : SS} (R : RV false X cX6_listMoves 2 res) {N : Nat} : ∀  (s0 : SS), fX6_listMoves N s0 = some res → G false X 2 0 [(0, rf X.2.2 0)] [] s0 := by
  intro  s0 h
  unfold fX6_listMoves at h
  refine g_aload_n F (a := 0) (j := 0) dX6_listMoves_0 rfl rfl ?_
  refine g_iconst F (v := 0) dX6_listMoves_1 (by decide) ?_
  refine pt_X6_164 F (k := 0) pm0 (Nat.le_of_ble_eq_true rfl) rfl dX6_listMoves_2 h (fun s1 h => ?_)
  refine g_iconst F (v := 0) dX6_listMoves_5 (by decide) ?_
  refine g_istore_n F dX6_listMoves_6 rfl (by decide) (lv' := [(0, rf X.2.2 0), (1, .int 0)]) [1, 0] rfl ?_
  exact wX6_listMoves_7_lp F R N 0 s1 h
theorem mX6_listMoves {l : Launch} {w : Wd} (N : Nat) (hi : inj false w)  {res : SS} {s0 : SS} (h : fX6_listMoves N s0 = some res) : MV false l yX6_listMoves cX6_listMoves 2 none { frames := 3, cells := 0, slots := 0, locals := 66 } w [rf w 0] s0 res := by
  refine mk_v (by decide) hi (Nat.le_of_ble_eq_true rfl) (fun X hX hL F R => ?_)
  subst hX; subst hL
  exact wX6_listMoves_e F R  s0 h
set_option maxRecDepth 20000 in
theorem wX6_canAll_168 {X : Cx} (F : Fx false X cX6_canAll RX6 6 4 95) {res : Int32 × SS} (R : RZ false X cX6_canAll 6 res) {N : Nat} {k11 : Int32 → Int32 → Int32 → SS → Option (Int32 × SS)} {k34 : Int32 → Int32 → Int32 → Int32 → SS → Option (Int32 × SS)} (hk11 : ∀ (x1 : Int32) (x2 : Int32) (x3 : Int32) (σ : SS), k11 x1 x2 x3 σ = some res → G false X 6 11 [(0, rf X.2.2 0), (1, .int x1), (2, .int x2), (3, .int x3)] [] σ) (hk34 : ∀ (x1 : Int32) (x2 : Int32) (x3 : Int32) (x4 : Int32) (σ : SS), k34 x1 x2 x3 x4 σ = some res → G false X 6 34 [(0, rf X.2.2 0), (1, .int x1), (2, .int x2), (3, .int x3), (4, .int x4)] [] σ) : ∀ (x1 : Int32) (x2 : Int32) (x3 : Int32) (x4 : Int32) (s0 : SS), fX6_canAll_168 N k11 k34 x1 x2 x3 x4 s0 = some res → G false X 6 168 [(0, rf X.2.2 0), (1, .int x1), (2, .int x2), (3, .int x3), (4, .int x4)] [] s0 := by
  intro x1 x2 x3 x4 s0 h
  unfold fX6_canAll_168 at h
  refine g_iinc F (j := 4) (v := x4 + 1) dX6_canAll_168 rfl rfl (by decide) (lv' := [(0, rf X.2.2 0), (1, .int x1), (2, .int x2), (3, .int x3), (4, .int (x4 + 1))]) [1, 2, 3, 4, 0] rfl ?_
  refine g_goto F (tgt := 34) dX6_canAll_171 (by decide) ?_
  exact hk34 x1 x2 x3 (x4 + 1) s0 h
set_option maxRecDepth 20000 in
theorem wX6_canAll_167 {X : Cx} (F : Fx false X cX6_canAll RX6 6 4 95) {res : Int32 × SS} (R : RZ false X cX6_canAll 6 res) {N : Nat} {k11 : Int32 → Int32 → Int32 → SS → Option (Int32 × SS)} {k34 : Int32 → Int32 → Int32 → Int32 → SS → Option (Int32 × SS)} (hk11 : ∀ (x1 : Int32) (x2 : Int32) (x3 : Int32) (σ : SS), k11 x1 x2 x3 σ = some res → G false X 6 11 [(0, rf X.2.2 0), (1, .int x1), (2, .int x2), (3, .int x3)] [] σ) (hk34 : ∀ (x1 : Int32) (x2 : Int32) (x3 : Int32) (x4 : Int32) (σ : SS), k34 x1 x2 x3 x4 σ = some res → G false X 6 34 [(0, rf X.2.2 0), (1, .int x1), (2, .int x2), (3, .int x3), (4, .int x4)] [] σ) : ∀ (x1 : Int32) (x2 : Int32) (x3 : Int32) (x4 : Int32) (t0 : Int32) (t1 : Int32) (s0 : SS), fX6_canAll_167 N k11 k34 x1 x2 x3 x4 t0 t1 s0 = some res → G false X 6 167 [(0, rf X.2.2 0), (1, .int x1), (2, .int x2), (3, .int x3), (4, .int x4)] [.int t0, .int t1, rf X.2.2 14] s0 := by
  intro x1 x2 x3 x4 t0 t1 s0 h
  unfold fX6_canAll_167 at h
  refine g_zast F (k := 14) pm14 dX6_canAll_167 h (fun s1 h => ?_)
  exact wX6_canAll_168 F R hk11 hk34 x1 x2 x3 x4 s1 h
set_option maxRecDepth 20000 in
theorem wX6_canAll_166 {X : Cx} (F : Fx false X cX6_canAll RX6 6 4 95) {res : Int32 × SS} (R : RZ false X cX6_canAll 6 res) {N : Nat} {k11 : Int32 → Int32 → Int32 → SS → Option (Int32 × SS)} {k34 : Int32 → Int32 → Int32 → Int32 → SS → Option (Int32 × SS)} (hk11 : ∀ (x1 : Int32) (x2 : Int32) (x3 : Int32) (σ : SS), k11 x1 x2 x3 σ = some res → G false X 6 11 [(0, rf X.2.2 0), (1, .int x1), (2, .int x2), (3, .int x3)] [] σ) (hk34 : ∀ (x1 : Int32) (x2 : Int32) (x3 : Int32) (x4 : Int32) (σ : SS), k34 x1 x2 x3 x4 σ = some res → G false X 6 34 [(0, rf X.2.2 0), (1, .int x1), (2, .int x2), (3, .int x3), (4, .int x4)] [] σ) : ∀ (x1 : Int32) (x2 : Int32) (x3 : Int32) (x4 : Int32) (t0 : Int32) (s0 : SS), fX6_canAll_166 N k11 k34 x1 x2 x3 x4 t0 s0 = some res → G false X 6 166 [(0, rf X.2.2 0), (1, .int x1), (2, .int x2), (3, .int x3), (4, .int x4)] [.int t0, rf X.2.2 14] s0 := by
  intro x1 x2 x3 x4 t0 s0 h
  unfold fX6_canAll_166 at h
  refine g_iconst F (v := 0) dX6_canAll_166 (by decide) ?_
  exact wX6_canAll_167 F R hk11 hk34 x1 x2 x3 x4 0 t0 s0 h
set_option maxRecDepth 20000 in
theorem wX6_canAll_108 {X : Cx} (F : Fx false X cX6_canAll RX6 6 4 95) {res : Int32 × SS} (R : RZ false X cX6_canAll 6 res) {N : Nat} {k11 : Int32 → Int32 → Int32 → SS → Option (Int32 × SS)} {k34 : Int32 → Int32 → Int32 → Int32 → SS → Option (Int32 × SS)} (hk11 : ∀ (x1 : Int32) (x2 : Int32) (x3 : Int32) (σ : SS), k11 x1 x2 x3 σ = some res → G false X 6 11 [(0, rf X.2.2 0), (1, .int x1), (2, .int x2), (3, .int x3)] [] σ) (hk34 : ∀ (x1 : Int32) (x2 : Int32) (x3 : Int32) (x4 : Int32) (σ : SS), k34 x1 x2 x3 x4 σ = some res → G false X 6 34 [(0, rf X.2.2 0), (1, .int x1), (2, .int x2), (3, .int x3), (4, .int x4)] [] σ) : ∀ (x1 : Int32) (x2 : Int32) (x3 : Int32) (x4 : Int32) (x5 : Int32) (t0 : Int32) (t1 : Int32) (s0 : SS), fX6_canAll_108 N k11 k34 x1 x2 x3 x4 x5 t0 t1 s0 = some res → G false X 6 108 [(0, rf X.2.2 0), (1, .int x1), (2, .int x2), (3, .int x3), (4, .int x4), (5, .int x5)] [.int t0, .int t1, rf X.2.2 0] s0 := by
  intro x1 x2 x3 x4 x5 t0 t1 s0 h
  unfold fX6_canAll_108 at h
  refine g_iconst F (v := (-1)) dX6_canAll_108 (by decide) ?_
  refine g_vv F (k := 0) (As := [.int t1, .int t0, .int (-1)]) (rest := []) (fun _ q => mX6_place N F.inj  q) mw_X6_place ml_X6_167 rfl ⟨Nat.le_of_ble_eq_true rfl, Nat.le_of_ble_eq_true rfl⟩ pm0 cl6 rfl (Nat.le_of_ble_eq_true rfl) dX6_canAll_109 h (fun s1 h => ?_)
  refine g_aload_n F (a := 0) (j := 0) dX6_canAll_112 rfl rfl ?_
  refine gt_X6_54 F (k := 0) pm0 dX6_canAll_113 (v := rf X.2.2 14) rfl ?_
  refine g_iload_n F (j := 3) dX6_canAll_116 rfl rfl ?_
  refine g_iload F (j := 5) dX6_canAll_117 rfl ?_
  refine g_ifne F (tgt := 166) dX6_canAll_119 (by decide) h (fun h => ?_) (fun h => ?_)
  · refine g_aload_n F (a := 0) (j := 0) dX6_canAll_122 rfl rfl ?_
    refine gt_X6_54 F (k := 0) pm0 dX6_canAll_123 (v := rf X.2.2 14) rfl ?_
    refine g_iload_n F (j := 3) dX6_canAll_126 rfl rfl ?_
    refine g_iconst F (v := 1) dX6_canAll_127 (by decide) ?_
    refine g_iload F (j := 4) dX6_canAll_128 rfl ?_
    refine g_ishl F dX6_canAll_130 ?_
    refine g_ior F dX6_canAll_131 ?_
    refine g_zald F (k := 14) pm14 dX6_canAll_132 h (fun h => ?_)
    refine g_ifeq F (tgt := 166) dX6_canAll_133 (by decide) h (fun h => ?_) (fun h => ?_)
    · refine g_sub (lv' := [(0, rf X.2.2 0), (1, .int x1), (2, .int x2), (3, .int x3), (4, .int x4)]) [0, 1, 2, 3, 4] rfl ?_
      exact wX6_canAll_166 F R hk11 hk34 x1 x2 x3 x4 x3 s1 h
    · refine g_aload_n F (a := 0) (j := 0) dX6_canAll_136 rfl rfl ?_
      refine g_aload_n F (a := 0) (j := 0) dX6_canAll_137 rfl rfl ?_
      refine gt_X6_48 F (k := 0) pm0 dX6_canAll_138 (v := rf X.2.2 12) rfl ?_
      refine g_iload F (j := 4) dX6_canAll_141 rfl ?_
      refine g_iald F (k := 12) pm12 dX6_canAll_143 h (fun h => ?_)
      refine g_aload_n F (a := 0) (j := 0) dX6_canAll_144 rfl rfl ?_
      refine gt_X6_45 F (k := 0) pm0 dX6_canAll_145 (v := rf X.2.2 11) rfl ?_
      refine g_aload_n F (a := 0) (j := 0) dX6_canAll_148 rfl rfl ?_
      refine gt_X6_48 F (k := 0) pm0 dX6_canAll_149 (v := rf X.2.2 12) rfl ?_
      refine g_iload F (j := 4) dX6_canAll_152 rfl ?_
      refine g_iald F (k := 12) pm12 dX6_canAll_154 h (fun h => ?_)
      refine g_iald F (k := 11) pm11 dX6_canAll_155 h (fun h => ?_)
      refine g_vi F (k := 0) (As := [.int (s1 12 (Int32.toNatClampNeg x4)), .int (s1 11 (Int32.toNatClampNeg (s1 12 (Int32.toNatClampNeg x4))))]) (rest := [.int x3, rf X.2.2 14]) (fun _ q => mX6_comes N F.inj  q) mw_X6_comes ml_X6_171 rfl ⟨Nat.le_of_ble_eq_true rfl, Nat.le_of_ble_eq_true rfl⟩ pm0 cl6 rfl (Nat.le_of_ble_eq_true rfl) dX6_canAll_156 h (fun v2 s2 h => ?_)
      refine g_ifeq F (tgt := 166) dX6_canAll_159 (by decide) h (fun h => ?_) (fun h => ?_)
      · refine g_sub (lv' := [(0, rf X.2.2 0), (1, .int x1), (2, .int x2), (3, .int x3), (4, .int x4)]) [0, 1, 2, 3, 4] rfl ?_
        exact wX6_canAll_166 F R hk11 hk34 x1 x2 x3 x4 x3 s2 h
      · refine g_iconst F (v := 1) dX6_canAll_162 (by decide) ?_
        refine g_goto F (tgt := 167) dX6_canAll_163 (by decide) ?_
        refine g_sub (lv' := [(0, rf X.2.2 0), (1, .int x1), (2, .int x2), (3, .int x3), (4, .int x4)]) [0, 1, 2, 3, 4] rfl ?_
        exact wX6_canAll_167 F R hk11 hk34 x1 x2 x3 x4 1 x3 s2 h
  · refine g_sub (lv' := [(0, rf X.2.2 0), (1, .int x1), (2, .int x2), (3, .int x3), (4, .int x4)]) [0, 1, 2, 3, 4] rfl ?_
    exact wX6_canAll_166 F R hk11 hk34 x1 x2 x3 x4 x3 s1 h
set_option maxRecDepth 20000 in
theorem wX6_canAll_107 {X : Cx} (F : Fx false X cX6_canAll RX6 6 4 95) {res : Int32 × SS} (R : RZ false X cX6_canAll 6 res) {N : Nat} {k11 : Int32 → Int32 → Int32 → SS → Option (Int32 × SS)} {k34 : Int32 → Int32 → Int32 → Int32 → SS → Option (Int32 × SS)} (hk11 : ∀ (x1 : Int32) (x2 : Int32) (x3 : Int32) (σ : SS), k11 x1 x2 x3 σ = some res → G false X 6 11 [(0, rf X.2.2 0), (1, .int x1), (2, .int x2), (3, .int x3)] [] σ) (hk34 : ∀ (x1 : Int32) (x2 : Int32) (x3 : Int32) (x4 : Int32) (σ : SS), k34 x1 x2 x3 x4 σ = some res → G false X 6 34 [(0, rf X.2.2 0), (1, .int x1), (2, .int x2), (3, .int x3), (4, .int x4)] [] σ) : ∀ (x1 : Int32) (x2 : Int32) (x3 : Int32) (x4 : Int32) (x5 : Int32) (t0 : Int32) (s0 : SS), fX6_canAll_107 N k11 k34 x1 x2 x3 x4 x5 t0 s0 = some res → G false X 6 107 [(0, rf X.2.2 0), (1, .int x1), (2, .int x2), (3, .int x3), (4, .int x4), (5, .int x5)] [.int t0, rf X.2.2 0] s0 := by
  intro x1 x2 x3 x4 x5 t0 s0 h
  unfold fX6_canAll_107 at h
  refine g_iconst F (v := (-1)) dX6_canAll_107 (by decide) ?_
  exact wX6_canAll_108 F R hk11 hk34 x1 x2 x3 x4 x5 (-1) t0 s0 h
set_option maxRecDepth 20000 in
theorem wX6_canAll_82 {X : Cx} (F : Fx false X cX6_canAll RX6 6 4 95) {res : Int32 × SS} (R : RZ false X cX6_canAll 6 res) {N : Nat} {k11 : Int32 → Int32 → Int32 → SS → Option (Int32 × SS)} {k34 : Int32 → Int32 → Int32 → Int32 → SS → Option (Int32 × SS)} (hk11 : ∀ (x1 : Int32) (x2 : Int32) (x3 : Int32) (σ : SS), k11 x1 x2 x3 σ = some res → G false X 6 11 [(0, rf X.2.2 0), (1, .int x1), (2, .int x2), (3, .int x3)] [] σ) (hk34 : ∀ (x1 : Int32) (x2 : Int32) (x3 : Int32) (x4 : Int32) (σ : SS), k34 x1 x2 x3 x4 σ = some res → G false X 6 34 [(0, rf X.2.2 0), (1, .int x1), (2, .int x2), (3, .int x3), (4, .int x4)] [] σ) : ∀ (x1 : Int32) (x2 : Int32) (x3 : Int32) (x4 : Int32) (t0 : Int32) (s0 : SS), fX6_canAll_82 N k11 k34 x1 x2 x3 x4 t0 s0 = some res → G false X 6 82 [(0, rf X.2.2 0), (1, .int x1), (2, .int x2), (3, .int x3), (4, .int x4)] [.int t0] s0 := by
  intro x1 x2 x3 x4 t0 s0 h
  unfold fX6_canAll_82 at h
  refine g_istore F dX6_canAll_82 (by decide) (lv' := [(0, rf X.2.2 0), (1, .int x1), (2, .int x2), (3, .int x3), (4, .int x4), (5, .int t0)]) [1, 2, 3, 4, 5, 0] rfl ?_
  refine g_aload_n F (a := 0) (j := 0) dX6_canAll_84 rfl rfl ?_
  refine g_iload_n F (j := 3) dX6_canAll_85 rfl rfl ?_
  refine g_iload_n F (j := 1) dX6_canAll_86 rfl rfl ?_
  refine g_iflt F (tgt := 107) dX6_canAll_87 (by decide) h (fun h => ?_) (fun h => ?_)
  · exact wX6_canAll_107 F R hk11 hk34 x1 x2 x3 x4 t0 x3 s0 h
  · refine g_iload_n F (j := 3) dX6_canAll_90 rfl rfl ?_
    refine g_iload_n F (j := 1) dX6_canAll_91 rfl rfl ?_
    refine g_ishr F dX6_canAll_92 ?_
    refine g_iconst F (v := 1) dX6_canAll_93 (by decide) ?_
    refine g_iand F dX6_canAll_94 ?_
    refine g_ifne F (tgt := 107) dX6_canAll_95 (by decide) h (fun h => ?_) (fun h => ?_)
    · refine g_aload_n F (a := 0) (j := 0) dX6_canAll_98 rfl rfl ?_
      refine gt_X6_48 F (k := 0) pm0 dX6_canAll_99 (v := rf X.2.2 12) rfl ?_
      refine g_iload_n F (j := 1) dX6_canAll_102 rfl rfl ?_
      refine g_iald F (k := 12) pm12 dX6_canAll_103 h (fun h => ?_)
      refine g_goto F (tgt := 108) dX6_canAll_104 (by decide) ?_
      exact wX6_canAll_108 F R hk11 hk34 x1 x2 x3 x4 t0 (s0 12 (Int32.toNatClampNeg x1)) x3 s0 h
    · exact wX6_canAll_107 F R hk11 hk34 x1 x2 x3 x4 t0 x3 s0 h
set_option maxRecDepth 20000 in
theorem wX6_canAll_81 {X : Cx} (F : Fx false X cX6_canAll RX6 6 4 95) {res : Int32 × SS} (R : RZ false X cX6_canAll 6 res) {N : Nat} {k11 : Int32 → Int32 → Int32 → SS → Option (Int32 × SS)} {k34 : Int32 → Int32 → Int32 → Int32 → SS → Option (Int32 × SS)} (hk11 : ∀ (x1 : Int32) (x2 : Int32) (x3 : Int32) (σ : SS), k11 x1 x2 x3 σ = some res → G false X 6 11 [(0, rf X.2.2 0), (1, .int x1), (2, .int x2), (3, .int x3)] [] σ) (hk34 : ∀ (x1 : Int32) (x2 : Int32) (x3 : Int32) (x4 : Int32) (σ : SS), k34 x1 x2 x3 x4 σ = some res → G false X 6 34 [(0, rf X.2.2 0), (1, .int x1), (2, .int x2), (3, .int x3), (4, .int x4)] [] σ) : ∀ (x1 : Int32) (x2 : Int32) (x3 : Int32) (x4 : Int32) (s0 : SS), fX6_canAll_81 N k11 k34 x1 x2 x3 x4 s0 = some res → G false X 6 81 [(0, rf X.2.2 0), (1, .int x1), (2, .int x2), (3, .int x3), (4, .int x4)] [] s0 := by
  intro x1 x2 x3 x4 s0 h
  unfold fX6_canAll_81 at h
  refine g_iconst F (v := 0) dX6_canAll_81 (by decide) ?_
  exact wX6_canAll_82 F R hk11 hk34 x1 x2 x3 x4 0 s0 h
set_option maxRecDepth 20000 in
theorem wX6_canAll_174 {X : Cx} (F : Fx false X cX6_canAll RX6 6 4 95) {res : Int32 × SS} (R : RZ false X cX6_canAll 6 res) {N : Nat} {k11 : Int32 → Int32 → Int32 → SS → Option (Int32 × SS)} (hk11 : ∀ (x1 : Int32) (x2 : Int32) (x3 : Int32) (σ : SS), k11 x1 x2 x3 σ = some res → G false X 6 11 [(0, rf X.2.2 0), (1, .int x1), (2, .int x2), (3, .int x3)] [] σ) : ∀ (x1 : Int32) (x2 : Int32) (x3 : Int32) (s0 : SS), fX6_canAll_174 N k11 x1 x2 x3 s0 = some res → G false X 6 174 [(0, rf X.2.2 0), (1, .int x1), (2, .int x2), (3, .int x3)] [] s0 := by
  intro x1 x2 x3 s0 h
  unfold fX6_canAll_174 at h
  refine g_iinc F (j := 3) (v := x3 + (-1)) dX6_canAll_174 rfl rfl (by decide) (lv' := [(0, rf X.2.2 0), (1, .int x1), (2, .int x2), (3, .int (x3 + (-1)))]) [1, 2, 3, 0] rfl ?_
  refine g_goto F (tgt := 11) dX6_canAll_177 (by decide) ?_
  exact hk11 x1 x2 (x3 + (-1)) s0 h
set_option maxRecDepth 20000 in
theorem wX6_canAll_34 {X : Cx} (F : Fx false X cX6_canAll RX6 6 4 95) {res : Int32 × SS} (R : RZ false X cX6_canAll 6 res) {N : Nat} {k11 : Int32 → Int32 → Int32 → SS → Option (Int32 × SS)} {k34 : Int32 → Int32 → Int32 → Int32 → SS → Option (Int32 × SS)} (hk11 : ∀ (x1 : Int32) (x2 : Int32) (x3 : Int32) (σ : SS), k11 x1 x2 x3 σ = some res → G false X 6 11 [(0, rf X.2.2 0), (1, .int x1), (2, .int x2), (3, .int x3)] [] σ) (hk34 : ∀ (x1 : Int32) (x2 : Int32) (x3 : Int32) (x4 : Int32) (σ : SS), k34 x1 x2 x3 x4 σ = some res → G false X 6 34 [(0, rf X.2.2 0), (1, .int x1), (2, .int x2), (3, .int x3), (4, .int x4)] [] σ) : ∀ (x1 : Int32) (x2 : Int32) (x3 : Int32) (x4 : Int32) (s0 : SS), fX6_canAll_34 N k11 k34 x1 x2 x3 x4 s0 = some res → G false X 6 34 [(0, rf X.2.2 0), (1, .int x1), (2, .int x2), (3, .int x3), (4, .int x4)] [] s0 := by
  intro x1 x2 x3 x4 s0 h
  unfold fX6_canAll_34 at h
  refine g_iload F (j := 4) dX6_canAll_34 rfl ?_
  refine g_aload_n F (a := 0) (j := 0) dX6_canAll_36 rfl rfl ?_
  refine gt_X6_164 F (k := 0) pm0 dX6_canAll_37 (v := .int (s0 0 23)) rfl ?_
  refine g_icmp_ge F (tgt := 174) dX6_canAll_40 (by decide) h (fun h => ?_) (fun h => ?_)
  · refine g_sub (lv' := [(0, rf X.2.2 0), (1, .int x1), (2, .int x2), (3, .int x3)]) [0, 1, 2, 3] rfl ?_
    exact wX6_canAll_174 F R hk11 x1 x2 x3 s0 h
  · refine g_aload_n F (a := 0) (j := 0) dX6_canAll_43 rfl rfl ?_
    refine gt_X6_54 F (k := 0) pm0 dX6_canAll_44 (v := rf X.2.2 14) rfl ?_
    refine g_iload_n F (j := 3) dX6_canAll_47 rfl rfl ?_
    refine g_zald F (k := 14) pm14 dX6_canAll_48 h (fun h => ?_)
    refine g_ifne F (tgt := 174) dX6_canAll_49 (by decide) h (fun h => ?_) (fun h => ?_)
    · refine g_iload_n F (j := 3) dX6_canAll_52 rfl rfl ?_
      refine g_iload F (j := 4) dX6_canAll_53 rfl ?_
      refine g_ishr F dX6_canAll_55 ?_
      refine g_iconst F (v := 1) dX6_canAll_56 (by decide) ?_
      refine g_iand F dX6_canAll_57 ?_
      refine g_ifne F (tgt := 168) dX6_canAll_58 (by decide) h (fun h => ?_) (fun h => ?_)
      · refine g_iload F (j := 4) dX6_canAll_61 rfl ?_
        refine g_iload_n F (j := 1) dX6_canAll_63 rfl rfl ?_
        refine g_icmp_ne F (tgt := 81) dX6_canAll_64 (by decide) h (fun h => ?_) (fun h => ?_)
        · refine g_iload_n F (j := 3) dX6_canAll_67 rfl rfl ?_
          refine g_iconst F (v := 1) dX6_canAll_68 (by decide) ?_
          refine g_iload F (j := 4) dX6_canAll_69 rfl ?_
          refine g_ishl F dX6_canAll_71 ?_
          refine g_ior F dX6_canAll_72 ?_
          refine g_iload_n F (j := 2) dX6_canAll_73 rfl rfl ?_
          refine g_icmp_eq F (tgt := 81) dX6_canAll_74 (by decide) h (fun h => ?_) (fun h => ?_)
          · exact wX6_canAll_81 F R hk11 hk34 x1 x2 x3 x4 s0 h
          · refine g_iconst F (v := 1) dX6_canAll_77 (by decide) ?_
            refine g_goto F (tgt := 82) dX6_canAll_78 (by decide) ?_
            exact wX6_canAll_82 F R hk11 hk34 x1 x2 x3 x4 1 s0 h
        · exact wX6_canAll_81 F R hk11 hk34 x1 x2 x3 x4 s0 h
      · exact wX6_canAll_168 F R hk11 hk34 x1 x2 x3 x4 s0 h
    · refine g_sub (lv' := [(0, rf X.2.2 0), (1, .int x1), (2, .int x2), (3, .int x3)]) [0, 1, 2, 3] rfl ?_
      exact wX6_canAll_174 F R hk11 x1 x2 x3 s0 h
theorem wX6_canAll_34_lp {X : Cx} (F : Fx false X cX6_canAll RX6 6 4 95) {res : Int32 × SS} (R : RZ false X cX6_canAll 6 res) {N : Nat} {k11 : Int32 → Int32 → Int32 → SS → Option (Int32 × SS)} (hk11 : ∀ (x1 : Int32) (x2 : Int32) (x3 : Int32) (σ : SS), k11 x1 x2 x3 σ = some res → G false X 6 11 [(0, rf X.2.2 0), (1, .int x1), (2, .int x2), (3, .int x3)] [] σ) : ∀ (n : Nat) (x1 : Int32) (x2 : Int32) (x3 : Int32) (x4 : Int32) (s0 : SS), lp (fX6_canAll_34 N k11) (fun _ _ _ _ _ => none) n x1 x2 x3 x4 s0 = some res → G false X 6 34 [(0, rf X.2.2 0), (1, .int x1), (2, .int x2), (3, .int x3), (4, .int x4)] [] s0 := by
  intro n
  induction n with
  | zero => intro x1 x2 x3 x4 s0 h; cases (show (none : Option (Int32 × SS)) = some res from h)
  | succ n ih => intro x1 x2 x3 x4 s0 h; exact wX6_canAll_34 F R hk11 ih x1 x2 x3 x4 s0 h
set_option maxRecDepth 20000 in
theorem wX6_canAll_30 {X : Cx} (F : Fx false X cX6_canAll RX6 6 4 95) {res : Int32 × SS} (R : RZ false X cX6_canAll 6 res) {N : Nat} {k11 : Int32 → Int32 → Int32 → SS → Option (Int32 × SS)} (hk11 : ∀ (x1 : Int32) (x2 : Int32) (x3 : Int32) (σ : SS), k11 x1 x2 x3 σ = some res → G false X 6 11 [(0, rf X.2.2 0), (1, .int x1), (2, .int x2), (3, .int x3)] [] σ) : ∀ (x1 : Int32) (x2 : Int32) (x3 : Int32) (t0 : Int32) (t1 : Int32) (s0 : SS), fX6_canAll_30 N k11 x1 x2 x3 t0 t1 s0 = some res → G false X 6 30 [(0, rf X.2.2 0), (1, .int x1), (2, .int x2), (3, .int x3)] [.int t0, .int t1, rf X.2.2 14] s0 := by
  intro x1 x2 x3 t0 t1 s0 h
  unfold fX6_canAll_30 at h
  refine g_zast F (k := 14) pm14 dX6_canAll_30 h (fun s1 h => ?_)
  refine g_iconst F (v := 0) dX6_canAll_31 (by decide) ?_
  refine g_istore F dX6_canAll_32 (by decide) (lv' := [(0, rf X.2.2 0), (1, .int x1), (2, .int x2), (3, .int x3), (4, .int 0)]) [1, 2, 3, 4, 0] rfl ?_
  exact wX6_canAll_34_lp F R hk11 N x1 x2 x3 0 s1 h
set_option maxRecDepth 20000 in
theorem wX6_canAll_11 {X : Cx} (F : Fx false X cX6_canAll RX6 6 4 95) {res : Int32 × SS} (R : RZ false X cX6_canAll 6 res) {N : Nat} {k11 : Int32 → Int32 → Int32 → SS → Option (Int32 × SS)} (hk11 : ∀ (x1 : Int32) (x2 : Int32) (x3 : Int32) (σ : SS), k11 x1 x2 x3 σ = some res → G false X 6 11 [(0, rf X.2.2 0), (1, .int x1), (2, .int x2), (3, .int x3)] [] σ) : ∀ (x1 : Int32) (x2 : Int32) (x3 : Int32) (s0 : SS), fX6_canAll_11 N k11 x1 x2 x3 s0 = some res → G false X 6 11 [(0, rf X.2.2 0), (1, .int x1), (2, .int x2), (3, .int x3)] [] s0 := by
  intro x1 x2 x3 s0 h
  unfold fX6_canAll_11 at h
  refine g_iload_n F (j := 3) dX6_canAll_11 rfl rfl ?_
  refine g_iflt F (tgt := 180) dX6_canAll_12 (by decide) h (fun h => ?_) (fun h => ?_)
  · refine g_aload_n F (a := 0) (j := 0) dX6_canAll_180 rfl rfl ?_
    refine gt_X6_54 F (k := 0) pm0 dX6_canAll_181 (v := rf X.2.2 14) rfl ?_
    refine g_iconst F (v := 0) dX6_canAll_184 (by decide) ?_
    refine g_zald F (k := 14) pm14 dX6_canAll_185 h (fun h => ?_)
    exact R _ _ _ _ dX6_canAll_186 h
  · refine g_aload_n F (a := 0) (j := 0) dX6_canAll_15 rfl rfl ?_
    refine gt_X6_54 F (k := 0) pm0 dX6_canAll_16 (v := rf X.2.2 14) rfl ?_
    refine g_iload_n F (j := 3) dX6_canAll_19 rfl rfl ?_
    refine g_iload_n F (j := 3) dX6_canAll_20 rfl rfl ?_
    refine g_iload_n F (j := 2) dX6_canAll_21 rfl rfl ?_
    refine g_icmp_ne F (tgt := 29) dX6_canAll_22 (by decide) h (fun h => ?_) (fun h => ?_)
    · refine g_iconst F (v := 1) dX6_canAll_25 (by decide) ?_
      refine g_goto F (tgt := 30) dX6_canAll_26 (by decide) ?_
      exact wX6_canAll_30 F R hk11 x1 x2 x3 1 x3 s0 h
    · refine g_iconst F (v := 0) dX6_canAll_29 (by decide) ?_
      exact wX6_canAll_30 F R hk11 x1 x2 x3 0 x3 s0 h
theorem wX6_canAll_11_lp {X : Cx} (F : Fx false X cX6_canAll RX6 6 4 95) {res : Int32 × SS} (R : RZ false X cX6_canAll 6 res) {N : Nat} : ∀ (n : Nat) (x1 : Int32) (x2 : Int32) (x3 : Int32) (s0 : SS), lp (fX6_canAll_11 N) (fun _ _ _ _ => none) n x1 x2 x3 s0 = some res → G false X 6 11 [(0, rf X.2.2 0), (1, .int x1), (2, .int x2), (3, .int x3)] [] s0 := by
  intro n
  induction n with
  | zero => intro x1 x2 x3 s0 h; cases (show (none : Option (Int32 × SS)) = some res from h)
  | succ n ih => intro x1 x2 x3 s0 h; exact wX6_canAll_11 F R ih x1 x2 x3 s0 h
set_option maxRecDepth 20000 in
theorem wX6_canAll_e {X : Cx} (F : Fx false X cX6_canAll RX6 6 4 95) {res : Int32 × SS} (R : RZ false X cX6_canAll 6 res) {N : Nat} : ∀ (a1 : Int32) (s0 : SS), fX6_canAll N a1 s0 = some res → G false X 6 0 [(0, rf X.2.2 0), (1, .int a1)] [] s0 := by
  intro a1 s0 h
  unfold fX6_canAll at h
  refine g_iconst F (v := 1) dX6_canAll_0 (by decide) ?_
  refine g_aload_n F (a := 0) (j := 0) dX6_canAll_1 rfl rfl ?_
  refine gt_X6_164 F (k := 0) pm0 dX6_canAll_2 (v := .int (s0 0 23)) rfl ?_
  refine g_ishl F dX6_canAll_5 ?_
  refine g_iconst F (v := 1) dX6_canAll_6 (by decide) ?_
  refine g_isub F dX6_canAll_7 ?_
  refine g_istore_n F dX6_canAll_8 rfl (by decide) (lv' := [(0, rf X.2.2 0), (1, .int a1), (2, .int (((1 : Int32) <<< ((s0 0 23) &&& (31 : Int32))) - 1))]) [1, 2, 0] rfl ?_
  refine g_iload_n F (j := 2) dX6_canAll_9 rfl rfl ?_
  refine g_istore_n F dX6_canAll_10 rfl (by decide) (lv' := [(0, rf X.2.2 0), (1, .int a1), (2, .int (((1 : Int32) <<< ((s0 0 23) &&& (31 : Int32))) - 1)), (3, .int (((1 : Int32) <<< ((s0 0 23) &&& (31 : Int32))) - 1))]) [1, 2, 3, 0] rfl ?_
  exact wX6_canAll_11_lp F R N a1 (((1 : Int32) <<< ((s0 0 23) &&& (31 : Int32))) - 1) (((1 : Int32) <<< ((s0 0 23) &&& (31 : Int32))) - 1) s0 h
theorem mX6_canAll {l : Launch} {w : Wd} (N : Nat) (hi : inj false w)  {res : Int32 × SS} {a1 : Int32} {s0 : SS} (h : fX6_canAll N a1 s0 = some res) : MI false l yX6_canAll cX6_canAll 6 (some .boolean) { frames := 4, cells := 0, slots := 0, locals := 95 } w [rf w 0, .int a1] s0 res := by
  refine mk_z (by decide) hi (Nat.le_of_ble_eq_true rfl) (fun X hX hL F R => ?_)
  subst hX; subst hL
  exact wX6_canAll_e F R a1 s0 h
set_option maxRecDepth 20000 in
theorem wX6_order_27 {X : Cx} (F : Fx false X cX6_order RX6 1 5 120) {res : Int32 × SS} (R : RI false X cX6_order 1 res) {N : Nat} : ∀ (t0 : Int32) (s0 : SS), fX6_order_27 N t0 s0 = some res → G false X 1 27 [] [.int t0] s0 := by
  intro t0 s0 h
  unfold fX6_order_27 at h
  exact R _ _ _ _ dX6_order_27 h
set_option maxRecDepth 20000 in
theorem wX6_order_e {X : Cx} (F : Fx false X cX6_order RX6 1 5 120) {res : Int32 × SS} (R : RI false X cX6_order 1 res) {N : Nat} : ∀  (s0 : SS), fX6_order N s0 = some res → G false X 1 0 [(0, rf X.2.2 0)] [] s0 := by
  intro  s0 h
  unfold fX6_order at h
  refine g_aload_n F (a := 0) (j := 0) dX6_order_0 rfl rfl ?_
  refine gt_X6_88 F (k := 0) pm0 dX6_order_1 (v := .int (s0 0 21)) rfl ?_
  refine g_ifne F (tgt := 10) dX6_order_4 (by decide) h (fun h => ?_) (fun h => ?_)
  · refine g_bipush F (v := (-3)) dX6_order_7 (by decide) ?_
    exact R _ _ _ _ dX6_order_9 h
  · refine g_aload_n F (a := 0) (j := 0) dX6_order_10 rfl rfl ?_
    refine g_vv F (k := 0) (As := []) (rest := []) (fun _ q => mX6_listMoves N F.inj  q) mw_X6_listMoves ml_X6_174 rfl ⟨Nat.le_of_ble_eq_true rfl, Nat.le_of_ble_eq_true rfl⟩ pm0 cl6 rfl (Nat.le_of_ble_eq_true rfl) dX6_order_11 h (fun s1 h => ?_)
    refine g_aload_n F (a := 0) (j := 0) dX6_order_14 rfl rfl ?_
    refine g_iconst F (v := (-1)) dX6_order_15 (by decide) ?_
    refine g_vi F (k := 0) (As := [.int (-1)]) (rest := []) (fun _ q => mX6_canAll N F.inj  q) mw_X6_canAll ml_X6_177 rfl ⟨Nat.le_of_ble_eq_true rfl, Nat.le_of_ble_eq_true rfl⟩ pm0 cl6 rfl (Nat.le_of_ble_eq_true rfl) dX6_order_16 h (fun v2 s2 h => ?_)
    refine g_ifeq F (tgt := 26) dX6_order_19 (by decide) h (fun h => ?_) (fun h => ?_)
    · refine g_iconst F (v := 0) dX6_order_26 (by decide) ?_
      refine g_sub (lv' := []) [] rfl ?_
      exact wX6_order_27 F R 0 s2 h
    · refine g_iconst F (v := 1) dX6_order_22 (by decide) ?_
      refine g_goto F (tgt := 27) dX6_order_23 (by decide) ?_
      refine g_sub (lv' := []) [] rfl ?_
      exact wX6_order_27 F R 1 s2 h
theorem mX6_order {l : Launch} {w : Wd} (N : Nat) (hi : inj false w)  {res : Int32 × SS} {s0 : SS} (h : fX6_order N s0 = some res) : MI false l yX6_order cX6_order 1 (some .int) { frames := 5, cells := 0, slots := 0, locals := 120 } w [rf w 0] s0 res := by
  refine mk_i (by decide) hi (Nat.le_of_ble_eq_true rfl) (fun X hX hL F R => ?_)
  subst hX; subst hL
  exact wX6_order_e F R  s0 h
set_option maxRecDepth 20000 in
theorem wX5_orderAt_39 {X : Cx} (F : Fx true X cX5_orderAt RX5 2 16 399) {res : Int32 × SS} (R : RI true X cX5_orderAt 2 res) {N : Nat} : ∀  (s0 : SS), fX5_orderAt_39 N s0 = some res → G true X 2 39 [] [] s0 := by
  intro  s0 h
  unfold fX5_orderAt_39 at h
  refine g_iconst F (v := (-1)) dX5_orderAt_39 (by decide) ?_
  exact R _ _ _ _ dX5_orderAt_40 h
set_option maxRecDepth 20000 in
theorem wX5_orderAt_e {X : Cx} (F : Fx true X cX5_orderAt RX5 2 16 399) {res : Int32 × SS} (R : RI true X cX5_orderAt 2 res) {N : Nat} : ∀ (a1 : Int32) (s0 : SS), fX5_orderAt N a1 s0 = some res → G true X 2 0 [(0, rf X.2.2 0), (1, .int a1)] [] s0 := by
  intro a1 s0 h
  unfold fX5_orderAt at h
  refine g_aload_n F (a := 0) (j := 0) dX5_orderAt_0 rfl rfl ?_
  refine gt_X5_54 F (k := 0) pc0 dX5_orderAt_1 (v := .int (s0 0 6)) rfl ?_
  refine g_ifne F (tgt := 10) dX5_orderAt_4 (by decide) h (fun h => ?_) (fun h => ?_)
  · refine g_bipush F (v := (-3)) dX5_orderAt_7 (by decide) ?_
    exact R _ _ _ _ dX5_orderAt_9 h
  · refine g_aload_n F (a := 0) (j := 0) dX5_orderAt_10 rfl rfl ?_
    refine gt_X5_37 F (k := 0) pc0 dX5_orderAt_11 (v := rf X.2.2 27) rfl ?_
    refine g_aload_n F (a := 0) (j := 0) dX5_orderAt_14 rfl rfl ?_
    refine gt_X5_50 F (k := 0) pc0 dX5_orderAt_15 (v := rf X.2.2 40) rfl ?_
    refine g_vi F (k := 27) (As := [rf X.2.2 40]) (rest := []) (fun _ q => mX0_findOrder N F.inj pc40 q) mw_X0_findOrder ml_X5_180 rfl ⟨Nat.le_of_ble_eq_true rfl, Nat.le_of_ble_eq_true rfl⟩ pc27 cl0 rfl (Nat.le_of_ble_eq_true rfl) dX5_orderAt_18 h (fun v1 s1 h => ?_)
    refine g_ifeq F (tgt := 39) dX5_orderAt_21 (by decide) h (fun h => ?_) (fun h => ?_)
    · refine g_sub (lv' := []) [] rfl ?_
      exact wX5_orderAt_39 F R s1 h
    · refine g_iload_n F (j := 1) dX5_orderAt_24 rfl rfl ?_
      refine g_iflt F (tgt := 39) dX5_orderAt_25 (by decide) h (fun h => ?_) (fun h => ?_)
      · refine g_sub (lv' := []) [] rfl ?_
        exact wX5_orderAt_39 F R s1 h
      · refine g_iload_n F (j := 1) dX5_orderAt_28 rfl rfl ?_
        refine g_aload_n F (a := 0) (j := 0) dX5_orderAt_29 rfl rfl ?_
        refine gt_X5_37 F (k := 0) pc0 dX5_orderAt_30 (v := rf X.2.2 27) rfl ?_
        refine gt_X5_184 F (k := 27) pc27 dX5_orderAt_33 (v := .int (s1 27 3)) rfl ?_
        refine g_icmp_lt F (tgt := 41) dX5_orderAt_36 (by decide) h (fun h => ?_) (fun h => ?_)
        · refine g_aload_n F (a := 0) (j := 0) dX5_orderAt_41 rfl rfl ?_
          refine gt_X5_37 F (k := 0) pc0 dX5_orderAt_42 (v := rf X.2.2 27) rfl ?_
          refine gt_X5_187 F (k := 27) pc27 dX5_orderAt_45 (v := rf X.2.2 28) rfl ?_
          refine g_iload_n F (j := 1) dX5_orderAt_48 rfl rfl ?_
          refine g_iald F (k := 28) pc28 dX5_orderAt_49 h (fun h => ?_)
          exact R _ _ _ _ dX5_orderAt_50 h
        · refine g_sub (lv' := []) [] rfl ?_
          exact wX5_orderAt_39 F R s1 h
theorem mX5_orderAt {l : Launch} {w : Wd} (N : Nat) (hi : inj true w)  {res : Int32 × SS} {a1 : Int32} {s0 : SS} (h : fX5_orderAt N a1 s0 = some res) : MI true l yX5_orderAt cX5_orderAt 2 (some .int) { frames := 16, cells := 0, slots := 0, locals := 399 } w [rf w 0, .int a1] s0 res := by
  refine mk_i (by decide) hi (Nat.le_of_ble_eq_true rfl) (fun X hX hL F R => ?_)
  subst hX; subst hL
  exact wX5_orderAt_e F R a1 s0 h
set_option maxRecDepth 20000 in
theorem wX6_firstOf_64 {X : Cx} (F : Fx false X cX6_firstOf RX6 3 4 95) {res : Int32 × SS} (R : RI false X cX6_firstOf 3 res) {N : Nat} {k9 : Int32 → Int32 → SS → Option (Int32 × SS)} (hk9 : ∀ (x1 : Int32) (x2 : Int32) (σ : SS), k9 x1 x2 σ = some res → G false X 3 9 [(0, rf X.2.2 0), (1, .int x1), (2, .int x2)] [] σ) : ∀ (x1 : Int32) (x2 : Int32) (s0 : SS), fX6_firstOf_64 N k9 x1 x2 s0 = some res → G false X 3 64 [(0, rf X.2.2 0), (1, .int x1), (2, .int x2)] [] s0 := by
  intro x1 x2 s0 h
  unfold fX6_firstOf_64 at h
  refine g_iinc F (j := 2) (v := x2 + 1) dX6_firstOf_64 rfl rfl (by decide) (lv' := [(0, rf X.2.2 0), (1, .int x1), (2, .int (x2 + 1))]) [1, 2, 0] rfl ?_
  refine g_goto F (tgt := 9) dX6_firstOf_67 (by decide) ?_
  exact hk9 x1 (x2 + 1) s0 h
set_option maxRecDepth 20000 in
theorem wX6_firstOf_9 {X : Cx} (F : Fx false X cX6_firstOf RX6 3 4 95) {res : Int32 × SS} (R : RI false X cX6_firstOf 3 res) {N : Nat} {k9 : Int32 → Int32 → SS → Option (Int32 × SS)} (hk9 : ∀ (x1 : Int32) (x2 : Int32) (σ : SS), k9 x1 x2 σ = some res → G false X 3 9 [(0, rf X.2.2 0), (1, .int x1), (2, .int x2)] [] σ) : ∀ (x1 : Int32) (x2 : Int32) (s0 : SS), fX6_firstOf_9 N k9 x1 x2 s0 = some res → G false X 3 9 [(0, rf X.2.2 0), (1, .int x1), (2, .int x2)] [] s0 := by
  intro x1 x2 s0 h
  unfold fX6_firstOf_9 at h
  refine g_iload_n F (j := 2) dX6_firstOf_9 rfl rfl ?_
  refine g_aload_n F (a := 0) (j := 0) dX6_firstOf_10 rfl rfl ?_
  refine gt_X6_164 F (k := 0) pm0 dX6_firstOf_11 (v := .int (s0 0 23)) rfl ?_
  refine g_icmp_ge F (tgt := 70) dX6_firstOf_14 (by decide) h (fun h => ?_) (fun h => ?_)
  · refine g_iconst F (v := (-1)) dX6_firstOf_70 (by decide) ?_
    exact R _ _ _ _ dX6_firstOf_71 h
  · refine g_iload_n F (j := 1) dX6_firstOf_17 rfl rfl ?_
    refine g_iload_n F (j := 2) dX6_firstOf_18 rfl rfl ?_
    refine g_ishr F dX6_firstOf_19 ?_
    refine g_iconst F (v := 1) dX6_firstOf_20 (by decide) ?_
    refine g_iand F dX6_firstOf_21 ?_
    refine g_ifne F (tgt := 64) dX6_firstOf_22 (by decide) h (fun h => ?_) (fun h => ?_)
    · refine g_aload_n F (a := 0) (j := 0) dX6_firstOf_25 rfl rfl ?_
      refine gt_X6_54 F (k := 0) pm0 dX6_firstOf_26 (v := rf X.2.2 14) rfl ?_
      refine g_iload_n F (j := 1) dX6_firstOf_29 rfl rfl ?_
      refine g_iconst F (v := 1) dX6_firstOf_30 (by decide) ?_
      refine g_iload_n F (j := 2) dX6_firstOf_31 rfl rfl ?_
      refine g_ishl F dX6_firstOf_32 ?_
      refine g_ior F dX6_firstOf_33 ?_
      refine g_zald F (k := 14) pm14 dX6_firstOf_34 h (fun h => ?_)
      refine g_ifeq F (tgt := 64) dX6_firstOf_35 (by decide) h (fun h => ?_) (fun h => ?_)
      · exact wX6_firstOf_64 F R hk9 x1 x2 s0 h
      · refine g_aload_n F (a := 0) (j := 0) dX6_firstOf_38 rfl rfl ?_
        refine g_aload_n F (a := 0) (j := 0) dX6_firstOf_39 rfl rfl ?_
        refine gt_X6_48 F (k := 0) pm0 dX6_firstOf_40 (v := rf X.2.2 12) rfl ?_
        refine g_iload_n F (j := 2) dX6_firstOf_43 rfl rfl ?_
        refine g_iald F (k := 12) pm12 dX6_firstOf_44 h (fun h => ?_)
        refine g_aload_n F (a := 0) (j := 0) dX6_firstOf_45 rfl rfl ?_
        refine gt_X6_45 F (k := 0) pm0 dX6_firstOf_46 (v := rf X.2.2 11) rfl ?_
        refine g_aload_n F (a := 0) (j := 0) dX6_firstOf_49 rfl rfl ?_
        refine gt_X6_48 F (k := 0) pm0 dX6_firstOf_50 (v := rf X.2.2 12) rfl ?_
        refine g_iload_n F (j := 2) dX6_firstOf_53 rfl rfl ?_
        refine g_iald F (k := 12) pm12 dX6_firstOf_54 h (fun h => ?_)
        refine g_iald F (k := 11) pm11 dX6_firstOf_55 h (fun h => ?_)
        refine g_vi F (k := 0) (As := [.int (s0 12 (Int32.toNatClampNeg x2)), .int (s0 11 (Int32.toNatClampNeg (s0 12 (Int32.toNatClampNeg x2))))]) (rest := []) (fun _ q => mX6_comes N F.inj  q) mw_X6_comes ml_X6_171 rfl ⟨Nat.le_of_ble_eq_true rfl, Nat.le_of_ble_eq_true rfl⟩ pm0 cl6 rfl (Nat.le_of_ble_eq_true rfl) dX6_firstOf_56 h (fun v1 s1 h => ?_)
        refine g_ifeq F (tgt := 64) dX6_firstOf_59 (by decide) h (fun h => ?_) (fun h => ?_)
        · exact wX6_firstOf_64 F R hk9 x1 x2 s1 h
        · refine g_iload_n F (j := 2) dX6_firstOf_62 rfl rfl ?_
          exact R _ _ _ _ dX6_firstOf_63 h
    · exact wX6_firstOf_64 F R hk9 x1 x2 s0 h
theorem wX6_firstOf_9_lp {X : Cx} (F : Fx false X cX6_firstOf RX6 3 4 95) {res : Int32 × SS} (R : RI false X cX6_firstOf 3 res) {N : Nat} : ∀ (n : Nat) (x1 : Int32) (x2 : Int32) (s0 : SS), lp (fX6_firstOf_9 N) (fun _ _ _ => none) n x1 x2 s0 = some res → G false X 3 9 [(0, rf X.2.2 0), (1, .int x1), (2, .int x2)] [] s0 := by
  intro n
  induction n with
  | zero => intro x1 x2 s0 h; cases (show (none : Option (Int32 × SS)) = some res from h)
  | succ n ih => intro x1 x2 s0 h; exact wX6_firstOf_9 F R ih x1 x2 s0 h
set_option maxRecDepth 20000 in
theorem wX6_firstOf_e {X : Cx} (F : Fx false X cX6_firstOf RX6 3 4 95) {res : Int32 × SS} (R : RI false X cX6_firstOf 3 res) {N : Nat} : ∀ (a1 : Int32) (s0 : SS), fX6_firstOf N a1 s0 = some res → G false X 3 0 [(0, rf X.2.2 0), (1, .int a1)] [] s0 := by
  intro a1 s0 h
  unfold fX6_firstOf at h
  refine g_aload_n F (a := 0) (j := 0) dX6_firstOf_0 rfl rfl ?_
  refine g_iload_n F (j := 1) dX6_firstOf_1 rfl rfl ?_
  refine g_iconst F (v := (-1)) dX6_firstOf_2 (by decide) ?_
  refine g_iconst F (v := (-1)) dX6_firstOf_3 (by decide) ?_
  refine g_vv F (k := 0) (As := [.int a1, .int (-1), .int (-1)]) (rest := []) (fun _ q => mX6_place N F.inj  q) mw_X6_place ml_X6_167 rfl ⟨Nat.le_of_ble_eq_true rfl, Nat.le_of_ble_eq_true rfl⟩ pm0 cl6 rfl (Nat.le_of_ble_eq_true rfl) dX6_firstOf_4 h (fun s1 h => ?_)
  refine g_iconst F (v := 0) dX6_firstOf_7 (by decide) ?_
  refine g_istore_n F dX6_firstOf_8 rfl (by decide) (lv' := [(0, rf X.2.2 0), (1, .int a1), (2, .int 0)]) [1, 2, 0] rfl ?_
  exact wX6_firstOf_9_lp F R N a1 0 s1 h
theorem mX6_firstOf {l : Launch} {w : Wd} (N : Nat) (hi : inj false w)  {res : Int32 × SS} {a1 : Int32} {s0 : SS} (h : fX6_firstOf N a1 s0 = some res) : MI false l yX6_firstOf cX6_firstOf 3 (some .int) { frames := 4, cells := 0, slots := 0, locals := 95 } w [rf w 0, .int a1] s0 res := by
  refine mk_i (by decide) hi (Nat.le_of_ble_eq_true rfl) (fun X hX hL F R => ?_)
  subst hX; subst hL
  exact wX6_firstOf_e F R a1 s0 h
set_option maxRecDepth 20000 in
theorem wX6_orderAt_36 {X : Cx} (F : Fx false X cX6_orderAt RX6 5 5 120) {res : Int32 × SS} (R : RI false X cX6_orderAt 5 res) {N : Nat} : ∀  (s0 : SS), fX6_orderAt_36 N s0 = some res → G false X 5 36 [] [] s0 := by
  intro  s0 h
  unfold fX6_orderAt_36 at h
  refine g_iconst F (v := (-1)) dX6_orderAt_36 (by decide) ?_
  exact R _ _ _ _ dX6_orderAt_37 h
set_option maxRecDepth 20000 in
theorem wX6_orderAt_45 {X : Cx} (F : Fx false X cX6_orderAt RX6 5 5 120) {res : Int32 × SS} (R : RI false X cX6_orderAt 5 res) {N : Nat} {k45 : Int32 → Int32 → Int32 → Int32 → SS → Option (Int32 × SS)} (hk45 : ∀ (x1 : Int32) (x2 : Int32) (x3 : Int32) (x4 : Int32) (σ : SS), k45 x1 x2 x3 x4 σ = some res → G false X 5 45 [(0, rf X.2.2 0), (1, .int x1), (2, .int x2), (3, .int x3), (4, .int x4)] [] σ) : ∀ (x1 : Int32) (x2 : Int32) (x3 : Int32) (x4 : Int32) (s0 : SS), fX6_orderAt_45 N k45 x1 x2 x3 x4 s0 = some res → G false X 5 45 [(0, rf X.2.2 0), (1, .int x1), (2, .int x2), (3, .int x3), (4, .int x4)] [] s0 := by
  intro x1 x2 x3 x4 s0 h
  unfold fX6_orderAt_45 at h
  refine g_iload F (j := 4) dX6_orderAt_45 rfl ?_
  refine g_iload_n F (j := 1) dX6_orderAt_47 rfl rfl ?_
  refine g_icmp_gt F (tgt := 69) dX6_orderAt_48 (by decide) h (fun h => ?_) (fun h => ?_)
  · refine g_aload_n F (a := 0) (j := 0) dX6_orderAt_69 rfl rfl ?_
    refine gt_X6_48 F (k := 0) pm0 dX6_orderAt_70 (v := rf X.2.2 12) rfl ?_
    refine g_iload_n F (j := 3) dX6_orderAt_73 rfl rfl ?_
    refine g_iald F (k := 12) pm12 dX6_orderAt_74 h (fun h => ?_)
    exact R _ _ _ _ dX6_orderAt_75 h
  · refine g_aload_n F (a := 0) (j := 0) dX6_orderAt_51 rfl rfl ?_
    refine g_iload_n F (j := 2) dX6_orderAt_52 rfl rfl ?_
    refine g_vi F (k := 0) (As := [.int x2]) (rest := []) (fun _ q => mX6_firstOf N F.inj  q) mw_X6_firstOf ml_X6_180 rfl ⟨Nat.le_of_ble_eq_true rfl, Nat.le_of_ble_eq_true rfl⟩ pm0 cl6 rfl (Nat.le_of_ble_eq_true rfl) dX6_orderAt_53 h (fun v1 s1 h => ?_)
    refine g_istore_n F dX6_orderAt_56 rfl (by decide) (lv' := [(0, rf X.2.2 0), (1, .int x1), (2, .int x2), (3, .int v1), (4, .int x4)]) [1, 2, 3, 0, 4] rfl ?_
    refine g_iload_n F (j := 2) dX6_orderAt_57 rfl rfl ?_
    refine g_iconst F (v := 1) dX6_orderAt_58 (by decide) ?_
    refine g_iload_n F (j := 3) dX6_orderAt_59 rfl rfl ?_
    refine g_ishl F dX6_orderAt_60 ?_
    refine g_ior F dX6_orderAt_61 ?_
    refine g_istore_n F dX6_orderAt_62 rfl (by decide) (lv' := [(0, rf X.2.2 0), (1, .int x1), (2, .int (x2 ||| ((1 : Int32) <<< (v1 &&& (31 : Int32))))), (3, .int v1), (4, .int x4)]) [1, 2, 0, 3, 4] rfl ?_
    refine g_iinc F (j := 4) (v := x4 + 1) dX6_orderAt_63 rfl rfl (by decide) (lv' := [(0, rf X.2.2 0), (1, .int x1), (2, .int (x2 ||| ((1 : Int32) <<< (v1 &&& (31 : Int32))))), (3, .int v1), (4, .int (x4 + 1))]) [1, 2, 3, 4, 0] rfl ?_
    refine g_goto F (tgt := 45) dX6_orderAt_66 (by decide) ?_
    exact hk45 x1 (x2 ||| ((1 : Int32) <<< (v1 &&& (31 : Int32)))) v1 (x4 + 1) s1 h
theorem wX6_orderAt_45_lp {X : Cx} (F : Fx false X cX6_orderAt RX6 5 5 120) {res : Int32 × SS} (R : RI false X cX6_orderAt 5 res) {N : Nat} : ∀ (n : Nat) (x1 : Int32) (x2 : Int32) (x3 : Int32) (x4 : Int32) (s0 : SS), lp (fX6_orderAt_45 N) (fun _ _ _ _ _ => none) n x1 x2 x3 x4 s0 = some res → G false X 5 45 [(0, rf X.2.2 0), (1, .int x1), (2, .int x2), (3, .int x3), (4, .int x4)] [] s0 := by
  intro n
  induction n with
  | zero => intro x1 x2 x3 x4 s0 h; cases (show (none : Option (Int32 × SS)) = some res from h)
  | succ n ih => intro x1 x2 x3 x4 s0 h; exact wX6_orderAt_45 F R ih x1 x2 x3 x4 s0 h
set_option maxRecDepth 20000 in
theorem wX6_orderAt_e {X : Cx} (F : Fx false X cX6_orderAt RX6 5 5 120) {res : Int32 × SS} (R : RI false X cX6_orderAt 5 res) {N : Nat} : ∀ (a1 : Int32) (s0 : SS), fX6_orderAt N a1 s0 = some res → G false X 5 0 [(0, rf X.2.2 0), (1, .int a1)] [] s0 := by
  intro a1 s0 h
  unfold fX6_orderAt at h
  refine g_aload_n F (a := 0) (j := 0) dX6_orderAt_0 rfl rfl ?_
  refine gt_X6_88 F (k := 0) pm0 dX6_orderAt_1 (v := .int (s0 0 21)) rfl ?_
  refine g_ifne F (tgt := 10) dX6_orderAt_4 (by decide) h (fun h => ?_) (fun h => ?_)
  · refine g_bipush F (v := (-3)) dX6_orderAt_7 (by decide) ?_
    exact R _ _ _ _ dX6_orderAt_9 h
  · refine g_aload_n F (a := 0) (j := 0) dX6_orderAt_10 rfl rfl ?_
    refine g_vv F (k := 0) (As := []) (rest := []) (fun _ q => mX6_listMoves N F.inj  q) mw_X6_listMoves ml_X6_174 rfl ⟨Nat.le_of_ble_eq_true rfl, Nat.le_of_ble_eq_true rfl⟩ pm0 cl6 rfl (Nat.le_of_ble_eq_true rfl) dX6_orderAt_11 h (fun s1 h => ?_)
    refine g_aload_n F (a := 0) (j := 0) dX6_orderAt_14 rfl rfl ?_
    refine g_iconst F (v := (-1)) dX6_orderAt_15 (by decide) ?_
    refine g_vi F (k := 0) (As := [.int (-1)]) (rest := []) (fun _ q => mX6_canAll N F.inj  q) mw_X6_canAll ml_X6_177 rfl ⟨Nat.le_of_ble_eq_true rfl, Nat.le_of_ble_eq_true rfl⟩ pm0 cl6 rfl (Nat.le_of_ble_eq_true rfl) dX6_orderAt_16 h (fun v2 s2 h => ?_)
    refine g_ifeq F (tgt := 36) dX6_orderAt_19 (by decide) h (fun h => ?_) (fun h => ?_)
    · refine g_sub (lv' := []) [] rfl ?_
      exact wX6_orderAt_36 F R s2 h
    · refine g_iload_n F (j := 1) dX6_orderAt_22 rfl rfl ?_
      refine g_iconst F (v := 0) dX6_orderAt_23 (by decide) ?_
      refine g_aload_n F (a := 0) (j := 0) dX6_orderAt_24 rfl rfl ?_
      refine gt_X6_164 F (k := 0) pm0 dX6_orderAt_25 (v := .int (s2 0 23)) rfl ?_
      refine g_iconst F (v := 1) dX6_orderAt_28 (by decide) ?_
      refine g_isub F dX6_orderAt_29 ?_
      refine g_si F (As := [.int a1, .int 0, .int ((s2 0 23) - 1)]) (rest := []) (fun _ q => mX6_in N F.inj  q) mw_X6_in ml_X6_60 rfl ⟨Nat.le_of_ble_eq_true rfl, Nat.le_of_ble_eq_true rfl⟩ rfl (Nat.le_of_ble_eq_true rfl) dX6_orderAt_30 h (fun v3 s3 h => ?_)
      refine g_ifne F (tgt := 38) dX6_orderAt_33 (by decide) h (fun h => ?_) (fun h => ?_)
      · refine g_sub (lv' := []) [] rfl ?_
        exact wX6_orderAt_36 F R s3 h
      · refine g_iconst F (v := 0) dX6_orderAt_38 (by decide) ?_
        refine g_istore_n F dX6_orderAt_39 rfl (by decide) (lv' := [(0, rf X.2.2 0), (1, .int a1), (2, .int 0)]) [1, 2, 0] rfl ?_
        refine g_iconst F (v := (-1)) dX6_orderAt_40 (by decide) ?_
        refine g_istore_n F dX6_orderAt_41 rfl (by decide) (lv' := [(0, rf X.2.2 0), (1, .int a1), (2, .int 0), (3, .int (-1))]) [1, 2, 3, 0] rfl ?_
        refine g_iconst F (v := 0) dX6_orderAt_42 (by decide) ?_
        refine g_istore F dX6_orderAt_43 (by decide) (lv' := [(0, rf X.2.2 0), (1, .int a1), (2, .int 0), (3, .int (-1)), (4, .int 0)]) [1, 2, 3, 4, 0] rfl ?_
        exact wX6_orderAt_45_lp F R N a1 0 (-1) 0 s3 h
theorem mX6_orderAt {l : Launch} {w : Wd} (N : Nat) (hi : inj false w)  {res : Int32 × SS} {a1 : Int32} {s0 : SS} (h : fX6_orderAt N a1 s0 = some res) : MI false l yX6_orderAt cX6_orderAt 5 (some .int) { frames := 5, cells := 0, slots := 0, locals := 120 } w [rf w 0, .int a1] s0 res := by
  refine mk_i (by decide) hi (Nat.le_of_ble_eq_true rfl) (fun X hX hL F R => ?_)
  subst hX; subst hL
  exact wX6_orderAt_e F R a1 s0 h
