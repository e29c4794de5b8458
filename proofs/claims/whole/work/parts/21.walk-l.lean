set_option maxRecDepth 20000 in
theorem wX6_costAt_49 {X : Cx} (F : Fx false X cX6_costAt RX6 7 8 175) {res : Int64 × SS} (R : RL64 false X cX6_costAt 7 res) {N : Nat} {k2 : Int32 → Int32 → Int32 → SS → Option (Int64 × SS)} (hk2 : ∀ (x1 : Int32) (x2 : Int32) (x3 : Int32) (σ : SS), k2 x1 x2 x3 σ = some res → G false X 7 2 [(0, rf X.2.2 0), (1, .int x1), (2, .int x2), (3, .int x3)] [] σ) : ∀ (x1 : Int32) (x2 : Int32) (x3 : Int32) (t0 : Int32) (t1 : Int32) (s0 : SS), fX6_costAt_49 N k2 x1 x2 x3 t0 t1 s0 = some res → G false X 7 49 [(0, rf X.2.2 0), (1, .int x1), (2, .int x2), (3, .int x3)] [.int t0, .int t1, rf X.2.2 8] s0 := by
  intro x1 x2 x3 t0 t1 s0 h
  unfold fX6_costAt_49 at h
  refine g_zast F (k := 8) pm8 dX6_costAt_49 h (fun s1 h => ?_)
  refine g_iinc F (j := 3) (v := x3 + 1) dX6_costAt_50 rfl rfl (by decide) (lv' := [(0, rf X.2.2 0), (1, .int x1), (2, .int x2), (3, .int (x3 + 1))]) [1, 2, 3, 0] rfl ?_
  refine g_goto F (tgt := 2) dX6_costAt_53 (by decide) ?_
  exact hk2 x1 x2 (x3 + 1) s1 h
set_option maxRecDepth 20000 in
theorem wX6_costAt_44 {X : Cx} (F : Fx false X cX6_costAt RX6 7 8 175) {res : Int64 × SS} (R : RL64 false X cX6_costAt 7 res) {N : Nat} {k2 : Int32 → Int32 → Int32 → SS → Option (Int64 × SS)} (hk2 : ∀ (x1 : Int32) (x2 : Int32) (x3 : Int32) (σ : SS), k2 x1 x2 x3 σ = some res → G false X 7 2 [(0, rf X.2.2 0), (1, .int x1), (2, .int x2), (3, .int x3)] [] σ) : ∀ (x1 : Int32) (x2 : Int32) (x3 : Int32) (t0 : Int32) (s0 : SS), fX6_costAt_44 N k2 x1 x2 x3 t0 s0 = some res → G false X 7 44 [(0, rf X.2.2 0), (1, .int x1), (2, .int x2), (3, .int x3)] [.int t0, rf X.2.2 8] s0 := by
  intro x1 x2 x3 t0 s0 h
  unfold fX6_costAt_44 at h
  refine g_iconst F (v := 1) dX6_costAt_44 (by decide) ?_
  refine g_goto F (tgt := 49) dX6_costAt_45 (by decide) ?_
  exact wX6_costAt_49 F R hk2 x1 x2 x3 1 t0 s0 h
set_option maxRecDepth 20000 in
theorem wX6_costAt_48 {X : Cx} (F : Fx false X cX6_costAt RX6 7 8 175) {res : Int64 × SS} (R : RL64 false X cX6_costAt 7 res) {N : Nat} {k2 : Int32 → Int32 → Int32 → SS → Option (Int64 × SS)} (hk2 : ∀ (x1 : Int32) (x2 : Int32) (x3 : Int32) (σ : SS), k2 x1 x2 x3 σ = some res → G false X 7 2 [(0, rf X.2.2 0), (1, .int x1), (2, .int x2), (3, .int x3)] [] σ) : ∀ (x1 : Int32) (x2 : Int32) (x3 : Int32) (t0 : Int32) (s0 : SS), fX6_costAt_48 N k2 x1 x2 x3 t0 s0 = some res → G false X 7 48 [(0, rf X.2.2 0), (1, .int x1), (2, .int x2), (3, .int x3)] [.int t0, rf X.2.2 8] s0 := by
  intro x1 x2 x3 t0 s0 h
  unfold fX6_costAt_48 at h
  refine g_iconst F (v := 0) dX6_costAt_48 (by decide) ?_
  exact wX6_costAt_49 F R hk2 x1 x2 x3 0 t0 s0 h
set_option maxRecDepth 20000 in
theorem wX6_costAt_146 {X : Cx} (F : Fx false X cX6_costAt RX6 7 8 175) {res : Int64 × SS} (R : RL64 false X cX6_costAt 7 res) {N : Nat} {k91 : Int32 → Int32 → Int64 → Int32 → SS → Option (Int64 × SS)} (hk91 : ∀ (x2 : Int32) (x3 : Int32) (x4 : Int64) (x6 : Int32) (σ : SS), k91 x2 x3 x4 x6 σ = some res → G false X 7 91 [(0, rf X.2.2 0), (2, .int x2), (3, .int x3), (4, .long x4), (6, .int x6)] [] σ) : ∀ (x2 : Int32) (x3 : Int32) (x6 : Int32) (t0 : Int64) (t1 : Int64) (s0 : SS), fX6_costAt_146 N k91 x2 x3 x6 t0 t1 s0 = some res → G false X 7 146 [(0, rf X.2.2 0), (2, .int x2), (3, .int x3), (6, .int x6)] [.long t0, .long t1] s0 := by
  intro x2 x3 x6 t0 t1 s0 h
  unfold fX6_costAt_146 at h
  refine g_ladd F dX6_costAt_146 ?_
  refine g_lstore F dX6_costAt_147 (by decide) (lv' := [(0, rf X.2.2 0), (2, .int x2), (3, .int x3), (4, .long (t1 + t0)), (6, .int x6)]) [1, 2, 3, 0, 4] rfl ?_
  refine g_iinc F (j := 4) (v := x6 + 1) dX6_costAt_149 rfl rfl (by decide) (lv' := [(0, rf X.2.2 0), (2, .int x2), (3, .int x3), (4, .long (t1 + t0)), (6, .int (x6 + 1))]) [1, 2, 3, 4, 0] rfl ?_
  refine g_goto F (tgt := 91) dX6_costAt_152 (by decide) ?_
  exact hk91 x2 x3 (t1 + t0) (x6 + 1) s0 h
set_option maxRecDepth 20000 in
theorem wX6_costAt_145 {X : Cx} (F : Fx false X cX6_costAt RX6 7 8 175) {res : Int64 × SS} (R : RL64 false X cX6_costAt 7 res) {N : Nat} {k91 : Int32 → Int32 → Int64 → Int32 → SS → Option (Int64 × SS)} (hk91 : ∀ (x2 : Int32) (x3 : Int32) (x4 : Int64) (x6 : Int32) (σ : SS), k91 x2 x3 x4 x6 σ = some res → G false X 7 91 [(0, rf X.2.2 0), (2, .int x2), (3, .int x3), (4, .long x4), (6, .int x6)] [] σ) : ∀ (x2 : Int32) (x3 : Int32) (x6 : Int32) (t0 : Int64) (s0 : SS), fX6_costAt_145 N k91 x2 x3 x6 t0 s0 = some res → G false X 7 145 [(0, rf X.2.2 0), (2, .int x2), (3, .int x3), (6, .int x6)] [.long t0] s0 := by
  intro x2 x3 x6 t0 s0 h
  unfold fX6_costAt_145 at h
  refine g_lconst F (v := 0) dX6_costAt_145 (by decide) ?_
  exact wX6_costAt_146 F R hk91 x2 x3 x6 0 t0 s0 h
set_option maxRecDepth 20000 in
theorem wX6_costAt_226 {X : Cx} (F : Fx false X cX6_costAt RX6 7 8 175) {res : Int64 × SS} (R : RL64 false X cX6_costAt 7 res) {N : Nat} : ∀ (t0 : Int64) (s0 : SS), fX6_costAt_226 N t0 s0 = some res → G false X 7 226 [] [.long t0] s0 := by
  intro t0 s0 h
  unfold fX6_costAt_226 at h
  exact R _ _ _ _ dX6_costAt_226 h
set_option maxRecDepth 20000 in
theorem wX6_costAt_158 {X : Cx} (F : Fx false X cX6_costAt RX6 7 8 175) {res : Int64 × SS} (R : RL64 false X cX6_costAt 7 res) {N : Nat} {k158 : Int32 → Int32 → Int64 → Int32 → SS → Option (Int64 × SS)} (hk158 : ∀ (x2 : Int32) (x3 : Int32) (x4 : Int64) (x6 : Int32) (σ : SS), k158 x2 x3 x4 x6 σ = some res → G false X 7 158 [(0, rf X.2.2 0), (2, .int x2), (3, .int x3), (4, .long x4), (6, .int x6)] [] σ) : ∀ (x2 : Int32) (x3 : Int32) (x4 : Int64) (x6 : Int32) (s0 : SS), fX6_costAt_158 N k158 x2 x3 x4 x6 s0 = some res → G false X 7 158 [(0, rf X.2.2 0), (2, .int x2), (3, .int x3), (4, .long x4), (6, .int x6)] [] s0 := by
  intro x2 x3 x4 x6 s0 h
  unfold fX6_costAt_158 at h
  refine g_iload F (j := 4) dX6_costAt_158 rfl ?_
  refine g_aload_n F (a := 0) (j := 0) dX6_costAt_160 rfl rfl ?_
  refine gt_X6_67 F (k := 0) pm0 dX6_costAt_161 (v := .int (s0 0 3)) rfl ?_
  refine g_icmp_ge F (tgt := 187) dX6_costAt_164 (by decide) h (fun h => ?_) (fun h => ?_)
  · refine g_iload_n F (j := 2) dX6_costAt_187 rfl rfl ?_
    refine g_ifne F (tgt := 197) dX6_costAt_188 (by decide) h (fun h => ?_) (fun h => ?_)
    · refine g_ldc2 F (inr_27 _ (List.mem_of_getElem? (i := 17) rfl)) dX6_costAt_191 ?_
      refine g_goto F (tgt := 226) dX6_costAt_194 (by decide) ?_
      refine g_sub (lv' := []) [] rfl ?_
      exact wX6_costAt_226 F R (-5) s0 h
    · refine g_lload F (j := 3) dX6_costAt_197 rfl ?_
      refine g_lconst F (v := 0) dX6_costAt_199 (by decide) ?_
      refine g_lcmp F dX6_costAt_200 ?_
      refine g_ifge F (tgt := 210) dX6_costAt_201 (by decide) h (fun h => ?_) (fun h => ?_)
      · refine g_lload F (j := 3) dX6_costAt_210 rfl ?_
        refine g_iload_n F (j := 1) dX6_costAt_212 rfl rfl ?_
        refine g_aload_n F (a := 0) (j := 0) dX6_costAt_213 rfl rfl ?_
        refine gt_X6_77 F (k := 0) pm0 dX6_costAt_214 (v := .int (s0 0 10)) rfl ?_
        refine g_isub F dX6_costAt_217 ?_
        refine g_i2l F dX6_costAt_218 ?_
        refine g_aload_n F (a := 0) (j := 0) dX6_costAt_219 rfl rfl ?_
        refine gt_X6_35 F (k := 0) pm0 dX6_costAt_220 (v := .int (s0 0 11)) rfl ?_
        refine g_i2l F dX6_costAt_223 ?_
        refine g_lmul F dX6_costAt_224 ?_
        refine g_ladd F dX6_costAt_225 ?_
        refine g_sub (lv' := []) [] rfl ?_
        exact wX6_costAt_226 F R (x4 + ((Int32.toInt64 (x2 - (s0 0 10))) * (Int32.toInt64 (s0 0 11)))) s0 h
      · refine g_ldc2 F (inr_27 _ (List.mem_of_getElem? (i := 16) rfl)) dX6_costAt_204 ?_
        refine g_goto F (tgt := 226) dX6_costAt_207 (by decide) ?_
        refine g_sub (lv' := []) [] rfl ?_
        exact wX6_costAt_226 F R (-1) s0 h
  · refine g_aload_n F (a := 0) (j := 0) dX6_costAt_167 rfl rfl ?_
    refine gt_X6_31 F (k := 0) pm0 dX6_costAt_168 (v := rf X.2.2 8) rfl ?_
    refine g_iload F (j := 4) dX6_costAt_171 rfl ?_
    refine g_aload_n F (a := 0) (j := 0) dX6_costAt_173 rfl rfl ?_
    refine gt_X6_57 F (k := 0) pm0 dX6_costAt_174 (v := rf X.2.2 15) rfl ?_
    refine g_iload F (j := 4) dX6_costAt_177 rfl ?_
    refine g_zald F (k := 15) pm15 dX6_costAt_179 h (fun h => ?_)
    refine g_zast F (k := 8) pm8 dX6_costAt_180 h (fun s1 h => ?_)
    refine g_iinc F (j := 4) (v := x6 + 1) dX6_costAt_181 rfl rfl (by decide) (lv' := [(0, rf X.2.2 0), (2, .int x2), (3, .int x3), (4, .long x4), (6, .int (x6 + 1))]) [1, 2, 3, 4, 0] rfl ?_
    refine g_goto F (tgt := 158) dX6_costAt_184 (by decide) ?_
    exact hk158 x2 x3 x4 (x6 + 1) s1 h
theorem wX6_costAt_158_lp {X : Cx} (F : Fx false X cX6_costAt RX6 7 8 175) {res : Int64 × SS} (R : RL64 false X cX6_costAt 7 res) {N : Nat} : ∀ (n : Nat) (x2 : Int32) (x3 : Int32) (x4 : Int64) (x6 : Int32) (s0 : SS), lp (fX6_costAt_158 N) (fun _ _ _ _ _ => none) n x2 x3 x4 x6 s0 = some res → G false X 7 158 [(0, rf X.2.2 0), (2, .int x2), (3, .int x3), (4, .long x4), (6, .int x6)] [] s0 := by
  intro n
  induction n with
  | zero => intro x2 x3 x4 x6 s0 h; cases (show (none : Option (Int64 × SS)) = some res from h)
  | succ n ih => intro x2 x3 x4 x6 s0 h; exact wX6_costAt_158 F R ih x2 x3 x4 x6 s0 h
set_option maxRecDepth 20000 in
theorem wX6_costAt_155 {X : Cx} (F : Fx false X cX6_costAt RX6 7 8 175) {res : Int64 × SS} (R : RL64 false X cX6_costAt 7 res) {N : Nat} : ∀ (x2 : Int32) (x3 : Int32) (x4 : Int64) (s0 : SS), fX6_costAt_155 N x2 x3 x4 s0 = some res → G false X 7 155 [(0, rf X.2.2 0), (2, .int x2), (3, .int x3), (4, .long x4)] [] s0 := by
  intro x2 x3 x4 s0 h
  unfold fX6_costAt_155 at h
  refine g_iconst F (v := 0) dX6_costAt_155 (by decide) ?_
  refine g_istore F dX6_costAt_156 (by decide) (lv' := [(0, rf X.2.2 0), (2, .int x2), (3, .int x3), (4, .long x4), (6, .int 0)]) [1, 2, 3, 4, 0] rfl ?_
  exact wX6_costAt_158_lp F R N x2 x3 x4 0 s0 h
set_option maxRecDepth 20000 in
theorem wX6_costAt_91 {X : Cx} (F : Fx false X cX6_costAt RX6 7 8 175) {res : Int64 × SS} (R : RL64 false X cX6_costAt 7 res) {N : Nat} {k91 : Int32 → Int32 → Int64 → Int32 → SS → Option (Int64 × SS)} (hk91 : ∀ (x2 : Int32) (x3 : Int32) (x4 : Int64) (x6 : Int32) (σ : SS), k91 x2 x3 x4 x6 σ = some res → G false X 7 91 [(0, rf X.2.2 0), (2, .int x2), (3, .int x3), (4, .long x4), (6, .int x6)] [] σ) : ∀ (x2 : Int32) (x3 : Int32) (x4 : Int64) (x6 : Int32) (s0 : SS), fX6_costAt_91 N k91 x2 x3 x4 x6 s0 = some res → G false X 7 91 [(0, rf X.2.2 0), (2, .int x2), (3, .int x3), (4, .long x4), (6, .int x6)] [] s0 := by
  intro x2 x3 x4 x6 s0 h
  unfold fX6_costAt_91 at h
  refine g_iload F (j := 4) dX6_costAt_91 rfl ?_
  refine g_aload_n F (a := 0) (j := 0) dX6_costAt_93 rfl rfl ?_
  refine gt_X6_67 F (k := 0) pm0 dX6_costAt_94 (v := .int (s0 0 3)) rfl ?_
  refine g_icmp_ge F (tgt := 155) dX6_costAt_97 (by decide) h (fun h => ?_) (fun h => ?_)
  · refine g_sub (lv' := [(0, rf X.2.2 0), (2, .int x2), (3, .int x3), (4, .long x4)]) [0, 1, 2, 3] rfl ?_
    exact wX6_costAt_155 F R x2 x3 x4 s0 h
  · refine g_lload F (j := 3) dX6_costAt_100 rfl ?_
    refine g_lconst F (v := 0) dX6_costAt_102 (by decide) ?_
    refine g_lcmp F dX6_costAt_103 ?_
    refine g_iflt F (tgt := 155) dX6_costAt_104 (by decide) h (fun h => ?_) (fun h => ?_)
    · refine g_sub (lv' := [(0, rf X.2.2 0), (2, .int x2), (3, .int x3), (4, .long x4)]) [0, 1, 2, 3] rfl ?_
      exact wX6_costAt_155 F R x2 x3 x4 s0 h
    · refine g_lload F (j := 3) dX6_costAt_107 rfl ?_
      refine g_aload_n F (a := 0) (j := 0) dX6_costAt_109 rfl rfl ?_
      refine g_iload F (j := 4) dX6_costAt_110 rfl ?_
      refine g_vi F (k := 0) (As := [.int x6]) (rest := [.long x4]) (fun _ q => mX6_isBlock N F.inj  q) mw_X6_isBlock ml_X6_129 rfl ⟨Nat.le_of_ble_eq_true rfl, Nat.le_of_ble_eq_true rfl⟩ pm0 cl6 rfl (Nat.le_of_ble_eq_true rfl) dX6_costAt_112 h (fun v1 s1 h => ?_)
      refine g_ifeq F (tgt := 145) dX6_costAt_115 (by decide) h (fun h => ?_) (fun h => ?_)
      · refine g_sub (lv' := [(0, rf X.2.2 0), (2, .int x2), (3, .int x3), (6, .int x6)]) [0, 1, 2, 4] rfl ?_
        exact wX6_costAt_145 F R hk91 x2 x3 x6 x4 s1 h
      · refine g_aload_n F (a := 0) (j := 0) dX6_costAt_118 rfl rfl ?_
        refine gt_X6_42 F (k := 0) pm0 dX6_costAt_119 (v := rf X.2.2 10) rfl ?_
        refine g_iload F (j := 4) dX6_costAt_122 rfl ?_
        refine g_iald F (k := 10) pm10 dX6_costAt_124 h (fun h => ?_)
        refine g_aload_n F (a := 0) (j := 0) dX6_costAt_125 rfl rfl ?_
        refine gt_X6_28 F (k := 0) pm0 dX6_costAt_126 (v := rf X.2.2 7) rfl ?_
        refine g_iload F (j := 4) dX6_costAt_129 rfl ?_
        refine g_iald F (k := 7) pm7 dX6_costAt_131 h (fun h => ?_)
        refine g_icmp_eq F (tgt := 145) dX6_costAt_132 (by decide) h (fun h => ?_) (fun h => ?_)
        · refine g_sub (lv' := [(0, rf X.2.2 0), (2, .int x2), (3, .int x3), (6, .int x6)]) [0, 1, 2, 4] rfl ?_
          exact wX6_costAt_145 F R hk91 x2 x3 x6 x4 s1 h
        · refine g_aload_n F (a := 0) (j := 0) dX6_costAt_135 rfl rfl ?_
          refine g_iload F (j := 4) dX6_costAt_136 rfl ?_
          refine g_vi F (k := 0) (As := [.int x6]) (rest := [.long x4]) (fun _ q => mX6_costOf N F.inj  q) mw_X6_costOf ml_X6_161 rfl ⟨Nat.le_of_ble_eq_true rfl, Nat.le_of_ble_eq_true rfl⟩ pm0 cl6 rfl (Nat.le_of_ble_eq_true rfl) dX6_costAt_138 h (fun v2 s2 h => ?_)
          refine g_i2l F dX6_costAt_141 ?_
          refine g_goto F (tgt := 146) dX6_costAt_142 (by decide) ?_
          refine g_sub (lv' := [(0, rf X.2.2 0), (2, .int x2), (3, .int x3), (6, .int x6)]) [0, 1, 2, 4] rfl ?_
          exact wX6_costAt_146 F R hk91 x2 x3 x6 (Int32.toInt64 v2) x4 s2 h
theorem wX6_costAt_91_lp {X : Cx} (F : Fx false X cX6_costAt RX6 7 8 175) {res : Int64 × SS} (R : RL64 false X cX6_costAt 7 res) {N : Nat} : ∀ (n : Nat) (x2 : Int32) (x3 : Int32) (x4 : Int64) (x6 : Int32) (s0 : SS), lp (fX6_costAt_91 N) (fun _ _ _ _ _ => none) n x2 x3 x4 x6 s0 = some res → G false X 7 91 [(0, rf X.2.2 0), (2, .int x2), (3, .int x3), (4, .long x4), (6, .int x6)] [] s0 := by
  intro n
  induction n with
  | zero => intro x2 x3 x4 x6 s0 h; cases (show (none : Option (Int64 × SS)) = some res from h)
  | succ n ih => intro x2 x3 x4 x6 s0 h; exact wX6_costAt_91 F R ih x2 x3 x4 x6 s0 h
set_option maxRecDepth 20000 in
theorem wX6_costAt_86 {X : Cx} (F : Fx false X cX6_costAt RX6 7 8 175) {res : Int64 × SS} (R : RL64 false X cX6_costAt 7 res) {N : Nat} : ∀ (x2 : Int32) (x3 : Int32) (t0 : Int64) (s0 : SS), fX6_costAt_86 N x2 x3 t0 s0 = some res → G false X 7 86 [(0, rf X.2.2 0), (2, .int x2), (3, .int x3)] [.long t0] s0 := by
  intro x2 x3 t0 s0 h
  unfold fX6_costAt_86 at h
  refine g_lstore F dX6_costAt_86 (by decide) (lv' := [(0, rf X.2.2 0), (2, .int x2), (3, .int x3), (4, .long t0)]) [1, 2, 3, 0] rfl ?_
  refine g_iconst F (v := 0) dX6_costAt_88 (by decide) ?_
  refine g_istore F dX6_costAt_89 (by decide) (lv' := [(0, rf X.2.2 0), (2, .int x2), (3, .int x3), (4, .long t0), (6, .int 0)]) [1, 2, 3, 4, 0] rfl ?_
  exact wX6_costAt_91_lp F R N x2 x3 t0 0 s0 h
set_option maxRecDepth 20000 in
theorem wX6_costAt_2 {X : Cx} (F : Fx false X cX6_costAt RX6 7 8 175) {res : Int64 × SS} (R : RL64 false X cX6_costAt 7 res) {N : Nat} {k2 : Int32 → Int32 → Int32 → SS → Option (Int64 × SS)} (hk2 : ∀ (x1 : Int32) (x2 : Int32) (x3 : Int32) (σ : SS), k2 x1 x2 x3 σ = some res → G false X 7 2 [(0, rf X.2.2 0), (1, .int x1), (2, .int x2), (3, .int x3)] [] σ) : ∀ (x1 : Int32) (x2 : Int32) (x3 : Int32) (s0 : SS), fX6_costAt_2 N k2 x1 x2 x3 s0 = some res → G false X 7 2 [(0, rf X.2.2 0), (1, .int x1), (2, .int x2), (3, .int x3)] [] s0 := by
  intro x1 x2 x3 s0 h
  unfold fX6_costAt_2 at h
  refine g_iload_n F (j := 3) dX6_costAt_2 rfl rfl ?_
  refine g_aload_n F (a := 0) (j := 0) dX6_costAt_3 rfl rfl ?_
  refine gt_X6_67 F (k := 0) pm0 dX6_costAt_4 (v := .int (s0 0 3)) rfl ?_
  refine g_icmp_ge F (tgt := 56) dX6_costAt_7 (by decide) h (fun h => ?_) (fun h => ?_)
  · refine g_aload_n F (a := 0) (j := 0) dX6_costAt_56 rfl rfl ?_
    refine g_iconst F (v := 0) dX6_costAt_57 (by decide) ?_
    refine pt_X6_109 F (k := 0) pm0 (Nat.le_of_ble_eq_true rfl) rfl dX6_costAt_58 h (fun s1 h => ?_)
    refine g_aload_n F (a := 0) (j := 0) dX6_costAt_61 rfl rfl ?_
    refine g_iload_n F (j := 1) dX6_costAt_62 rfl rfl ?_
    refine pt_X6_112 F (k := 0) pm0 (Nat.le_of_ble_eq_true rfl) rfl dX6_costAt_63 h (fun s2 h => ?_)
    refine g_aload_n F (a := 0) (j := 0) dX6_costAt_66 rfl rfl ?_
    refine g_vi F (k := 0) (As := []) (rest := []) (fun _ q => mX6_search N F.inj  q) mw_X6_search ml_X6_158 rfl ⟨Nat.le_of_ble_eq_true rfl, Nat.le_of_ble_eq_true rfl⟩ pm0 cl6 rfl (Nat.le_of_ble_eq_true rfl) dX6_costAt_67 h (fun v3 s3 h => ?_)
    refine g_istore_n F dX6_costAt_70 rfl (by decide) (lv' := [(0, rf X.2.2 0), (2, .int x2), (3, .int v3)]) [1, 3, 0] rfl ?_
    refine g_aload_n F (a := 0) (j := 0) dX6_costAt_71 rfl rfl ?_
    refine gt_X6_135 F (k := 0) pm0 dX6_costAt_72 (v := .int (s3 0 16)) rfl ?_
    refine g_iconst F (v := (-1)) dX6_costAt_75 (by decide) ?_
    refine g_icmp_ne F (tgt := 85) dX6_costAt_76 (by decide) h (fun h => ?_) (fun h => ?_)
    · refine g_ldc2 F (inr_27 _ (List.mem_of_getElem? (i := 16) rfl)) dX6_costAt_79 ?_
      refine g_goto F (tgt := 86) dX6_costAt_82 (by decide) ?_
      exact wX6_costAt_86 F R x2 v3 (-1) s3 h
    · refine g_lconst F (v := 0) dX6_costAt_85 (by decide) ?_
      exact wX6_costAt_86 F R x2 v3 0 s3 h
  · refine g_aload_n F (a := 0) (j := 0) dX6_costAt_10 rfl rfl ?_
    refine gt_X6_31 F (k := 0) pm0 dX6_costAt_11 (v := rf X.2.2 8) rfl ?_
    refine g_iload_n F (j := 3) dX6_costAt_14 rfl rfl ?_
    refine g_aload_n F (a := 0) (j := 0) dX6_costAt_15 rfl rfl ?_
    refine gt_X6_57 F (k := 0) pm0 dX6_costAt_16 (v := rf X.2.2 15) rfl ?_
    refine g_iload_n F (j := 3) dX6_costAt_19 rfl rfl ?_
    refine g_zald F (k := 15) pm15 dX6_costAt_20 h (fun h => ?_)
    refine g_ifne F (tgt := 44) dX6_costAt_21 (by decide) h (fun h => ?_) (fun h => ?_)
    · refine g_aload_n F (a := 0) (j := 0) dX6_costAt_24 rfl rfl ?_
      refine gt_X6_22 F (k := 0) pm0 dX6_costAt_25 (v := rf X.2.2 5) rfl ?_
      refine g_iload_n F (j := 3) dX6_costAt_28 rfl rfl ?_
      refine g_iald F (k := 5) pm5 dX6_costAt_29 h (fun h => ?_)
      refine g_iconst F (v := 4) dX6_costAt_30 (by decide) ?_
      refine g_icmp_ne F (tgt := 48) dX6_costAt_31 (by decide) h (fun h => ?_) (fun h => ?_)
      · refine g_aload_n F (a := 0) (j := 0) dX6_costAt_34 rfl rfl ?_
        refine gt_X6_25 F (k := 0) pm0 dX6_costAt_35 (v := rf X.2.2 6) rfl ?_
        refine g_iload_n F (j := 3) dX6_costAt_38 rfl rfl ?_
        refine g_iald F (k := 6) pm6 dX6_costAt_39 h (fun h => ?_)
        refine g_iload_n F (j := 2) dX6_costAt_40 rfl rfl ?_
        refine g_icmp_gt F (tgt := 48) dX6_costAt_41 (by decide) h (fun h => ?_) (fun h => ?_)
        · exact wX6_costAt_48 F R hk2 x1 x2 x3 x3 s0 h
        · exact wX6_costAt_44 F R hk2 x1 x2 x3 x3 s0 h
      · exact wX6_costAt_48 F R hk2 x1 x2 x3 x3 s0 h
    · exact wX6_costAt_44 F R hk2 x1 x2 x3 x3 s0 h
theorem wX6_costAt_2_lp {X : Cx} (F : Fx false X cX6_costAt RX6 7 8 175) {res : Int64 × SS} (R : RL64 false X cX6_costAt 7 res) {N : Nat} : ∀ (n : Nat) (x1 : Int32) (x2 : Int32) (x3 : Int32) (s0 : SS), lp (fX6_costAt_2 N) (fun _ _ _ _ => none) n x1 x2 x3 s0 = some res → G false X 7 2 [(0, rf X.2.2 0), (1, .int x1), (2, .int x2), (3, .int x3)] [] s0 := by
  intro n
  induction n with
  | zero => intro x1 x2 x3 s0 h; cases (show (none : Option (Int64 × SS)) = some res from h)
  | succ n ih => intro x1 x2 x3 s0 h; exact wX6_costAt_2 F R ih x1 x2 x3 s0 h
set_option maxRecDepth 20000 in
theorem wX6_costAt_e {X : Cx} (F : Fx false X cX6_costAt RX6 7 8 175) {res : Int64 × SS} (R : RL64 false X cX6_costAt 7 res) {N : Nat} : ∀ (a1 : Int32) (a2 : Int32) (s0 : SS), fX6_costAt N a1 a2 s0 = some res → G false X 7 0 [(0, rf X.2.2 0), (1, .int a1), (2, .int a2)] [] s0 := by
  intro a1 a2 s0 h
  unfold fX6_costAt at h
  refine g_iconst F (v := 0) dX6_costAt_0 (by decide) ?_
  refine g_istore_n F dX6_costAt_1 rfl (by decide) (lv' := [(0, rf X.2.2 0), (1, .int a1), (2, .int a2), (3, .int 0)]) [1, 2, 3, 0] rfl ?_
  exact wX6_costAt_2_lp F R N a1 a2 0 s0 h
theorem mX6_costAt {l : Launch} {w : Wd} (N : Nat) (hi : inj false w)  {res : Int64 × SS} {a1 a2 : Int32} {s0 : SS} (h : fX6_costAt N a1 a2 s0 = some res) : ML false l yX6_costAt cX6_costAt 7 (some .long) { frames := 8, cells := 0, slots := 0, locals := 175 } w [rf w 0, .int a1, .int a2] s0 res := by
  refine mk_l (by decide) hi (Nat.le_of_ble_eq_true rfl) (fun X hX hL F R => ?_)
  subst hX; subst hL
  exact wX6_costAt_e F R a1 a2 s0 h
set_option maxRecDepth 20000 in
theorem wX6_wait_218 {X : Cx} (F : Fx false X cX6_wait RX6 11 9 201) {res : Int32 × SS} (R : RI false X cX6_wait 11 res) {N : Nat} {k98 : Int32 → Int32 → Int64 → Int32 → Int32 → Int32 → SS → Option (Int32 × SS)} (hk98 : ∀ (x1 : Int32) (x2 : Int32) (x3 : Int64) (x5 : Int32) (x6 : Int32) (x7 : Int32) (σ : SS), k98 x1 x2 x3 x5 x6 x7 σ = some res → G false X 11 98 [(0, rf X.2.2 0), (1, .int x1), (2, .int x2), (3, .long x3), (5, .int x5), (6, .int x6), (7, .int x7)] [] σ) : ∀ (x1 : Int32) (x2 : Int32) (x3 : Int64) (x5 : Int32) (x6 : Int32) (x7 : Int32) (s0 : SS), fX6_wait_218 N k98 x1 x2 x3 x5 x6 x7 s0 = some res → G false X 11 218 [(0, rf X.2.2 0), (1, .int x1), (2, .int x2), (3, .long x3), (5, .int x5), (6, .int x6), (7, .int x7)] [] s0 := by
  intro x1 x2 x3 x5 x6 x7 s0 h
  unfold fX6_wait_218 at h
  refine g_iinc F (j := 6) (v := x7 + 1) dX6_wait_218 rfl rfl (by decide) (lv' := [(0, rf X.2.2 0), (1, .int x1), (2, .int x2), (3, .long x3), (5, .int x5), (6, .int x6), (7, .int (x7 + 1))]) [1, 2, 3, 4, 5, 6, 0] rfl ?_
  refine g_goto F (tgt := 98) dX6_wait_221 (by decide) ?_
  exact hk98 x1 x2 x3 x5 x6 (x7 + 1) s0 h
set_option maxRecDepth 20000 in
theorem wX6_wait_206 {X : Cx} (F : Fx false X cX6_wait RX6 11 9 201) {res : Int32 × SS} (R : RI false X cX6_wait 11 res) {N : Nat} {k98 : Int32 → Int32 → Int64 → Int32 → Int32 → Int32 → SS → Option (Int32 × SS)} (hk98 : ∀ (x1 : Int32) (x2 : Int32) (x3 : Int64) (x5 : Int32) (x6 : Int32) (x7 : Int32) (σ : SS), k98 x1 x2 x3 x5 x6 x7 σ = some res → G false X 11 98 [(0, rf X.2.2 0), (1, .int x1), (2, .int x2), (3, .long x3), (5, .int x5), (6, .int x6), (7, .int x7)] [] σ) : ∀ (x1 : Int32) (x2 : Int32) (x6 : Int32) (x7 : Int32) (x8 : Int32) (x9 : Int64) (s0 : SS), fX6_wait_206 N k98 x1 x2 x6 x7 x8 x9 s0 = some res → G false X 11 206 [(0, rf X.2.2 0), (1, .int x1), (2, .int x2), (6, .int x6), (7, .int x7), (8, .int x8), (9, .long x9)] [] s0 := by
  intro x1 x2 x6 x7 x8 x9 s0 h
  unfold fX6_wait_206 at h
  refine g_lload F (j := 6) dX6_wait_206 rfl ?_
  refine g_lstore_n F dX6_wait_208 rfl (by decide) (lv' := [(0, rf X.2.2 0), (1, .int x1), (2, .int x2), (3, .long x9), (6, .int x6), (7, .int x7), (8, .int x8)]) [1, 2, 3, 0, 4, 5, 6] rfl ?_
  refine g_iload F (j := 6) dX6_wait_209 rfl ?_
  refine g_aload_n F (a := 0) (j := 0) dX6_wait_211 rfl rfl ?_
  refine gt_X6_77 F (k := 0) pm0 dX6_wait_212 (v := .int (s0 0 10)) rfl ?_
  refine g_isub F dX6_wait_215 ?_
  refine g_istore F dX6_wait_216 (by decide) (lv' := [(0, rf X.2.2 0), (1, .int x1), (2, .int x2), (3, .long x9), (5, .int (x8 - (s0 0 10))), (6, .int x6), (7, .int x7)]) [1, 2, 3, 4, 0, 5, 6] rfl ?_
  exact wX6_wait_218 F R hk98 x1 x2 x9 (x8 - (s0 0 10)) x6 x7 s0 h
set_option maxRecDepth 20000 in
theorem wX6_wait_165 {X : Cx} (F : Fx false X cX6_wait RX6 11 9 201) {res : Int32 × SS} (R : RI false X cX6_wait 11 res) {N : Nat} {k98 : Int32 → Int32 → Int64 → Int32 → Int32 → Int32 → SS → Option (Int32 × SS)} (hk98 : ∀ (x1 : Int32) (x2 : Int32) (x3 : Int64) (x5 : Int32) (x6 : Int32) (x7 : Int32) (σ : SS), k98 x1 x2 x3 x5 x6 x7 σ = some res → G false X 11 98 [(0, rf X.2.2 0), (1, .int x1), (2, .int x2), (3, .long x3), (5, .int x5), (6, .int x6), (7, .int x7)] [] σ) : ∀ (x1 : Int32) (x2 : Int32) (x3 : Int64) (x5 : Int32) (x7 : Int32) (x8 : Int32) (x9 : Int64) (t0 : Int32) (s0 : SS), fX6_wait_165 N k98 x1 x2 x3 x5 x7 x8 x9 t0 s0 = some res → G false X 11 165 [(0, rf X.2.2 0), (1, .int x1), (2, .int x2), (3, .long x3), (5, .int x5), (7, .int x7), (8, .int x8), (9, .long x9)] [.int t0] s0 := by
  intro x1 x2 x3 x5 x7 x8 x9 t0 s0 h
  unfold fX6_wait_165 at h
  refine g_istore F dX6_wait_165 (by decide) (lv' := [(0, rf X.2.2 0), (1, .int x1), (2, .int x2), (3, .long x3), (5, .int x5), (6, .int t0), (7, .int x7), (8, .int x8), (9, .long x9)]) [1, 2, 3, 4, 5, 0, 6, 7, 8] rfl ?_
  refine g_lload F (j := 8) dX6_wait_167 rfl ?_
  refine g_lconst F (v := 0) dX6_wait_169 (by decide) ?_
  refine g_lcmp F dX6_wait_170 ?_
  refine g_iflt F (tgt := 218) dX6_wait_171 (by decide) h (fun h => ?_) (fun h => ?_)
  · refine g_sub (lv' := [(0, rf X.2.2 0), (1, .int x1), (2, .int x2), (3, .long x3), (5, .int x5), (6, .int t0), (7, .int x7)]) [0, 1, 2, 3, 4, 5, 6] rfl ?_
    exact wX6_wait_218 F R hk98 x1 x2 x3 x5 t0 x7 s0 h
  · refine g_iload F (j := 4) dX6_wait_174 rfl ?_
    refine g_iconst F (v := (-1)) dX6_wait_176 (by decide) ?_
    refine g_icmp_eq F (tgt := 206) dX6_wait_177 (by decide) h (fun h => ?_) (fun h => ?_)
    · refine g_sub (lv' := [(0, rf X.2.2 0), (1, .int x1), (2, .int x2), (6, .int t0), (7, .int x7), (8, .int x8), (9, .long x9)]) [0, 1, 2, 5, 6, 7, 8] rfl ?_
      exact wX6_wait_206 F R hk98 x1 x2 t0 x7 x8 x9 s0 h
    · refine g_lload F (j := 8) dX6_wait_180 rfl ?_
      refine g_lload_n F (j := 3) dX6_wait_182 rfl rfl ?_
      refine g_lcmp F dX6_wait_183 ?_
      refine g_iflt F (tgt := 206) dX6_wait_184 (by decide) h (fun h => ?_) (fun h => ?_)
      · refine g_sub (lv' := [(0, rf X.2.2 0), (1, .int x1), (2, .int x2), (6, .int t0), (7, .int x7), (8, .int x8), (9, .long x9)]) [0, 1, 2, 5, 6, 7, 8] rfl ?_
        exact wX6_wait_206 F R hk98 x1 x2 t0 x7 x8 x9 s0 h
      · refine g_lload F (j := 8) dX6_wait_187 rfl ?_
        refine g_lload_n F (j := 3) dX6_wait_189 rfl rfl ?_
        refine g_lcmp F dX6_wait_190 ?_
        refine g_ifne F (tgt := 218) dX6_wait_191 (by decide) h (fun h => ?_) (fun h => ?_)
        · refine g_iload F (j := 7) dX6_wait_194 rfl ?_
          refine g_aload_n F (a := 0) (j := 0) dX6_wait_196 rfl rfl ?_
          refine gt_X6_77 F (k := 0) pm0 dX6_wait_197 (v := .int (s0 0 10)) rfl ?_
          refine g_isub F dX6_wait_200 ?_
          refine g_iload F (j := 4) dX6_wait_201 rfl ?_
          refine g_icmp_ge F (tgt := 218) dX6_wait_203 (by decide) h (fun h => ?_) (fun h => ?_)
          · refine g_sub (lv' := [(0, rf X.2.2 0), (1, .int x1), (2, .int x2), (3, .long x3), (5, .int x5), (6, .int t0), (7, .int x7)]) [0, 1, 2, 3, 4, 5, 6] rfl ?_
            exact wX6_wait_218 F R hk98 x1 x2 x3 x5 t0 x7 s0 h
          · refine g_sub (lv' := [(0, rf X.2.2 0), (1, .int x1), (2, .int x2), (6, .int t0), (7, .int x7), (8, .int x8), (9, .long x9)]) [0, 1, 2, 5, 6, 7, 8] rfl ?_
            exact wX6_wait_206 F R hk98 x1 x2 t0 x7 x8 x9 s0 h
        · refine g_sub (lv' := [(0, rf X.2.2 0), (1, .int x1), (2, .int x2), (3, .long x3), (5, .int x5), (6, .int t0), (7, .int x7)]) [0, 1, 2, 3, 4, 5, 6] rfl ?_
          exact wX6_wait_218 F R hk98 x1 x2 x3 x5 t0 x7 s0 h
set_option maxRecDepth 20000 in
theorem wX6_wait_241 {X : Cx} (F : Fx false X cX6_wait RX6 11 9 201) {res : Int32 × SS} (R : RI false X cX6_wait 11 res) {N : Nat} : ∀ (t0 : Int32) (s0 : SS), fX6_wait_241 N t0 s0 = some res → G false X 11 241 [] [.int t0] s0 := by
  intro t0 s0 h
  unfold fX6_wait_241 at h
  exact R _ _ _ _ dX6_wait_241 h
set_option maxRecDepth 20000 in
theorem wX6_wait_224 {X : Cx} (F : Fx false X cX6_wait RX6 11 9 201) {res : Int32 × SS} (R : RI false X cX6_wait 11 res) {N : Nat} : ∀ (x2 : Int32) (x5 : Int32) (x6 : Int32) (s0 : SS), fX6_wait_224 N x2 x5 x6 s0 = some res → G false X 11 224 [(0, rf X.2.2 0), (2, .int x2), (5, .int x5), (6, .int x6)] [] s0 := by
  intro x2 x5 x6 s0 h
  unfold fX6_wait_224 at h
  refine g_aload_n F (a := 0) (j := 0) dX6_wait_224 rfl rfl ?_
  refine g_iload_n F (j := 1) dX6_wait_225 rfl rfl ?_
  refine pt_X6_132 F (k := 0) pm0 (Nat.le_of_ble_eq_true rfl) rfl dX6_wait_226 h (fun s1 h => ?_)
  refine g_iload F (j := 3) dX6_wait_229 rfl ?_
  refine g_ifeq F (tgt := 239) dX6_wait_231 (by decide) h (fun h => ?_) (fun h => ?_)
  · refine g_iload F (j := 2) dX6_wait_239 rfl ?_
    refine g_sub (lv' := []) [] rfl ?_
    exact wX6_wait_241 F R x5 s1 h
  · refine g_bipush F (v := (-5)) dX6_wait_234 (by decide) ?_
    refine g_goto F (tgt := 241) dX6_wait_236 (by decide) ?_
    refine g_sub (lv' := []) [] rfl ?_
    exact wX6_wait_241 F R (-5) s1 h
set_option maxRecDepth 20000 in
theorem wX6_wait_98 {X : Cx} (F : Fx false X cX6_wait RX6 11 9 201) {res : Int32 × SS} (R : RI false X cX6_wait 11 res) {N : Nat} {k98 : Int32 → Int32 → Int64 → Int32 → Int32 → Int32 → SS → Option (Int32 × SS)} (hk98 : ∀ (x1 : Int32) (x2 : Int32) (x3 : Int64) (x5 : Int32) (x6 : Int32) (x7 : Int32) (σ : SS), k98 x1 x2 x3 x5 x6 x7 σ = some res → G false X 11 98 [(0, rf X.2.2 0), (1, .int x1), (2, .int x2), (3, .long x3), (5, .int x5), (6, .int x6), (7, .int x7)] [] σ) : ∀ (x1 : Int32) (x2 : Int32) (x3 : Int64) (x5 : Int32) (x6 : Int32) (x7 : Int32) (s0 : SS), fX6_wait_98 N k98 x1 x2 x3 x5 x6 x7 s0 = some res → G false X 11 98 [(0, rf X.2.2 0), (1, .int x1), (2, .int x2), (3, .long x3), (5, .int x5), (6, .int x6), (7, .int x7)] [] s0 := by
  intro x1 x2 x3 x5 x6 x7 s0 h
  unfold fX6_wait_98 at h
  refine g_iload F (j := 6) dX6_wait_98 rfl ?_
  refine g_aload_n F (a := 0) (j := 0) dX6_wait_100 rfl rfl ?_
  refine gt_X6_67 F (k := 0) pm0 dX6_wait_101 (v := .int (s0 0 3)) rfl ?_
  refine g_icmp_ge F (tgt := 224) dX6_wait_104 (by decide) h (fun h => ?_) (fun h => ?_)
  · refine g_sub (lv' := [(0, rf X.2.2 0), (2, .int x2), (5, .int x5), (6, .int x6)]) [0, 2, 4, 5] rfl ?_
    exact wX6_wait_224 F R x2 x5 x6 s0 h
  · refine g_iload F (j := 5) dX6_wait_107 rfl ?_
    refine g_ifne F (tgt := 224) dX6_wait_109 (by decide) h (fun h => ?_) (fun h => ?_)
    · refine g_aload_n F (a := 0) (j := 0) dX6_wait_112 rfl rfl ?_
      refine gt_X6_57 F (k := 0) pm0 dX6_wait_113 (v := rf X.2.2 15) rfl ?_
      refine g_iload F (j := 6) dX6_wait_116 rfl ?_
      refine g_zald F (k := 15) pm15 dX6_wait_118 h (fun h => ?_)
      refine g_ifne F (tgt := 218) dX6_wait_119 (by decide) h (fun h => ?_) (fun h => ?_)
      · refine g_aload_n F (a := 0) (j := 0) dX6_wait_122 rfl rfl ?_
        refine gt_X6_22 F (k := 0) pm0 dX6_wait_123 (v := rf X.2.2 5) rfl ?_
        refine g_iload F (j := 6) dX6_wait_126 rfl ?_
        refine g_iald F (k := 5) pm5 dX6_wait_128 h (fun h => ?_)
        refine g_iconst F (v := 4) dX6_wait_129 (by decide) ?_
        refine g_icmp_ne F (tgt := 218) dX6_wait_130 (by decide) h (fun h => ?_) (fun h => ?_)
        · refine g_aload_n F (a := 0) (j := 0) dX6_wait_133 rfl rfl ?_
          refine gt_X6_25 F (k := 0) pm0 dX6_wait_134 (v := rf X.2.2 6) rfl ?_
          refine g_iload F (j := 6) dX6_wait_137 rfl ?_
          refine g_iald F (k := 6) pm6 dX6_wait_139 h (fun h => ?_)
          refine g_istore F dX6_wait_140 (by decide) (lv' := [(0, rf X.2.2 0), (1, .int x1), (2, .int x2), (3, .long x3), (5, .int x5), (7, .int x7), (8, .int (s0 6 (Int32.toNatClampNeg x7)))]) [1, 2, 3, 4, 5, 7, 0] rfl ?_
          refine g_aload_n F (a := 0) (j := 0) dX6_wait_142 rfl rfl ?_
          refine g_iload_n F (j := 1) dX6_wait_143 rfl rfl ?_
          refine g_iload F (j := 6) dX6_wait_144 rfl ?_
          refine g_vl F (k := 0) (As := [.int x1, .int (s0 6 (Int32.toNatClampNeg x7))]) (rest := []) (fun _ q => mX6_costAt N F.inj  q) mw_X6_costAt ml_X6_200 rfl ⟨Nat.le_of_ble_eq_true rfl, Nat.le_of_ble_eq_true rfl⟩ pm0 cl6 rfl (Nat.le_of_ble_eq_true rfl) dX6_wait_146 h (fun v1 s1 h => ?_)
          refine g_lstore F dX6_wait_149 (by decide) (lv' := [(0, rf X.2.2 0), (1, .int x1), (2, .int x2), (3, .long x3), (5, .int x5), (7, .int x7), (8, .int (s0 6 (Int32.toNatClampNeg x7))), (9, .long v1)]) [1, 2, 3, 4, 5, 6, 7, 0] rfl ?_
          refine g_lload F (j := 7) dX6_wait_151 rfl ?_
          refine g_ldc2 F (inr_27 _ (List.mem_of_getElem? (i := 17) rfl)) dX6_wait_153 ?_
          refine g_lcmp F dX6_wait_156 ?_
          refine g_ifne F (tgt := 164) dX6_wait_157 (by decide) h (fun h => ?_) (fun h => ?_)
          · refine g_iconst F (v := 1) dX6_wait_160 (by decide) ?_
            refine g_goto F (tgt := 165) dX6_wait_161 (by decide) ?_
            exact wX6_wait_165 F R hk98 x1 x2 x3 x5 x7 (s0 6 (Int32.toNatClampNeg x7)) v1 1 s1 h
          · refine g_iconst F (v := 0) dX6_wait_164 (by decide) ?_
            exact wX6_wait_165 F R hk98 x1 x2 x3 x5 x7 (s0 6 (Int32.toNatClampNeg x7)) v1 0 s1 h
        · exact wX6_wait_218 F R hk98 x1 x2 x3 x5 x6 x7 s0 h
      · exact wX6_wait_218 F R hk98 x1 x2 x3 x5 x6 x7 s0 h
    · refine g_sub (lv' := [(0, rf X.2.2 0), (2, .int x2), (5, .int x5), (6, .int x6)]) [0, 2, 4, 5] rfl ?_
      exact wX6_wait_224 F R x2 x5 x6 s0 h
theorem wX6_wait_98_lp {X : Cx} (F : Fx false X cX6_wait RX6 11 9 201) {res : Int32 × SS} (R : RI false X cX6_wait 11 res) {N : Nat} : ∀ (n : Nat) (x1 : Int32) (x2 : Int32) (x3 : Int64) (x5 : Int32) (x6 : Int32) (x7 : Int32) (s0 : SS), lp (fX6_wait_98 N) (fun _ _ _ _ _ _ _ => none) n x1 x2 x3 x5 x6 x7 s0 = some res → G false X 11 98 [(0, rf X.2.2 0), (1, .int x1), (2, .int x2), (3, .long x3), (5, .int x5), (6, .int x6), (7, .int x7)] [] s0 := by
  intro n
  induction n with
  | zero => intro x1 x2 x3 x5 x6 x7 s0 h; cases (show (none : Option (Int32 × SS)) = some res from h)
  | succ n ih => intro x1 x2 x3 x5 x6 x7 s0 h; exact wX6_wait_98 F R ih x1 x2 x3 x5 x6 x7 s0 h
set_option maxRecDepth 20000 in
theorem wX6_wait_93 {X : Cx} (F : Fx false X cX6_wait RX6 11 9 201) {res : Int32 × SS} (R : RI false X cX6_wait 11 res) {N : Nat} : ∀ (x1 : Int32) (x2 : Int32) (x3 : Int64) (x5 : Int32) (t0 : Int32) (s0 : SS), fX6_wait_93 N x1 x2 x3 x5 t0 s0 = some res → G false X 11 93 [(0, rf X.2.2 0), (1, .int x1), (2, .int x2), (3, .long x3), (5, .int x5)] [.int t0] s0 := by
  intro x1 x2 x3 x5 t0 s0 h
  unfold fX6_wait_93 at h
  refine g_istore F dX6_wait_93 (by decide) (lv' := [(0, rf X.2.2 0), (1, .int x1), (2, .int x2), (3, .long x3), (5, .int x5), (6, .int t0)]) [1, 2, 3, 4, 5, 0] rfl ?_
  refine g_iconst F (v := 0) dX6_wait_95 (by decide) ?_
  refine g_istore F dX6_wait_96 (by decide) (lv' := [(0, rf X.2.2 0), (1, .int x1), (2, .int x2), (3, .long x3), (5, .int x5), (6, .int t0), (7, .int 0)]) [1, 2, 3, 4, 5, 6, 0] rfl ?_
  exact wX6_wait_98_lp F R N x1 x2 x3 x5 t0 0 s0 h
set_option maxRecDepth 20000 in
theorem wX6_wait_78 {X : Cx} (F : Fx false X cX6_wait RX6 11 9 201) {res : Int32 × SS} (R : RI false X cX6_wait 11 res) {N : Nat} : ∀ (x1 : Int32) (x2 : Int32) (x3 : Int64) (t0 : Int32) (s0 : SS), fX6_wait_78 N x1 x2 x3 t0 s0 = some res → G false X 11 78 [(0, rf X.2.2 0), (1, .int x1), (2, .int x2), (3, .long x3)] [.int t0] s0 := by
  intro x1 x2 x3 t0 s0 h
  unfold fX6_wait_78 at h
  refine g_istore F dX6_wait_78 (by decide) (lv' := [(0, rf X.2.2 0), (1, .int x1), (2, .int x2), (3, .long x3), (5, .int t0)]) [1, 2, 3, 4, 0] rfl ?_
  refine g_lload_n F (j := 3) dX6_wait_80 rfl rfl ?_
  refine g_ldc2 F (inr_27 _ (List.mem_of_getElem? (i := 17) rfl)) dX6_wait_81 ?_
  refine g_lcmp F dX6_wait_84 ?_
  refine g_ifne F (tgt := 92) dX6_wait_85 (by decide) h (fun h => ?_) (fun h => ?_)
  · refine g_iconst F (v := 1) dX6_wait_88 (by decide) ?_
    refine g_goto F (tgt := 93) dX6_wait_89 (by decide) ?_
    exact wX6_wait_93 F R x1 x2 x3 t0 1 s0 h
  · refine g_iconst F (v := 0) dX6_wait_92 (by decide) ?_
    exact wX6_wait_93 F R x1 x2 x3 t0 0 s0 h
set_option maxRecDepth 20000 in
theorem wX6_wait_29 {X : Cx} (F : Fx false X cX6_wait RX6 11 9 201) {res : Int32 × SS} (R : RI false X cX6_wait 11 res) {N : Nat} {k29 : Int32 → Int32 → Int32 → SS → Option (Int32 × SS)} (hk29 : ∀ (x1 : Int32) (x2 : Int32) (x3 : Int32) (σ : SS), k29 x1 x2 x3 σ = some res → G false X 11 29 [(0, rf X.2.2 0), (1, .int x1), (2, .int x2), (3, .int x3)] [] σ) : ∀ (x1 : Int32) (x2 : Int32) (x3 : Int32) (s0 : SS), fX6_wait_29 N k29 x1 x2 x3 s0 = some res → G false X 11 29 [(0, rf X.2.2 0), (1, .int x1), (2, .int x2), (3, .int x3)] [] s0 := by
  intro x1 x2 x3 s0 h
  unfold fX6_wait_29 at h
  refine g_iload_n F (j := 3) dX6_wait_29 rfl rfl ?_
  refine g_aload_n F (a := 0) (j := 0) dX6_wait_30 rfl rfl ?_
  refine gt_X6_67 F (k := 0) pm0 dX6_wait_31 (v := .int (s0 0 3)) rfl ?_
  refine g_icmp_ge F (tgt := 55) dX6_wait_34 (by decide) h (fun h => ?_) (fun h => ?_)
  · refine g_aload_n F (a := 0) (j := 0) dX6_wait_55 rfl rfl ?_
    refine g_iload_n F (j := 1) dX6_wait_56 rfl rfl ?_
    refine g_aload_n F (a := 0) (j := 0) dX6_wait_57 rfl rfl ?_
    refine gt_X6_77 F (k := 0) pm0 dX6_wait_58 (v := .int (s0 0 10)) rfl ?_
    refine g_vl F (k := 0) (As := [.int x1, .int (s0 0 10)]) (rest := []) (fun _ q => mX6_costAt N F.inj  q) mw_X6_costAt ml_X6_200 rfl ⟨Nat.le_of_ble_eq_true rfl, Nat.le_of_ble_eq_true rfl⟩ pm0 cl6 rfl (Nat.le_of_ble_eq_true rfl) dX6_wait_61 h (fun v1 s1 h => ?_)
    refine g_lstore_n F dX6_wait_64 rfl (by decide) (lv' := [(0, rf X.2.2 0), (1, .int x1), (2, .int x2), (3, .long v1)]) [1, 2, 3, 0] rfl ?_
    refine g_lload_n F (j := 3) dX6_wait_65 rfl rfl ?_
    refine g_ldc2 F (inr_27 _ (List.mem_of_getElem? (i := 16) rfl)) dX6_wait_66 ?_
    refine g_lcmp F dX6_wait_69 ?_
    refine g_ifne F (tgt := 77) dX6_wait_70 (by decide) h (fun h => ?_) (fun h => ?_)
    · refine g_iconst F (v := (-1)) dX6_wait_73 (by decide) ?_
      refine g_goto F (tgt := 78) dX6_wait_74 (by decide) ?_
      exact wX6_wait_78 F R x1 x2 v1 (-1) s1 h
    · refine g_iconst F (v := 0) dX6_wait_77 (by decide) ?_
      exact wX6_wait_78 F R x1 x2 v1 0 s1 h
  · refine g_aload_n F (a := 0) (j := 0) dX6_wait_37 rfl rfl ?_
    refine gt_X6_57 F (k := 0) pm0 dX6_wait_38 (v := rf X.2.2 15) rfl ?_
    refine g_iload_n F (j := 3) dX6_wait_41 rfl rfl ?_
    refine g_aload_n F (a := 0) (j := 0) dX6_wait_42 rfl rfl ?_
    refine gt_X6_31 F (k := 0) pm0 dX6_wait_43 (v := rf X.2.2 8) rfl ?_
    refine g_iload_n F (j := 3) dX6_wait_46 rfl rfl ?_
    refine g_zald F (k := 8) pm8 dX6_wait_47 h (fun h => ?_)
    refine g_zast F (k := 15) pm15 dX6_wait_48 h (fun s2 h => ?_)
    refine g_iinc F (j := 3) (v := x3 + 1) dX6_wait_49 rfl rfl (by decide) (lv' := [(0, rf X.2.2 0), (1, .int x1), (2, .int x2), (3, .int (x3 + 1))]) [1, 2, 3, 0] rfl ?_
    refine g_goto F (tgt := 29) dX6_wait_52 (by decide) ?_
    exact hk29 x1 x2 (x3 + 1) s2 h
theorem wX6_wait_29_lp {X : Cx} (F : Fx false X cX6_wait RX6 11 9 201) {res : Int32 × SS} (R : RI false X cX6_wait 11 res) {N : Nat} : ∀ (n : Nat) (x1 : Int32) (x2 : Int32) (x3 : Int32) (s0 : SS), lp (fX6_wait_29 N) (fun _ _ _ _ => none) n x1 x2 x3 s0 = some res → G false X 11 29 [(0, rf X.2.2 0), (1, .int x1), (2, .int x2), (3, .int x3)] [] s0 := by
  intro n
  induction n with
  | zero => intro x1 x2 x3 s0 h; cases (show (none : Option (Int32 × SS)) = some res from h)
  | succ n ih => intro x1 x2 x3 s0 h; exact wX6_wait_29 F R ih x1 x2 x3 s0 h
set_option maxRecDepth 20000 in
theorem wX6_wait_e {X : Cx} (F : Fx false X cX6_wait RX6 11 9 201) {res : Int32 × SS} (R : RI false X cX6_wait 11 res) {N : Nat} : ∀ (a1 : Int32) (s0 : SS), fX6_wait N a1 s0 = some res → G false X 11 0 [(0, rf X.2.2 0), (1, .int a1)] [] s0 := by
  intro a1 s0 h
  unfold fX6_wait at h
  refine g_aload_n F (a := 0) (j := 0) dX6_wait_0 rfl rfl ?_
  refine g_iload_n F (j := 1) dX6_wait_1 rfl rfl ?_
  refine g_vi F (k := 0) (As := [.int a1]) (rest := []) (fun _ q => mX6_isMachine N F.inj  q) mw_X6_isMachine ml_X6_73 rfl ⟨Nat.le_of_ble_eq_true rfl, Nat.le_of_ble_eq_true rfl⟩ pm0 cl6 rfl (Nat.le_of_ble_eq_true rfl) dX6_wait_2 h (fun v1 s1 h => ?_)
  refine g_ifne F (tgt := 11) dX6_wait_5 (by decide) h (fun h => ?_) (fun h => ?_)
  · refine g_bipush F (v := (-2)) dX6_wait_8 (by decide) ?_
    exact R _ _ _ _ dX6_wait_10 h
  · refine g_aload_n F (a := 0) (j := 0) dX6_wait_11 rfl rfl ?_
    refine g_iload_n F (j := 1) dX6_wait_12 rfl rfl ?_
    refine g_vi F (k := 0) (As := [.int a1]) (rest := []) (fun _ q => mX6_many N F.inj  q) mw_X6_many ml_X6_106 rfl ⟨Nat.le_of_ble_eq_true rfl, Nat.le_of_ble_eq_true rfl⟩ pm0 cl6 rfl (Nat.le_of_ble_eq_true rfl) dX6_wait_13 h (fun v2 s2 h => ?_)
    refine g_ifne F (tgt := 22) dX6_wait_16 (by decide) h (fun h => ?_) (fun h => ?_)
    · refine g_bipush F (v := (-3)) dX6_wait_19 (by decide) ?_
      exact R _ _ _ _ dX6_wait_21 h
    · refine g_aload_n F (a := 0) (j := 0) dX6_wait_22 rfl rfl ?_
      refine gt_X6_132 F (k := 0) pm0 dX6_wait_23 (v := .int (s2 0 13)) rfl ?_
      refine g_istore_n F dX6_wait_26 rfl (by decide) (lv' := [(0, rf X.2.2 0), (1, .int a1), (2, .int (s2 0 13))]) [1, 2, 0] rfl ?_
      refine g_iconst F (v := 0) dX6_wait_27 (by decide) ?_
      refine g_istore_n F dX6_wait_28 rfl (by decide) (lv' := [(0, rf X.2.2 0), (1, .int a1), (2, .int (s2 0 13)), (3, .int 0)]) [1, 2, 3, 0] rfl ?_
      exact wX6_wait_29_lp F R N a1 (s2 0 13) 0 s2 h
theorem mX6_wait {l : Launch} {w : Wd} (N : Nat) (hi : inj false w)  {res : Int32 × SS} {a1 : Int32} {s0 : SS} (h : fX6_wait N a1 s0 = some res) : MI false l yX6_wait cX6_wait 11 (some .int) { frames := 9, cells := 0, slots := 0, locals := 201 } w [rf w 0, .int a1] s0 res := by
  refine mk_i (by decide) hi (Nat.le_of_ble_eq_true rfl) (fun X hX hL F R => ?_)
  subst hX; subst hL
  exact wX6_wait_e F R a1 s0 h
set_option maxRecDepth 20000 in
theorem wX1_working_28 {X : Cx} (F : Fx true X cX1_working RX1 3 0 0) {res : Int32 × SS} (R : RI true X cX1_working 3 res) {N : Nat} {r : Nat} (hr : isRow X.2.2 r) {k4 : Int32 → Int32 → SS → Option (Int32 × SS)} (hk4 : ∀ (x1 : Int32) (x2 : Int32) (σ : SS), k4 x1 x2 σ = some res → G true X 3 4 [(0, rf X.2.2 r), (1, .int x1), (2, .int x2)] [] σ) : ∀ (x1 : Int32) (x2 : Int32) (s0 : SS), fX1_working_28 N r k4 x1 x2 s0 = some res → G true X 3 28 [(0, rf X.2.2 r), (1, .int x1), (2, .int x2)] [] s0 := by
  intro x1 x2 s0 h
  unfold fX1_working_28 at h
  refine g_iinc F (j := 2) (v := x2 + 1) dX1_working_28 rfl rfl (by decide) (lv' := [(0, rf X.2.2 r), (1, .int x1), (2, .int (x2 + 1))]) [1, 2, 0] rfl ?_
  refine g_goto F (tgt := 4) dX1_working_31 (by decide) ?_
  exact hk4 x1 (x2 + 1) s0 h
set_option maxRecDepth 20000 in
theorem wX1_working_4 {X : Cx} (F : Fx true X cX1_working RX1 3 0 0) {res : Int32 × SS} (R : RI true X cX1_working 3 res) {N : Nat} {r : Nat} (hr : isRow X.2.2 r) {k4 : Int32 → Int32 → SS → Option (Int32 × SS)} (hk4 : ∀ (x1 : Int32) (x2 : Int32) (σ : SS), k4 x1 x2 σ = some res → G true X 3 4 [(0, rf X.2.2 r), (1, .int x1), (2, .int x2)] [] σ) : ∀ (x1 : Int32) (x2 : Int32) (s0 : SS), fX1_working_4 N r k4 x1 x2 s0 = some res → G true X 3 4 [(0, rf X.2.2 r), (1, .int x1), (2, .int x2)] [] s0 := by
  intro x1 x2 s0 h
  unfold fX1_working_4 at h
  refine g_iload_n F (j := 2) dX1_working_4 rfl rfl ?_
  refine g_aload_n F (a := r) (j := 0) dX1_working_5 rfl rfl ?_
  refine gt_X1_31 F (k := r) hr.1 dX1_working_6 (v := rf X.2.2 1) rfl ?_
  refine gt_X1_74 F (k := 1) pc1 dX1_working_9 (v := .int (s0 1 1)) rfl ?_
  refine g_icmp_ge F (tgt := 34) dX1_working_12 (by decide) h (fun h => ?_) (fun h => ?_)
  · refine g_iload_n F (j := 1) dX1_working_34 rfl rfl ?_
    exact R _ _ _ _ dX1_working_35 h
  · refine g_aload_n F (a := r) (j := 0) dX1_working_15 rfl rfl ?_
    refine gt_X1_9 F (k := r) hr.1 dX1_working_16 (v := rf X.2.2 (r + 1)) rfl ?_
    refine g_iload_n F (j := 2) dX1_working_19 rfl rfl ?_
    refine g_iald F (k := (r + 1)) hr.2.1 dX1_working_20 h (fun h => ?_)
    refine g_iconst F (v := (-1)) dX1_working_21 (by decide) ?_
    refine g_icmp_eq F (tgt := 28) dX1_working_22 (by decide) h (fun h => ?_) (fun h => ?_)
    · exact wX1_working_28 F R hr hk4 x1 x2 s0 h
    · refine g_iinc F (j := 1) (v := x1 + 1) dX1_working_25 rfl rfl (by decide) (lv' := [(0, rf X.2.2 r), (1, .int (x1 + 1)), (2, .int x2)]) [1, 0, 2] rfl ?_
      exact wX1_working_28 F R hr hk4 (x1 + 1) x2 s0 h
theorem wX1_working_4_lp {X : Cx} (F : Fx true X cX1_working RX1 3 0 0) {res : Int32 × SS} (R : RI true X cX1_working 3 res) {N : Nat} {r : Nat} (hr : isRow X.2.2 r) : ∀ (n : Nat) (x1 : Int32) (x2 : Int32) (s0 : SS), lp (fX1_working_4 N r) (fun _ _ _ => none) n x1 x2 s0 = some res → G true X 3 4 [(0, rf X.2.2 r), (1, .int x1), (2, .int x2)] [] s0 := by
  intro n
  induction n with
  | zero => intro x1 x2 s0 h; cases (show (none : Option (Int32 × SS)) = some res from h)
  | succ n ih => intro x1 x2 s0 h; exact wX1_working_4 F R hr ih x1 x2 s0 h
set_option maxRecDepth 20000 in
theorem wX1_working_e {X : Cx} (F : Fx true X cX1_working RX1 3 0 0) {res : Int32 × SS} (R : RI true X cX1_working 3 res) {N : Nat} {r : Nat} (hr : isRow X.2.2 r) : ∀  (s0 : SS), fX1_working N r s0 = some res → G true X 3 0 [(0, rf X.2.2 r)] [] s0 := by
  intro  s0 h
  unfold fX1_working at h
  refine g_iconst F (v := 0) dX1_working_0 (by decide) ?_
  refine g_istore_n F dX1_working_1 rfl (by decide) (lv' := [(0, rf X.2.2 r), (1, .int 0)]) [1, 0] rfl ?_
  refine g_iconst F (v := 0) dX1_working_2 (by decide) ?_
  refine g_istore_n F dX1_working_3 rfl (by decide) (lv' := [(0, rf X.2.2 r), (1, .int 0), (2, .int 0)]) [1, 2, 0] rfl ?_
  exact wX1_working_4_lp F R hr N 0 0 s0 h
theorem mX1_working {l : Launch} {w : Wd} (N : Nat) (hi : inj true w) {r : Nat} (hr : isRow w r) {res : Int32 × SS} {s0 : SS} (h : fX1_working N r s0 = some res) : MI true l yX1_working cX1_working 3 (some .int) { frames := 0, cells := 0, slots := 0, locals := 0 } w [rf w r] s0 res := by
  refine mk_i (by decide) hi (Nat.le_of_ble_eq_true rfl) (fun X hX hL F R => ?_)
  subst hX; subst hL
  exact wX1_working_e F R hr s0 h
set_option maxRecDepth 20000 in
theorem wX5_count_e {X : Cx} (F : Fx true X cX5_count RX5 2 1 22) {res : Int32 × SS} (R : RI true X cX5_count 2 res) {N : Nat} : ∀ (a1 : Int32) (s0 : SS), fX5_count N a1 s0 = some res → G true X 2 0 [(0, rf X.2.2 0), (1, .int a1)] [] s0 := by
  intro a1 s0 h
  unfold fX5_count at h
  refine g_iload_n F (j := 1) dX5_count_0 rfl rfl ?_
  have ex : a1 = a1 := rfl
  by_cases c0 : a1 = 0
  · rw [if_pos c0] at h
    refine g_tabIn F (tgt := 44) (off := 43) dX5_count_1 (by rw [c0]; decide) (by rw [c0]; decide) (by rw [c0]; rfl) (by decide) ?_
    refine g_aload_n F (a := 0) (j := 0) dX5_count_44 rfl rfl ?_
    refine gt_X5_10 F (k := 0) pc0 dX5_count_45 (v := rf X.2.2 1) rfl ?_
    refine gt_X5_75 F (k := 1) pc1 dX5_count_48 (v := .int (s0 1 0)) rfl ?_
    exact R _ _ _ _ dX5_count_51 h
  rw [if_neg c0] at h
  by_cases c1 : a1 = 1
  · rw [if_pos c1] at h
    refine g_tabIn F (tgt := 52) (off := 51) dX5_count_1 (by rw [c1]; decide) (by rw [c1]; decide) (by rw [c1]; rfl) (by decide) ?_
    refine g_aload_n F (a := 0) (j := 0) dX5_count_52 rfl rfl ?_
    refine gt_X5_10 F (k := 0) pc0 dX5_count_53 (v := rf X.2.2 1) rfl ?_
    refine gt_X5_96 F (k := 1) pc1 dX5_count_56 (v := .int (s0 1 1)) rfl ?_
    exact R _ _ _ _ dX5_count_59 h
  rw [if_neg c1] at h
  by_cases c2 : a1 = 2
  · rw [if_pos c2] at h
    refine g_tabIn F (tgt := 60) (off := 59) dX5_count_1 (by rw [c2]; decide) (by rw [c2]; decide) (by rw [c2]; rfl) (by decide) ?_
    refine g_aload_n F (a := 0) (j := 0) dX5_count_60 rfl rfl ?_
    refine gt_X5_10 F (k := 0) pc0 dX5_count_61 (v := rf X.2.2 1) rfl ?_
    refine gt_X5_96 F (k := 1) pc1 dX5_count_64 (v := .int (s0 1 1)) rfl ?_
    refine g_aload_n F (a := 0) (j := 0) dX5_count_67 rfl rfl ?_
    refine gt_X5_21 F (k := 0) pc0 dX5_count_68 (v := rf X.2.2 13) rfl ?_
    refine g_vi F (k := 13) (As := []) (rest := [.int (s0 1 1)]) (fun _ q => mX1_working N F.inj row13 q) mw_X1_working ml_X5_210 rfl ⟨Nat.le_of_ble_eq_true rfl, Nat.le_of_ble_eq_true rfl⟩ pc13 cl1 rfl (Nat.le_of_ble_eq_true rfl) dX5_count_71 h (fun v1 s1 h => ?_)
    refine g_isub F dX5_count_74 ?_
    exact R _ _ _ _ dX5_count_75 h
  rw [if_neg c2] at h
  by_cases c3 : a1 = 3
  · rw [if_pos c3] at h
    refine g_tabIn F (tgt := 76) (off := 75) dX5_count_1 (by rw [c3]; decide) (by rw [c3]; decide) (by rw [c3]; rfl) (by decide) ?_
    refine g_aload_n F (a := 0) (j := 0) dX5_count_76 rfl rfl ?_
    refine gt_X5_62 F (k := 0) pc0 dX5_count_77 (v := .int (s0 0 8)) rfl ?_
    exact R _ _ _ _ dX5_count_80 h
  rw [if_neg c3] at h
  by_cases c4 : a1 = 4
  · rw [if_pos c4] at h
    refine g_tabIn F (tgt := 81) (off := 80) dX5_count_1 (by rw [c4]; decide) (by rw [c4]; decide) (by rw [c4]; rfl) (by decide) ?_
    refine g_aload_n F (a := 0) (j := 0) dX5_count_81 rfl rfl ?_
    refine gt_X5_58 F (k := 0) pc0 dX5_count_82 (v := .int (s0 0 7)) rfl ?_
    exact R _ _ _ _ dX5_count_85 h
  rw [if_neg c4] at h
  by_cases c5 : a1 = 5
  · rw [if_pos c5] at h
    refine g_tabIn F (tgt := 86) (off := 85) dX5_count_1 (by rw [c5]; decide) (by rw [c5]; decide) (by rw [c5]; rfl) (by decide) ?_
    refine g_aload_n F (a := 0) (j := 0) dX5_count_86 rfl rfl ?_
    refine gt_X5_21 F (k := 0) pc0 dX5_count_87 (v := rf X.2.2 13) rfl ?_
    refine gt_X5_214 F (k := 13) pc13 dX5_count_90 (v := .int (s0 13 6)) rfl ?_
    exact R _ _ _ _ dX5_count_93 h
  rw [if_neg c5] at h
  by_cases c6 : a1 = 6
  · rw [if_pos c6] at h
    refine g_tabIn F (tgt := 94) (off := 93) dX5_count_1 (by rw [c6]; decide) (by rw [c6]; decide) (by rw [c6]; rfl) (by decide) ?_
    refine g_aload_n F (a := 0) (j := 0) dX5_count_94 rfl rfl ?_
    refine gt_X5_68 F (k := 0) pc0 dX5_count_95 (v := .int (s0 0 10)) rfl ?_
    exact R _ _ _ _ dX5_count_98 h
  rw [if_neg c6] at h
  refine g_tabOut F (tgt := 99) dX5_count_1 (tab_out_7 c0 c1 c2 c3 c4 c5 c6) (by decide) ?_
  refine g_bipush F (v := (-2)) dX5_count_99 (by decide) ?_
  exact R _ _ _ _ dX5_count_101 h
theorem mX5_count {l : Launch} {w : Wd} (N : Nat) (hi : inj true w)  {res : Int32 × SS} {a1 : Int32} {s0 : SS} (h : fX5_count N a1 s0 = some res) : MI true l yX5_count cX5_count 2 (some .int) { frames := 1, cells := 0, slots := 0, locals := 22 } w [rf w 0, .int a1] s0 res := by
  refine mk_i (by decide) hi (Nat.le_of_ble_eq_true rfl) (fun X hX hL F R => ?_)
  subst hX; subst hL
  exact wX5_count_e F R a1 s0 h
set_option maxRecDepth 20000 in
theorem wX6_count_79 {X : Cx} (F : Fx false X cX6_count RX6 4 1 23) {res : Int32 × SS} (R : RI false X cX6_count 4 res) {N : Nat} {k56 : Int32 → Int32 → SS → Option (Int32 × SS)} (hk56 : ∀ (x2 : Int32) (x3 : Int32) (σ : SS), k56 x2 x3 σ = some res → G false X 4 56 [(0, rf X.2.2 0), (2, .int x2), (3, .int x3)] [] σ) : ∀ (x3 : Int32) (t0 : Int32) (t1 : Int32) (s0 : SS), fX6_count_79 N k56 x3 t0 t1 s0 = some res → G false X 4 79 [(0, rf X.2.2 0), (3, .int x3)] [.int t0, .int t1] s0 := by
  intro x3 t0 t1 s0 h
  unfold fX6_count_79 at h
  refine g_iadd F dX6_count_79 ?_
  refine g_istore_n F dX6_count_80 rfl (by decide) (lv' := [(0, rf X.2.2 0), (2, .int (t1 + t0)), (3, .int x3)]) [1, 0, 2] rfl ?_
  refine g_iinc F (j := 2) (v := x3 + 1) dX6_count_81 rfl rfl (by decide) (lv' := [(0, rf X.2.2 0), (2, .int (t1 + t0)), (3, .int (x3 + 1))]) [1, 2, 0] rfl ?_
  refine g_goto F (tgt := 56) dX6_count_84 (by decide) ?_
  exact hk56 (t1 + t0) (x3 + 1) s0 h
set_option maxRecDepth 20000 in
theorem wX6_count_56 {X : Cx} (F : Fx false X cX6_count RX6 4 1 23) {res : Int32 × SS} (R : RI false X cX6_count 4 res) {N : Nat} {k56 : Int32 → Int32 → SS → Option (Int32 × SS)} (hk56 : ∀ (x2 : Int32) (x3 : Int32) (σ : SS), k56 x2 x3 σ = some res → G false X 4 56 [(0, rf X.2.2 0), (2, .int x2), (3, .int x3)] [] σ) : ∀ (x2 : Int32) (x3 : Int32) (s0 : SS), fX6_count_56 N k56 x2 x3 s0 = some res → G false X 4 56 [(0, rf X.2.2 0), (2, .int x2), (3, .int x3)] [] s0 := by
  intro x2 x3 s0 h
  unfold fX6_count_56 at h
  refine g_iload_n F (j := 2) dX6_count_56 rfl rfl ?_
  refine g_aload_n F (a := 0) (j := 0) dX6_count_57 rfl rfl ?_
  refine gt_X6_67 F (k := 0) pm0 dX6_count_58 (v := .int (s0 0 3)) rfl ?_
  refine g_icmp_ge F (tgt := 87) dX6_count_61 (by decide) h (fun h => ?_) (fun h => ?_)
  · refine g_iload_n F (j := 1) dX6_count_87 rfl rfl ?_
    exact R _ _ _ _ dX6_count_88 h
  · refine g_iload_n F (j := 1) dX6_count_64 rfl rfl ?_
    refine g_aload_n F (a := 0) (j := 0) dX6_count_65 rfl rfl ?_
    refine gt_X6_31 F (k := 0) pm0 dX6_count_66 (v := rf X.2.2 8) rfl ?_
    refine g_iload_n F (j := 2) dX6_count_69 rfl rfl ?_
    refine g_zald F (k := 8) pm8 dX6_count_70 h (fun h => ?_)
    refine g_ifeq F (tgt := 78) dX6_count_71 (by decide) h (fun h => ?_) (fun h => ?_)
    · refine g_iconst F (v := 0) dX6_count_78 (by decide) ?_
      refine g_sub (lv' := [(0, rf X.2.2 0), (3, .int x3)]) [0, 2] rfl ?_
      exact wX6_count_79 F R hk56 x3 0 x2 s0 h
    · refine g_iconst F (v := 1) dX6_count_74 (by decide) ?_
      refine g_goto F (tgt := 79) dX6_count_75 (by decide) ?_
      refine g_sub (lv' := [(0, rf X.2.2 0), (3, .int x3)]) [0, 2] rfl ?_
      exact wX6_count_79 F R hk56 x3 1 x2 s0 h
theorem wX6_count_56_lp {X : Cx} (F : Fx false X cX6_count RX6 4 1 23) {res : Int32 × SS} (R : RI false X cX6_count 4 res) {N : Nat} : ∀ (n : Nat) (x2 : Int32) (x3 : Int32) (s0 : SS), lp (fX6_count_56 N) (fun _ _ _ => none) n x2 x3 s0 = some res → G false X 4 56 [(0, rf X.2.2 0), (2, .int x2), (3, .int x3)] [] s0 := by
  intro n
  induction n with
  | zero => intro x2 x3 s0 h; cases (show (none : Option (Int32 × SS)) = some res from h)
  | succ n ih => intro x2 x3 s0 h; exact wX6_count_56 F R ih x2 x3 s0 h
set_option maxRecDepth 20000 in
theorem wX6_count_123 {X : Cx} (F : Fx false X cX6_count RX6 4 1 23) {res : Int32 × SS} (R : RI false X cX6_count 4 res) {N : Nat} {k101 : Int32 → Int32 → SS → Option (Int32 × SS)} (hk101 : ∀ (x2 : Int32) (x3 : Int32) (σ : SS), k101 x2 x3 σ = some res → G false X 4 101 [(0, rf X.2.2 0), (2, .int x2), (3, .int x3)] [] σ) : ∀ (x3 : Int32) (t0 : Int32) (t1 : Int32) (s0 : SS), fX6_count_123 N k101 x3 t0 t1 s0 = some res → G false X 4 123 [(0, rf X.2.2 0), (3, .int x3)] [.int t0, .int t1] s0 := by
  intro x3 t0 t1 s0 h
  unfold fX6_count_123 at h
  refine g_iadd F dX6_count_123 ?_
  refine g_istore_n F dX6_count_124 rfl (by decide) (lv' := [(0, rf X.2.2 0), (2, .int (t1 + t0)), (3, .int x3)]) [1, 0, 2] rfl ?_
  refine g_iinc F (j := 2) (v := x3 + 1) dX6_count_125 rfl rfl (by decide) (lv' := [(0, rf X.2.2 0), (2, .int (t1 + t0)), (3, .int (x3 + 1))]) [1, 2, 0] rfl ?_
  refine g_goto F (tgt := 101) dX6_count_128 (by decide) ?_
  exact hk101 (t1 + t0) (x3 + 1) s0 h
set_option maxRecDepth 20000 in
theorem wX6_count_101 {X : Cx} (F : Fx false X cX6_count RX6 4 1 23) {res : Int32 × SS} (R : RI false X cX6_count 4 res) {N : Nat} {k101 : Int32 → Int32 → SS → Option (Int32 × SS)} (hk101 : ∀ (x2 : Int32) (x3 : Int32) (σ : SS), k101 x2 x3 σ = some res → G false X 4 101 [(0, rf X.2.2 0), (2, .int x2), (3, .int x3)] [] σ) : ∀ (x2 : Int32) (x3 : Int32) (s0 : SS), fX6_count_101 N k101 x2 x3 s0 = some res → G false X 4 101 [(0, rf X.2.2 0), (2, .int x2), (3, .int x3)] [] s0 := by
  intro x2 x3 s0 h
  unfold fX6_count_101 at h
  refine g_iload_n F (j := 2) dX6_count_101 rfl rfl ?_
  refine g_aload_n F (a := 0) (j := 0) dX6_count_102 rfl rfl ?_
  refine gt_X6_64 F (k := 0) pm0 dX6_count_103 (v := .int (s0 0 0)) rfl ?_
  refine g_icmp_ge F (tgt := 131) dX6_count_106 (by decide) h (fun h => ?_) (fun h => ?_)
  · refine g_iload_n F (j := 1) dX6_count_131 rfl rfl ?_
    exact R _ _ _ _ dX6_count_132 h
  · refine g_iload_n F (j := 1) dX6_count_109 rfl rfl ?_
    refine g_aload_n F (a := 0) (j := 0) dX6_count_110 rfl rfl ?_
    refine g_iload_n F (j := 2) dX6_count_111 rfl rfl ?_
    refine g_vi F (k := 0) (As := [.int x3]) (rest := [.int x2]) (fun _ q => mX6_many N F.inj  q) mw_X6_many ml_X6_106 rfl ⟨Nat.le_of_ble_eq_true rfl, Nat.le_of_ble_eq_true rfl⟩ pm0 cl6 rfl (Nat.le_of_ble_eq_true rfl) dX6_count_112 h (fun v1 s1 h => ?_)
    refine g_ifle F (tgt := 122) dX6_count_115 (by decide) h (fun h => ?_) (fun h => ?_)
    · refine g_iconst F (v := 0) dX6_count_122 (by decide) ?_
      refine g_sub (lv' := [(0, rf X.2.2 0), (3, .int x3)]) [0, 2] rfl ?_
      exact wX6_count_123 F R hk101 x3 0 x2 s1 h
    · refine g_iconst F (v := 1) dX6_count_118 (by decide) ?_
      refine g_goto F (tgt := 123) dX6_count_119 (by decide) ?_
      refine g_sub (lv' := [(0, rf X.2.2 0), (3, .int x3)]) [0, 2] rfl ?_
      exact wX6_count_123 F R hk101 x3 1 x2 s1 h
theorem wX6_count_101_lp {X : Cx} (F : Fx false X cX6_count RX6 4 1 23) {res : Int32 × SS} (R : RI false X cX6_count 4 res) {N : Nat} : ∀ (n : Nat) (x2 : Int32) (x3 : Int32) (s0 : SS), lp (fX6_count_101 N) (fun _ _ _ => none) n x2 x3 s0 = some res → G false X 4 101 [(0, rf X.2.2 0), (2, .int x2), (3, .int x3)] [] s0 := by
  intro n
  induction n with
  | zero => intro x2 x3 s0 h; cases (show (none : Option (Int32 × SS)) = some res from h)
  | succ n ih => intro x2 x3 s0 h; exact wX6_count_101 F R ih x2 x3 s0 h
set_option maxRecDepth 20000 in
theorem wX6_count_e {X : Cx} (F : Fx false X cX6_count RX6 4 1 23) {res : Int32 × SS} (R : RI false X cX6_count 4 res) {N : Nat} : ∀ (a1 : Int32) (s0 : SS), fX6_count N a1 s0 = some res → G false X 4 0 [(0, rf X.2.2 0), (1, .int a1)] [] s0 := by
  intro a1 s0 h
  unfold fX6_count at h
  refine g_iconst F (v := 0) dX6_count_0 (by decide) ?_
  refine g_istore_n F dX6_count_1 rfl (by decide) (lv' := [(0, rf X.2.2 0), (1, .int a1), (2, .int 0)]) [1, 2, 0] rfl ?_
  refine g_iload_n F (j := 1) dX6_count_2 rfl rfl ?_
  have ex : a1 = a1 := rfl
  by_cases c0 : a1 = 0
  · rw [if_pos c0] at h
    refine g_tabIn F (tgt := 44) (off := 41) dX6_count_3 (by rw [c0]; decide) (by rw [c0]; decide) (by rw [c0]; rfl) (by decide) ?_
    refine g_aload_n F (a := 0) (j := 0) dX6_count_44 rfl rfl ?_
    refine gt_X6_64 F (k := 0) pm0 dX6_count_45 (v := .int (s0 0 0)) rfl ?_
    exact R _ _ _ _ dX6_count_48 h
  rw [if_neg c0] at h
  by_cases c1 : a1 = 1
  · rw [if_pos c1] at h
    refine g_tabIn F (tgt := 49) (off := 46) dX6_count_3 (by rw [c1]; decide) (by rw [c1]; decide) (by rw [c1]; rfl) (by decide) ?_
    refine g_aload_n F (a := 0) (j := 0) dX6_count_49 rfl rfl ?_
    refine gt_X6_67 F (k := 0) pm0 dX6_count_50 (v := .int (s0 0 3)) rfl ?_
    exact R _ _ _ _ dX6_count_53 h
  rw [if_neg c1] at h
  by_cases c2 : a1 = 2
  · rw [if_pos c2] at h
    refine g_tabIn F (tgt := 54) (off := 51) dX6_count_3 (by rw [c2]; decide) (by rw [c2]; decide) (by rw [c2]; rfl) (by decide) ?_
    refine g_iconst F (v := 0) dX6_count_54 (by decide) ?_
    refine g_istore_n F dX6_count_55 rfl (by decide) (lv' := [(0, rf X.2.2 0), (2, .int 0), (3, .int 0)]) [1, 3, 0] rfl ?_
    exact wX6_count_56_lp F R N 0 0 s0 h
  rw [if_neg c2] at h
  by_cases c3 : a1 = 3
  · rw [if_pos c3] at h
    refine g_tabIn F (tgt := 89) (off := 86) dX6_count_3 (by rw [c3]; decide) (by rw [c3]; decide) (by rw [c3]; rfl) (by decide) ?_
    refine g_aload_n F (a := 0) (j := 0) dX6_count_89 rfl rfl ?_
    refine gt_X6_77 F (k := 0) pm0 dX6_count_90 (v := .int (s0 0 10)) rfl ?_
    exact R _ _ _ _ dX6_count_93 h
  rw [if_neg c3] at h
  by_cases c4 : a1 = 4
  · rw [if_pos c4] at h
    refine g_tabIn F (tgt := 94) (off := 91) dX6_count_3 (by rw [c4]; decide) (by rw [c4]; decide) (by rw [c4]; rfl) (by decide) ?_
    refine g_aload_n F (a := 0) (j := 0) dX6_count_94 rfl rfl ?_
    refine gt_X6_35 F (k := 0) pm0 dX6_count_95 (v := .int (s0 0 11)) rfl ?_
    exact R _ _ _ _ dX6_count_98 h
  rw [if_neg c4] at h
  by_cases c5 : a1 = 5
  · rw [if_pos c5] at h
    refine g_tabIn F (tgt := 99) (off := 96) dX6_count_3 (by rw [c5]; decide) (by rw [c5]; decide) (by rw [c5]; rfl) (by decide) ?_
    refine g_iconst F (v := 0) dX6_count_99 (by decide) ?_
    refine g_istore_n F dX6_count_100 rfl (by decide) (lv' := [(0, rf X.2.2 0), (2, .int 0), (3, .int 0)]) [1, 3, 0] rfl ?_
    exact wX6_count_101_lp F R N 0 0 s0 h
  rw [if_neg c5] at h
  by_cases c6 : a1 = 6
  · rw [if_pos c6] at h
    refine g_tabIn F (tgt := 133) (off := 130) dX6_count_3 (by rw [c6]; decide) (by rw [c6]; decide) (by rw [c6]; rfl) (by decide) ?_
    refine g_aload_n F (a := 0) (j := 0) dX6_count_133 rfl rfl ?_
    refine gt_X6_189 F (k := 0) pm0 dX6_count_134 (v := .int (s0 0 12)) rfl ?_
    exact R _ _ _ _ dX6_count_137 h
  rw [if_neg c6] at h
  refine g_tabOut F (tgt := 138) dX6_count_3 (tab_out_7 c0 c1 c2 c3 c4 c5 c6) (by decide) ?_
  refine g_bipush F (v := (-2)) dX6_count_138 (by decide) ?_
  exact R _ _ _ _ dX6_count_140 h
theorem mX6_count {l : Launch} {w : Wd} (N : Nat) (hi : inj false w)  {res : Int32 × SS} {a1 : Int32} {s0 : SS} (h : fX6_count N a1 s0 = some res) : MI false l yX6_count cX6_count 4 (some .int) { frames := 1, cells := 0, slots := 0, locals := 23 } w [rf w 0, .int a1] s0 res := by
  refine mk_i (by decide) hi (Nat.le_of_ble_eq_true rfl) (fun X hX hL F R => ?_)
  subst hX; subst hL
  exact wX6_count_e F R a1 s0 h
