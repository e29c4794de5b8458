set_option maxRecDepth 20000 in
theorem wX6_work_131 {X : Cx} (F : Fx false X cX6_work RX6 7 2 51) {res : Int32 × SS} (R : RI false X cX6_work 7 res) {N : Nat} : ∀ (t0 : Int32) (s0 : SS), fX6_work_131 N t0 s0 = some res → G false X 7 131 [] [.int t0] s0 := by
  intro t0 s0 h
  unfold fX6_work_131 at h
  exact R _ _ _ _ dX6_work_131 h
set_option maxRecDepth 20000 in
theorem wX6_work_91 {X : Cx} (F : Fx false X cX6_work RX6 7 2 51) {res : Int32 × SS} (R : RI false X cX6_work 7 res) {N : Nat} : ∀ (x1 : Int32) (x2 : Int32) (x3 : Int32) (x4 : Int32) (x5 : Int32) (t0 : Int32) (s0 : SS), fX6_work_91 N x1 x2 x3 x4 x5 t0 s0 = some res → G false X 7 91 [(0, rf X.2.2 0), (1, .int x1), (2, .int x2), (3, .int x3), (4, .int x4), (5, .int x5)] [.int t0] s0 := by
  intro x1 x2 x3 x4 x5 t0 s0 h
  unfold fX6_work_91 at h
  refine g_istore F dX6_work_91 (by decide) (lv' := [(0, rf X.2.2 0), (1, .int x1), (2, .int x2), (3, .int x3), (4, .int x4), (5, .int x5), (6, .int t0)]) [1, 2, 3, 4, 5, 6, 0] rfl ?_
  refine g_iload F (j := 6) dX6_work_93 rfl ?_
  refine g_ifne F (tgt := 101) dX6_work_95 (by decide) h (fun h => ?_) (fun h => ?_)
  · refine g_bipush F (v := (-2)) dX6_work_98 (by decide) ?_
    exact R _ _ _ _ dX6_work_100 h
  · refine g_aload_n F (a := 0) (j := 0) dX6_work_101 rfl rfl ?_
    refine gt_X6_67 F (k := 0) pm0 dX6_work_102 (v := .int (s0 0 3)) rfl ?_
    refine g_bipush F (v := 8) dX6_work_105 (by decide) ?_
    refine g_icmp_ne F (tgt := 132) dX6_work_107 (by decide) h (fun h => ?_) (fun h => ?_)
    · refine g_aload_n F (a := 0) (j := 0) dX6_work_110 rfl rfl ?_
      refine g_iload_n F (j := 1) dX6_work_111 rfl rfl ?_
      refine g_iload_n F (j := 2) dX6_work_112 rfl rfl ?_
      refine g_iload_n F (j := 3) dX6_work_113 rfl rfl ?_
      refine g_iload F (j := 4) dX6_work_114 rfl ?_
      refine g_iload F (j := 5) dX6_work_116 rfl ?_
      refine g_vi F (k := 0) (As := [.int x1, .int x2, .int x3, .int x4, .int x5]) (rest := []) (fun _ q => mX6_fitsNinth N F.inj  q) mw_X6_fitsNinth ml_X6_80 rfl ⟨Nat.le_of_ble_eq_true rfl, Nat.le_of_ble_eq_true rfl⟩ pm0 cl6 rfl (Nat.le_of_ble_eq_true rfl) dX6_work_118 h (fun v1 s1 h => ?_)
      refine g_ifeq F (tgt := 129) dX6_work_121 (by decide) h (fun h => ?_) (fun h => ?_)
      · refine g_bipush F (v := (-3)) dX6_work_129 (by decide) ?_
        refine g_sub (lv' := []) [] rfl ?_
        exact wX6_work_131 F R (-3) s1 h
      · refine g_bipush F (v := (-4)) dX6_work_124 (by decide) ?_
        refine g_goto F (tgt := 131) dX6_work_126 (by decide) ?_
        refine g_sub (lv' := []) [] rfl ?_
        exact wX6_work_131 F R (-4) s1 h
    · refine g_aload_n F (a := 0) (j := 0) dX6_work_132 rfl rfl ?_
      refine gt_X6_16 F (k := 0) pm0 dX6_work_133 (v := rf X.2.2 3) rfl ?_
      refine g_aload_n F (a := 0) (j := 0) dX6_work_136 rfl rfl ?_
      refine gt_X6_67 F (k := 0) pm0 dX6_work_137 (v := .int (s0 0 3)) rfl ?_
      refine g_iload_n F (j := 1) dX6_work_140 rfl rfl ?_
      refine g_iast F (k := 3) pm3 dX6_work_141 h (fun s2 h => ?_)
      refine g_aload_n F (a := 0) (j := 0) dX6_work_142 rfl rfl ?_
      refine gt_X6_19 F (k := 0) pm0 dX6_work_143 (v := rf X.2.2 4) rfl ?_
      refine g_aload_n F (a := 0) (j := 0) dX6_work_146 rfl rfl ?_
      refine gt_X6_67 F (k := 0) pm0 dX6_work_147 (v := .int (s2 0 3)) rfl ?_
      refine g_iload_n F (j := 2) dX6_work_150 rfl rfl ?_
      refine g_iast F (k := 4) pm4 dX6_work_151 h (fun s3 h => ?_)
      refine g_aload_n F (a := 0) (j := 0) dX6_work_152 rfl rfl ?_
      refine gt_X6_22 F (k := 0) pm0 dX6_work_153 (v := rf X.2.2 5) rfl ?_
      refine g_aload_n F (a := 0) (j := 0) dX6_work_156 rfl rfl ?_
      refine gt_X6_67 F (k := 0) pm0 dX6_work_157 (v := .int (s3 0 3)) rfl ?_
      refine g_iload_n F (j := 3) dX6_work_160 rfl rfl ?_
      refine g_iast F (k := 5) pm5 dX6_work_161 h (fun s4 h => ?_)
      refine g_aload_n F (a := 0) (j := 0) dX6_work_162 rfl rfl ?_
      refine gt_X6_25 F (k := 0) pm0 dX6_work_163 (v := rf X.2.2 6) rfl ?_
      refine g_aload_n F (a := 0) (j := 0) dX6_work_166 rfl rfl ?_
      refine gt_X6_67 F (k := 0) pm0 dX6_work_167 (v := .int (s4 0 3)) rfl ?_
      refine g_iload F (j := 4) dX6_work_170 rfl ?_
      refine g_iast F (k := 6) pm6 dX6_work_172 h (fun s5 h => ?_)
      refine g_aload_n F (a := 0) (j := 0) dX6_work_173 rfl rfl ?_
      refine gt_X6_28 F (k := 0) pm0 dX6_work_174 (v := rf X.2.2 7) rfl ?_
      refine g_aload_n F (a := 0) (j := 0) dX6_work_177 rfl rfl ?_
      refine gt_X6_67 F (k := 0) pm0 dX6_work_178 (v := .int (s5 0 3)) rfl ?_
      refine g_iload F (j := 5) dX6_work_181 rfl ?_
      refine g_iast F (k := 7) pm7 dX6_work_183 h (fun s6 h => ?_)
      refine g_aload_n F (a := 0) (j := 0) dX6_work_184 rfl rfl ?_
      refine gt_X6_31 F (k := 0) pm0 dX6_work_185 (v := rf X.2.2 8) rfl ?_
      refine g_aload_n F (a := 0) (j := 0) dX6_work_188 rfl rfl ?_
      refine gt_X6_67 F (k := 0) pm0 dX6_work_189 (v := .int (s6 0 3)) rfl ?_
      refine g_iconst F (v := 0) dX6_work_192 (by decide) ?_
      refine g_zast F (k := 8) pm8 dX6_work_193 h (fun s7 h => ?_)
      refine g_aload_n F (a := 0) (j := 0) dX6_work_194 rfl rfl ?_
      refine g_dupr F dX6_work_195 ?_
      refine gt_X6_67 F (k := 0) pm0 dX6_work_196 (v := .int (s7 0 3)) rfl ?_
      refine g_iconst F (v := 1) dX6_work_199 (by decide) ?_
      refine g_iadd F dX6_work_200 ?_
      refine pt_X6_67 F (k := 0) pm0 (Nat.le_of_ble_eq_true rfl) rfl dX6_work_201 h (fun s8 h => ?_)
      refine g_aload_n F (a := 0) (j := 0) dX6_work_204 rfl rfl ?_
      refine g_vi F (k := 0) (As := []) (rest := []) (fun _ q => mX6_isRight N F.inj  q) mw_X6_isRight ml_X6_84 rfl ⟨Nat.le_of_ble_eq_true rfl, Nat.le_of_ble_eq_true rfl⟩ pm0 cl6 rfl (Nat.le_of_ble_eq_true rfl) dX6_work_205 h (fun v9 s9 h => ?_)
      refine g_ifne F (tgt := 224) dX6_work_208 (by decide) h (fun h => ?_) (fun h => ?_)
      · refine g_aload_n F (a := 0) (j := 0) dX6_work_211 rfl rfl ?_
        refine g_dupr F dX6_work_212 ?_
        refine gt_X6_67 F (k := 0) pm0 dX6_work_213 (v := .int (s9 0 3)) rfl ?_
        refine g_iconst F (v := 1) dX6_work_216 (by decide) ?_
        refine g_isub F dX6_work_217 ?_
        refine pt_X6_67 F (k := 0) pm0 (Nat.le_of_ble_eq_true rfl) rfl dX6_work_218 h (fun s10 h => ?_)
        refine g_bipush F (v := (-3)) dX6_work_221 (by decide) ?_
        exact R _ _ _ _ dX6_work_223 h
      · refine g_aload_n F (a := 0) (j := 0) dX6_work_224 rfl rfl ?_
        refine g_iconst F (v := 0) dX6_work_225 (by decide) ?_
        refine pt_X6_88 F (k := 0) pm0 (Nat.le_of_ble_eq_true rfl) rfl dX6_work_226 (by decide) h (fun s11 h => ?_)
        refine g_aload_n F (a := 0) (j := 0) dX6_work_229 rfl rfl ?_
        refine gt_X6_67 F (k := 0) pm0 dX6_work_230 (v := .int (s11 0 3)) rfl ?_
        refine g_iconst F (v := 1) dX6_work_233 (by decide) ?_
        refine g_isub F dX6_work_234 ?_
        exact R _ _ _ _ dX6_work_235 h
set_option maxRecDepth 20000 in
theorem wX6_work_86 {X : Cx} (F : Fx false X cX6_work RX6 7 2 51) {res : Int32 × SS} (R : RI false X cX6_work 7 res) {N : Nat} : ∀ (x1 : Int32) (x2 : Int32) (x3 : Int32) (x4 : Int32) (x5 : Int32) (s0 : SS), fX6_work_86 N x1 x2 x3 x4 x5 s0 = some res → G false X 7 86 [(0, rf X.2.2 0), (1, .int x1), (2, .int x2), (3, .int x3), (4, .int x4), (5, .int x5)] [] s0 := by
  intro x1 x2 x3 x4 x5 s0 h
  unfold fX6_work_86 at h
  refine g_iconst F (v := 1) dX6_work_86 (by decide) ?_
  refine g_goto F (tgt := 91) dX6_work_87 (by decide) ?_
  exact wX6_work_91 F R x1 x2 x3 x4 x5 1 s0 h
set_option maxRecDepth 20000 in
theorem wX6_work_90 {X : Cx} (F : Fx false X cX6_work RX6 7 2 51) {res : Int32 × SS} (R : RI false X cX6_work 7 res) {N : Nat} : ∀ (x1 : Int32) (x2 : Int32) (x3 : Int32) (x4 : Int32) (x5 : Int32) (s0 : SS), fX6_work_90 N x1 x2 x3 x4 x5 s0 = some res → G false X 7 90 [(0, rf X.2.2 0), (1, .int x1), (2, .int x2), (3, .int x3), (4, .int x4), (5, .int x5)] [] s0 := by
  intro x1 x2 x3 x4 x5 s0 h
  unfold fX6_work_90 at h
  refine g_iconst F (v := 0) dX6_work_90 (by decide) ?_
  exact wX6_work_91 F R x1 x2 x3 x4 x5 0 s0 h
set_option maxRecDepth 20000 in
theorem wX6_work_72 {X : Cx} (F : Fx false X cX6_work RX6 7 2 51) {res : Int32 × SS} (R : RI false X cX6_work 7 res) {N : Nat} : ∀ (x1 : Int32) (x2 : Int32) (x3 : Int32) (x4 : Int32) (x5 : Int32) (s0 : SS), fX6_work_72 N x1 x2 x3 x4 x5 s0 = some res → G false X 7 72 [(0, rf X.2.2 0), (1, .int x1), (2, .int x2), (3, .int x3), (4, .int x4), (5, .int x5)] [] s0 := by
  intro x1 x2 x3 x4 x5 s0 h
  unfold fX6_work_72 at h
  refine g_iload_n F (j := 3) dX6_work_72 rfl rfl ?_
  refine g_iconst F (v := 4) dX6_work_73 (by decide) ?_
  refine g_icmp_ne F (tgt := 86) dX6_work_74 (by decide) h (fun h => ?_) (fun h => ?_)
  · refine g_iload F (j := 4) dX6_work_77 rfl ?_
    refine g_aload_n F (a := 0) (j := 0) dX6_work_79 rfl rfl ?_
    refine gt_X6_77 F (k := 0) pm0 dX6_work_80 (v := .int (s0 0 10)) rfl ?_
    refine g_icmp_le F (tgt := 90) dX6_work_83 (by decide) h (fun h => ?_) (fun h => ?_)
    · exact wX6_work_90 F R x1 x2 x3 x4 x5 s0 h
    · exact wX6_work_86 F R x1 x2 x3 x4 x5 s0 h
  · exact wX6_work_86 F R x1 x2 x3 x4 x5 s0 h
set_option maxRecDepth 20000 in
theorem wX6_work_62 {X : Cx} (F : Fx false X cX6_work RX6 7 2 51) {res : Int32 × SS} (R : RI false X cX6_work 7 res) {N : Nat} : ∀ (x1 : Int32) (x2 : Int32) (x3 : Int32) (x4 : Int32) (x5 : Int32) (s0 : SS), fX6_work_62 N x1 x2 x3 x4 x5 s0 = some res → G false X 7 62 [(0, rf X.2.2 0), (1, .int x1), (2, .int x2), (3, .int x3), (4, .int x4), (5, .int x5)] [] s0 := by
  intro x1 x2 x3 x4 x5 s0 h
  unfold fX6_work_62 at h
  refine g_iload F (j := 4) dX6_work_62 rfl ?_
  refine g_iconst F (v := 0) dX6_work_64 (by decide) ?_
  refine g_iconst F (v := 3) dX6_work_65 (by decide) ?_
  refine g_si F (As := [.int x4, .int 0, .int 3]) (rest := []) (fun _ q => mX6_in N F.inj  q) mw_X6_in ml_X6_60 rfl ⟨Nat.le_of_ble_eq_true rfl, Nat.le_of_ble_eq_true rfl⟩ rfl (Nat.le_of_ble_eq_true rfl) dX6_work_66 h (fun v1 s1 h => ?_)
  refine g_ifeq F (tgt := 90) dX6_work_69 (by decide) h (fun h => ?_) (fun h => ?_)
  · exact wX6_work_90 F R x1 x2 x3 x4 x5 s1 h
  · exact wX6_work_72 F R x1 x2 x3 x4 x5 s1 h
set_option maxRecDepth 20000 in
theorem wX6_work_45 {X : Cx} (F : Fx false X cX6_work RX6 7 2 51) {res : Int32 × SS} (R : RI false X cX6_work 7 res) {N : Nat} : ∀ (x1 : Int32) (x2 : Int32) (x3 : Int32) (x4 : Int32) (x5 : Int32) (t0 : Int32) (s0 : SS), fX6_work_45 N x1 x2 x3 x4 x5 t0 s0 = some res → G false X 7 45 [(0, rf X.2.2 0), (1, .int x1), (2, .int x2), (3, .int x3), (4, .int x4), (5, .int x5)] [.int t0] s0 := by
  intro x1 x2 x3 x4 x5 t0 s0 h
  unfold fX6_work_45 at h
  refine g_istore F dX6_work_45 (by decide) (lv' := [(0, rf X.2.2 0), (1, .int x1), (2, .int x2), (3, .int x3), (4, .int x4), (5, .int x5), (6, .int t0)]) [1, 2, 3, 4, 5, 6, 0] rfl ?_
  refine g_iload F (j := 6) dX6_work_47 rfl ?_
  refine g_ifeq F (tgt := 90) dX6_work_49 (by decide) h (fun h => ?_) (fun h => ?_)
  · refine g_sub (lv' := [(0, rf X.2.2 0), (1, .int x1), (2, .int x2), (3, .int x3), (4, .int x4), (5, .int x5)]) [0, 1, 2, 3, 4, 5] rfl ?_
    exact wX6_work_90 F R x1 x2 x3 x4 x5 s0 h
  · refine g_iload_n F (j := 3) dX6_work_52 rfl rfl ?_
    refine g_iconst F (v := 1) dX6_work_53 (by decide) ?_
    refine g_icmp_eq F (tgt := 62) dX6_work_54 (by decide) h (fun h => ?_) (fun h => ?_)
    · refine g_sub (lv' := [(0, rf X.2.2 0), (1, .int x1), (2, .int x2), (3, .int x3), (4, .int x4), (5, .int x5)]) [0, 1, 2, 3, 4, 5] rfl ?_
      exact wX6_work_62 F R x1 x2 x3 x4 x5 s0 h
    · refine g_iload_n F (j := 3) dX6_work_57 rfl rfl ?_
      refine g_iconst F (v := 2) dX6_work_58 (by decide) ?_
      refine g_icmp_ne F (tgt := 72) dX6_work_59 (by decide) h (fun h => ?_) (fun h => ?_)
      · refine g_sub (lv' := [(0, rf X.2.2 0), (1, .int x1), (2, .int x2), (3, .int x3), (4, .int x4), (5, .int x5)]) [0, 1, 2, 3, 4, 5] rfl ?_
        exact wX6_work_62 F R x1 x2 x3 x4 x5 s0 h
      · refine g_sub (lv' := [(0, rf X.2.2 0), (1, .int x1), (2, .int x2), (3, .int x3), (4, .int x4), (5, .int x5)]) [0, 1, 2, 3, 4, 5] rfl ?_
        exact wX6_work_72 F R x1 x2 x3 x4 x5 s0 h
set_option maxRecDepth 20000 in
theorem wX6_work_44 {X : Cx} (F : Fx false X cX6_work RX6 7 2 51) {res : Int32 × SS} (R : RI false X cX6_work 7 res) {N : Nat} : ∀ (x1 : Int32) (x2 : Int32) (x3 : Int32) (x4 : Int32) (x5 : Int32) (s0 : SS), fX6_work_44 N x1 x2 x3 x4 x5 s0 = some res → G false X 7 44 [(0, rf X.2.2 0), (1, .int x1), (2, .int x2), (3, .int x3), (4, .int x4), (5, .int x5)] [] s0 := by
  intro x1 x2 x3 x4 x5 s0 h
  unfold fX6_work_44 at h
  refine g_iconst F (v := 0) dX6_work_44 (by decide) ?_
  exact wX6_work_45 F R x1 x2 x3 x4 x5 0 s0 h
set_option maxRecDepth 20000 in
theorem wX6_work_e {X : Cx} (F : Fx false X cX6_work RX6 7 2 51) {res : Int32 × SS} (R : RI false X cX6_work 7 res) {N : Nat} : ∀ (a1 : Int32) (a2 : Int32) (a3 : Int32) (a4 : Int32) (a5 : Int32) (s0 : SS), fX6_work N a1 a2 a3 a4 a5 s0 = some res → G false X 7 0 [(0, rf X.2.2 0), (1, .int a1), (2, .int a2), (3, .int a3), (4, .int a4), (5, .int a5)] [] s0 := by
  intro a1 a2 a3 a4 a5 s0 h
  unfold fX6_work at h
  refine g_iload_n F (j := 1) dX6_work_0 rfl rfl ?_
  refine g_iconst F (v := 0) dX6_work_1 (by decide) ?_
  refine g_sipush F (v := 1000) dX6_work_2 (by decide) ?_
  refine g_si F (As := [.int a1, .int 0, .int 1000]) (rest := []) (fun _ q => mX6_in N F.inj  q) mw_X6_in ml_X6_60 rfl ⟨Nat.le_of_ble_eq_true rfl, Nat.le_of_ble_eq_true rfl⟩ rfl (Nat.le_of_ble_eq_true rfl) dX6_work_5 h (fun v1 s1 h => ?_)
  refine g_ifeq F (tgt := 44) dX6_work_8 (by decide) h (fun h => ?_) (fun h => ?_)
  · exact wX6_work_44 F R a1 a2 a3 a4 a5 s1 h
  · refine g_iload_n F (j := 2) dX6_work_11 rfl rfl ?_
    refine g_iconst F (v := 0) dX6_work_12 (by decide) ?_
    refine g_sipush F (v := 1000) dX6_work_13 (by decide) ?_
    refine g_si F (As := [.int a2, .int 0, .int 1000]) (rest := []) (fun _ q => mX6_in N F.inj  q) mw_X6_in ml_X6_60 rfl ⟨Nat.le_of_ble_eq_true rfl, Nat.le_of_ble_eq_true rfl⟩ rfl (Nat.le_of_ble_eq_true rfl) dX6_work_16 h (fun v2 s2 h => ?_)
    refine g_ifeq F (tgt := 44) dX6_work_19 (by decide) h (fun h => ?_) (fun h => ?_)
    · exact wX6_work_44 F R a1 a2 a3 a4 a5 s2 h
    · refine g_iload_n F (j := 3) dX6_work_22 rfl rfl ?_
      refine g_iconst F (v := 0) dX6_work_23 (by decide) ?_
      refine g_iconst F (v := 4) dX6_work_24 (by decide) ?_
      refine g_si F (As := [.int a3, .int 0, .int 4]) (rest := []) (fun _ q => mX6_in N F.inj  q) mw_X6_in ml_X6_60 rfl ⟨Nat.le_of_ble_eq_true rfl, Nat.le_of_ble_eq_true rfl⟩ rfl (Nat.le_of_ble_eq_true rfl) dX6_work_25 h (fun v3 s3 h => ?_)
      refine g_ifeq F (tgt := 44) dX6_work_28 (by decide) h (fun h => ?_) (fun h => ?_)
      · exact wX6_work_44 F R a1 a2 a3 a4 a5 s3 h
      · refine g_aload_n F (a := 0) (j := 0) dX6_work_31 rfl rfl ?_
        refine g_iload F (j := 5) dX6_work_32 rfl ?_
        refine g_vi F (k := 0) (As := [.int a5]) (rest := []) (fun _ q => mX6_isMachine N F.inj  q) mw_X6_isMachine ml_X6_73 rfl ⟨Nat.le_of_ble_eq_true rfl, Nat.le_of_ble_eq_true rfl⟩ pm0 cl6 rfl (Nat.le_of_ble_eq_true rfl) dX6_work_34 h (fun v4 s4 h => ?_)
        refine g_ifeq F (tgt := 44) dX6_work_37 (by decide) h (fun h => ?_) (fun h => ?_)
        · exact wX6_work_44 F R a1 a2 a3 a4 a5 s4 h
        · refine g_iconst F (v := 1) dX6_work_40 (by decide) ?_
          refine g_goto F (tgt := 45) dX6_work_41 (by decide) ?_
          exact wX6_work_45 F R a1 a2 a3 a4 a5 1 s4 h
theorem mX6_work {l : Launch} {w : Wd} (N : Nat) (hi : inj false w)  {res : Int32 × SS} {a1 a2 a3 a4 a5 : Int32} {s0 : SS} (h : fX6_work N a1 a2 a3 a4 a5 s0 = some res) : MI false l yX6_work cX6_work 7 (some .int) { frames := 2, cells := 0, slots := 0, locals := 51 } w [rf w 0, .int a1, .int a2, .int a3, .int a4, .int a5] s0 res := by
  refine mk_i (by decide) hi (Nat.le_of_ble_eq_true rfl) (fun X hX hL F R => ?_)
  subst hX; subst hL
  exact wX6_work_e F R a1 a2 a3 a4 a5 s0 h
set_option maxRecDepth 20000 in
theorem wX3_hasWork_17 {X : Cx} (F : Fx true X cX3_hasWork RX3 2 0 0) {res : Int32 × SS} (R : RZ true X cX3_hasWork 2 res) {N : Nat} : ∀ (t0 : Int32) (s0 : SS), fX3_hasWork_17 N t0 s0 = some res → G true X 2 17 [] [.int t0] s0 := by
  intro t0 s0 h
  unfold fX3_hasWork_17 at h
  exact R _ _ _ _ dX3_hasWork_17 h
set_option maxRecDepth 20000 in
theorem wX3_hasWork_16 {X : Cx} (F : Fx true X cX3_hasWork RX3 2 0 0) {res : Int32 × SS} (R : RZ true X cX3_hasWork 2 res) {N : Nat} : ∀  (s0 : SS), fX3_hasWork_16 N s0 = some res → G true X 2 16 [] [] s0 := by
  intro  s0 h
  unfold fX3_hasWork_16 at h
  refine g_iconst F (v := 0) dX3_hasWork_16 (by decide) ?_
  exact wX3_hasWork_17 F R 0 s0 h
set_option maxRecDepth 20000 in
theorem wX3_hasWork_e {X : Cx} (F : Fx true X cX3_hasWork RX3 2 0 0) {res : Int32 × SS} (R : RZ true X cX3_hasWork 2 res) {N : Nat} : ∀ (a1 : Int32) (s0 : SS), fX3_hasWork N a1 s0 = some res → G true X 2 0 [(0, rf X.2.2 1), (1, .int a1)] [] s0 := by
  intro a1 s0 h
  unfold fX3_hasWork at h
  refine g_iload_n F (j := 1) dX3_hasWork_0 rfl rfl ?_
  refine g_iflt F (tgt := 16) dX3_hasWork_1 (by decide) h (fun h => ?_) (fun h => ?_)
  · refine g_sub (lv' := []) [] rfl ?_
    exact wX3_hasWork_16 F R s0 h
  · refine g_iload_n F (j := 1) dX3_hasWork_4 rfl rfl ?_
    refine g_aload_n F (a := 1) (j := 0) dX3_hasWork_5 rfl rfl ?_
    refine gt_X3_15 F (k := 1) pc1 dX3_hasWork_6 (v := .int (s0 1 1)) rfl ?_
    refine g_icmp_ge F (tgt := 16) dX3_hasWork_9 (by decide) h (fun h => ?_) (fun h => ?_)
    · refine g_sub (lv' := []) [] rfl ?_
      exact wX3_hasWork_16 F R s0 h
    · refine g_iconst F (v := 1) dX3_hasWork_12 (by decide) ?_
      refine g_goto F (tgt := 17) dX3_hasWork_13 (by decide) ?_
      refine g_sub (lv' := []) [] rfl ?_
      exact wX3_hasWork_17 F R 1 s0 h
theorem mX3_hasWork {l : Launch} {w : Wd} (N : Nat) (hi : inj true w)  {res : Int32 × SS} {a1 : Int32} {s0 : SS} (h : fX3_hasWork N a1 s0 = some res) : MI true l yX3_hasWork cX3_hasWork 2 (some .boolean) { frames := 0, cells := 0, slots := 0, locals := 0 } w [rf w 1, .int a1] s0 res := by
  refine mk_z (by decide) hi (Nat.le_of_ble_eq_true rfl) (fun X hX hL F R => ?_)
  subst hX; subst hL
  exact wX3_hasWork_e F R a1 s0 h
set_option maxRecDepth 20000 in
theorem wX5_isBlockAtHand_31 {X : Cx} (F : Fx true X cX5_isBlockAtHand RX5 2 0 0) {res : Int32 × SS} (R : RZ true X cX5_isBlockAtHand 2 res) {N : Nat} : ∀ (t0 : Int32) (s0 : SS), fX5_isBlockAtHand_31 N t0 s0 = some res → G true X 2 31 [] [.int t0] s0 := by
  intro t0 s0 h
  unfold fX5_isBlockAtHand_31 at h
  exact R _ _ _ _ dX5_isBlockAtHand_31 h
set_option maxRecDepth 20000 in
theorem wX5_isBlockAtHand_30 {X : Cx} (F : Fx true X cX5_isBlockAtHand RX5 2 0 0) {res : Int32 × SS} (R : RZ true X cX5_isBlockAtHand 2 res) {N : Nat} : ∀  (s0 : SS), fX5_isBlockAtHand_30 N s0 = some res → G true X 2 30 [] [] s0 := by
  intro  s0 h
  unfold fX5_isBlockAtHand_30 at h
  refine g_iconst F (v := 0) dX5_isBlockAtHand_30 (by decide) ?_
  exact wX5_isBlockAtHand_31 F R 0 s0 h
set_option maxRecDepth 20000 in
theorem wX5_isBlockAtHand_e {X : Cx} (F : Fx true X cX5_isBlockAtHand RX5 2 0 0) {res : Int32 × SS} (R : RZ true X cX5_isBlockAtHand 2 res) {N : Nat} : ∀ (a1 : Int32) (s0 : SS), fX5_isBlockAtHand N a1 s0 = some res → G true X 2 0 [(0, rf X.2.2 0), (1, .int a1)] [] s0 := by
  intro a1 s0 h
  unfold fX5_isBlockAtHand at h
  refine g_aload_n F (a := 0) (j := 0) dX5_isBlockAtHand_0 rfl rfl ?_
  refine gt_X5_10 F (k := 0) pc0 dX5_isBlockAtHand_1 (v := rf X.2.2 1) rfl ?_
  refine gt_X5_130 F (k := 1) pc1 dX5_isBlockAtHand_4 (v := rf X.2.2 10) rfl ?_
  refine g_iload_n F (j := 1) dX5_isBlockAtHand_7 rfl rfl ?_
  refine g_iald F (k := 10) pc10 dX5_isBlockAtHand_8 h (fun h => ?_)
  refine g_iload_n F (j := 1) dX5_isBlockAtHand_9 rfl rfl ?_
  refine g_icmp_ne F (tgt := 30) dX5_isBlockAtHand_10 (by decide) h (fun h => ?_) (fun h => ?_)
  · refine g_aload_n F (a := 0) (j := 0) dX5_isBlockAtHand_13 rfl rfl ?_
    refine gt_X5_21 F (k := 0) pc0 dX5_isBlockAtHand_14 (v := rf X.2.2 13) rfl ?_
    refine gt_X5_115 F (k := 13) pc13 dX5_isBlockAtHand_17 (v := rf X.2.2 14) rfl ?_
    refine g_iload_n F (j := 1) dX5_isBlockAtHand_20 rfl rfl ?_
    refine g_iald F (k := 14) pc14 dX5_isBlockAtHand_21 h (fun h => ?_)
    refine g_iconst F (v := (-1)) dX5_isBlockAtHand_22 (by decide) ?_
    refine g_icmp_eq F (tgt := 30) dX5_isBlockAtHand_23 (by decide) h (fun h => ?_) (fun h => ?_)
    · refine g_sub (lv' := []) [] rfl ?_
      exact wX5_isBlockAtHand_30 F R s0 h
    · refine g_iconst F (v := 1) dX5_isBlockAtHand_26 (by decide) ?_
      refine g_goto F (tgt := 31) dX5_isBlockAtHand_27 (by decide) ?_
      refine g_sub (lv' := []) [] rfl ?_
      exact wX5_isBlockAtHand_31 F R 1 s0 h
  · refine g_sub (lv' := []) [] rfl ?_
    exact wX5_isBlockAtHand_30 F R s0 h
theorem mX5_isBlockAtHand {l : Launch} {w : Wd} (N : Nat) (hi : inj true w)  {res : Int32 × SS} {a1 : Int32} {s0 : SS} (h : fX5_isBlockAtHand N a1 s0 = some res) : MI true l yX5_isBlockAtHand cX5_isBlockAtHand 2 (some .boolean) { frames := 0, cells := 0, slots := 0, locals := 0 } w [rf w 0, .int a1] s0 res := by
  refine mk_z (by decide) hi (Nat.le_of_ble_eq_true rfl) (fun X hX hL F R => ?_)
  subst hX; subst hL
  exact wX5_isBlockAtHand_e F R a1 s0 h
set_option maxRecDepth 20000 in
theorem wX1_takesBlock_58 {X : Cx} (F : Fx true X cX1_takesBlock RX1 3 1 21) {res : Int32 × SS} (R : RZ true X cX1_takesBlock 3 res) {N : Nat} {r : Nat} (hr : isRow X.2.2 r) : ∀ (t0 : Int32) (s0 : SS), fX1_takesBlock_58 N r t0 s0 = some res → G true X 3 58 [] [.int t0] s0 := by
  intro t0 s0 h
  unfold fX1_takesBlock_58 at h
  exact R _ _ _ _ dX1_takesBlock_58 h
set_option maxRecDepth 20000 in
theorem wX1_takesBlock_57 {X : Cx} (F : Fx true X cX1_takesBlock RX1 3 1 21) {res : Int32 × SS} (R : RZ true X cX1_takesBlock 3 res) {N : Nat} {r : Nat} (hr : isRow X.2.2 r) : ∀  (s0 : SS), fX1_takesBlock_57 N r s0 = some res → G true X 3 57 [] [] s0 := by
  intro  s0 h
  unfold fX1_takesBlock_57 at h
  refine g_iconst F (v := 0) dX1_takesBlock_57 (by decide) ?_
  exact wX1_takesBlock_58 F R hr 0 s0 h
set_option maxRecDepth 20000 in
theorem wX1_takesBlock_e {X : Cx} (F : Fx true X cX1_takesBlock RX1 3 1 21) {res : Int32 × SS} (R : RZ true X cX1_takesBlock 3 res) {N : Nat} {r : Nat} (hr : isRow X.2.2 r) : ∀ (a1 : Int32) (a2 : Int32) (s0 : SS), fX1_takesBlock N r a1 a2 s0 = some res → G true X 3 0 [(0, rf X.2.2 r), (1, .int a1), (2, .int a2)] [] s0 := by
  intro a1 a2 s0 h
  unfold fX1_takesBlock at h
  refine g_aload_n F (a := r) (j := 0) dX1_takesBlock_0 rfl rfl ?_
  refine gt_X1_31 F (k := r) hr.1 dX1_takesBlock_1 (v := rf X.2.2 1) rfl ?_
  refine gt_X1_68 F (k := 1) pc1 dX1_takesBlock_4 (v := rf X.2.2 11) rfl ?_
  refine g_iload_n F (j := 1) dX1_takesBlock_7 rfl rfl ?_
  refine g_iald F (k := 11) pc11 dX1_takesBlock_8 h (fun h => ?_)
  refine g_aload_n F (a := r) (j := 0) dX1_takesBlock_9 rfl rfl ?_
  refine g_iload_n F (j := 2) dX1_takesBlock_10 rfl rfl ?_
  refine g_vi F (k := r) (As := [.int a2]) (rest := [.int (s0 11 (Int32.toNatClampNeg a1))]) (fun _ q => mX1_freeA N F.inj hr q) mw_X1_freeA ml_X1_55 rfl ⟨Nat.le_of_ble_eq_true rfl, Nat.le_of_ble_eq_true rfl⟩ hr.1 cl1 rfl (Nat.le_of_ble_eq_true rfl) dX1_takesBlock_11 h (fun v1 s1 h => ?_)
  refine g_icmp_gt F (tgt := 57) dX1_takesBlock_14 (by decide) h (fun h => ?_) (fun h => ?_)
  · refine g_sub (lv' := []) [] rfl ?_
    exact wX1_takesBlock_57 F R hr s1 h
  · refine g_aload_n F (a := r) (j := 0) dX1_takesBlock_17 rfl rfl ?_
    refine gt_X1_31 F (k := r) hr.1 dX1_takesBlock_18 (v := rf X.2.2 1) rfl ?_
    refine gt_X1_71 F (k := 1) pc1 dX1_takesBlock_21 (v := rf X.2.2 12) rfl ?_
    refine g_iload_n F (j := 1) dX1_takesBlock_24 rfl rfl ?_
    refine g_iald F (k := 12) pc12 dX1_takesBlock_25 h (fun h => ?_)
    refine g_aload_n F (a := r) (j := 0) dX1_takesBlock_26 rfl rfl ?_
    refine g_iload_n F (j := 2) dX1_takesBlock_27 rfl rfl ?_
    refine g_vi F (k := r) (As := [.int a2]) (rest := [.int (s1 12 (Int32.toNatClampNeg a1))]) (fun _ q => mX1_freeB N F.inj hr q) mw_X1_freeB ml_X1_62 rfl ⟨Nat.le_of_ble_eq_true rfl, Nat.le_of_ble_eq_true rfl⟩ hr.1 cl1 rfl (Nat.le_of_ble_eq_true rfl) dX1_takesBlock_28 h (fun v2 s2 h => ?_)
    refine g_icmp_gt F (tgt := 57) dX1_takesBlock_31 (by decide) h (fun h => ?_) (fun h => ?_)
    · refine g_sub (lv' := []) [] rfl ?_
      exact wX1_takesBlock_57 F R hr s2 h
    · refine g_aload_n F (a := r) (j := 0) dX1_takesBlock_34 rfl rfl ?_
      refine gt_X1_24 F (k := r) hr.1 dX1_takesBlock_35 (v := rf X.2.2 (r + 5)) rfl ?_
      refine g_iload_n F (j := 2) dX1_takesBlock_38 rfl rfl ?_
      refine g_iald F (k := (r + 5)) hr.2.2.2.2.2 dX1_takesBlock_39 h (fun h => ?_)
      refine g_aload_n F (a := r) (j := 0) dX1_takesBlock_40 rfl rfl ?_
      refine gt_X1_31 F (k := r) hr.1 dX1_takesBlock_41 (v := rf X.2.2 1) rfl ?_
      refine gt_X1_65 F (k := 1) pc1 dX1_takesBlock_44 (v := rf X.2.2 8) rfl ?_
      refine g_iload_n F (j := 1) dX1_takesBlock_47 rfl rfl ?_
      refine g_iald F (k := 8) pc8 dX1_takesBlock_48 h (fun h => ?_)
      refine g_iand F dX1_takesBlock_49 ?_
      refine g_ifne F (tgt := 57) dX1_takesBlock_50 (by decide) h (fun h => ?_) (fun h => ?_)
      · refine g_iconst F (v := 1) dX1_takesBlock_53 (by decide) ?_
        refine g_goto F (tgt := 58) dX1_takesBlock_54 (by decide) ?_
        refine g_sub (lv' := []) [] rfl ?_
        exact wX1_takesBlock_58 F R hr 1 s2 h
      · refine g_sub (lv' := []) [] rfl ?_
        exact wX1_takesBlock_57 F R hr s2 h
theorem mX1_takesBlock {l : Launch} {w : Wd} (N : Nat) (hi : inj true w) {r : Nat} (hr : isRow w r) {res : Int32 × SS} {a1 a2 : Int32} {s0 : SS} (h : fX1_takesBlock N r a1 a2 s0 = some res) : MI true l yX1_takesBlock cX1_takesBlock 3 (some .boolean) { frames := 1, cells := 0, slots := 0, locals := 21 } w [rf w r, .int a1, .int a2] s0 res := by
  refine mk_z (by decide) hi (Nat.le_of_ble_eq_true rfl) (fun X hX hL F R => ?_)
  subst hX; subst hL
  exact wX1_takesBlock_e F R hr a1 a2 s0 h
set_option maxRecDepth 20000 in
theorem wX1_remove_105 {X : Cx} (F : Fx true X cX1_remove RX1 3 0 0) {res : SS} (R : RV true X cX1_remove 3 res) {N : Nat} {r : Nat} (hr : isRow X.2.2 r) : ∀  (s0 : SS), fX1_remove_105 N r s0 = some res → G true X 3 105 [] [] s0 := by
  intro  s0 h
  unfold fX1_remove_105 at h
  exact R _ _ _ dX1_remove_105 h
set_option maxRecDepth 20000 in
theorem wX1_remove_e {X : Cx} (F : Fx true X cX1_remove RX1 3 0 0) {res : SS} (R : RV true X cX1_remove 3 res) {N : Nat} {r : Nat} (hr : isRow X.2.2 r) : ∀ (a1 : Int32) (s0 : SS), fX1_remove N r a1 s0 = some res → G true X 3 0 [(0, rf X.2.2 r), (1, .int a1)] [] s0 := by
  intro a1 s0 h
  unfold fX1_remove at h
  refine g_aload_n F (a := r) (j := 0) dX1_remove_0 rfl rfl ?_
  refine gt_X1_9 F (k := r) hr.1 dX1_remove_1 (v := rf X.2.2 (r + 1)) rfl ?_
  refine g_iload_n F (j := 1) dX1_remove_4 rfl rfl ?_
  refine g_iald F (k := (r + 1)) hr.2.1 dX1_remove_5 h (fun h => ?_)
  refine g_istore_n F dX1_remove_6 rfl (by decide) (lv' := [(0, rf X.2.2 r), (1, .int a1), (2, .int (s0 (r + 1) (Int32.toNatClampNeg a1)))]) [1, 2, 0] rfl ?_
  refine g_iload_n F (j := 2) dX1_remove_7 rfl rfl ?_
  refine g_iconst F (v := (-1)) dX1_remove_8 (by decide) ?_
  refine g_icmp_ne F (tgt := 13) dX1_remove_9 (by decide) h (fun h => ?_) (fun h => ?_)
  · exact R _ _ _ dX1_remove_12 h
  · refine g_aload_n F (a := r) (j := 0) dX1_remove_13 rfl rfl ?_
    refine gt_X1_9 F (k := r) hr.1 dX1_remove_14 (v := rf X.2.2 (r + 1)) rfl ?_
    refine g_iload_n F (j := 1) dX1_remove_17 rfl rfl ?_
    refine g_iconst F (v := (-1)) dX1_remove_18 (by decide) ?_
    refine g_iast F (k := (r + 1)) hr.2.1 dX1_remove_19 h (fun s1 h => ?_)
    refine g_aload_n F (a := r) (j := 0) dX1_remove_20 rfl rfl ?_
    refine gt_X1_15 F (k := r) hr.1 dX1_remove_21 (v := rf X.2.2 (r + 2)) rfl ?_
    refine g_iload_n F (j := 2) dX1_remove_24 rfl rfl ?_
    refine g_dup2 F dX1_remove_25 ?_
    refine g_iald F (k := (r + 2)) hr.2.2.1 dX1_remove_26 h (fun h => ?_)
    refine g_aload_n F (a := r) (j := 0) dX1_remove_27 rfl rfl ?_
    refine gt_X1_31 F (k := r) hr.1 dX1_remove_28 (v := rf X.2.2 1) rfl ?_
    refine gt_X1_52 F (k := 1) pc1 dX1_remove_31 (v := rf X.2.2 4) rfl ?_
    refine g_iload_n F (j := 1) dX1_remove_34 rfl rfl ?_
    refine g_iald F (k := 4) pc4 dX1_remove_35 h (fun h => ?_)
    refine g_isub F dX1_remove_36 ?_
    refine g_iast F (k := (r + 2)) hr.2.2.1 dX1_remove_37 h (fun s2 h => ?_)
    refine g_aload_n F (a := r) (j := 0) dX1_remove_38 rfl rfl ?_
    refine gt_X1_18 F (k := r) hr.1 dX1_remove_39 (v := rf X.2.2 (r + 3)) rfl ?_
    refine g_iload_n F (j := 2) dX1_remove_42 rfl rfl ?_
    refine g_dup2 F dX1_remove_43 ?_
    refine g_iald F (k := (r + 3)) hr.2.2.2.1 dX1_remove_44 h (fun h => ?_)
    refine g_aload_n F (a := r) (j := 0) dX1_remove_45 rfl rfl ?_
    refine gt_X1_31 F (k := r) hr.1 dX1_remove_46 (v := rf X.2.2 1) rfl ?_
    refine gt_X1_59 F (k := 1) pc1 dX1_remove_49 (v := rf X.2.2 5) rfl ?_
    refine g_iload_n F (j := 1) dX1_remove_52 rfl rfl ?_
    refine g_iald F (k := 5) pc5 dX1_remove_53 h (fun h => ?_)
    refine g_isub F dX1_remove_54 ?_
    refine g_iast F (k := (r + 3)) hr.2.2.2.1 dX1_remove_55 h (fun s3 h => ?_)
    refine g_aload_n F (a := r) (j := 0) dX1_remove_56 rfl rfl ?_
    refine gt_X1_24 F (k := r) hr.1 dX1_remove_57 (v := rf X.2.2 (r + 5)) rfl ?_
    refine g_iload_n F (j := 2) dX1_remove_60 rfl rfl ?_
    refine g_dup2 F dX1_remove_61 ?_
    refine g_iald F (k := (r + 5)) hr.2.2.2.2.2 dX1_remove_62 h (fun h => ?_)
    refine g_aload_n F (a := r) (j := 0) dX1_remove_63 rfl rfl ?_
    refine gt_X1_31 F (k := r) hr.1 dX1_remove_64 (v := rf X.2.2 1) rfl ?_
    refine gt_X1_65 F (k := 1) pc1 dX1_remove_67 (v := rf X.2.2 8) rfl ?_
    refine g_iload_n F (j := 1) dX1_remove_70 rfl rfl ?_
    refine g_iald F (k := 8) pc8 dX1_remove_71 h (fun h => ?_)
    refine g_iconst F (v := (-1)) dX1_remove_72 (by decide) ?_
    refine g_ixor F dX1_remove_73 ?_
    refine g_iand F dX1_remove_74 ?_
    refine g_iast F (k := (r + 5)) hr.2.2.2.2.2 dX1_remove_75 h (fun s4 h => ?_)
    refine g_aload_n F (a := r) (j := 0) dX1_remove_76 rfl rfl ?_
    refine gt_X1_21 F (k := r) hr.1 dX1_remove_77 (v := rf X.2.2 (r + 4)) rfl ?_
    refine g_iload_n F (j := 2) dX1_remove_80 rfl rfl ?_
    refine g_dup2 F dX1_remove_81 ?_
    refine g_iald F (k := (r + 4)) hr.2.2.2.2.1 dX1_remove_82 h (fun h => ?_)
    refine g_iconst F (v := 1) dX1_remove_83 (by decide) ?_
    refine g_isub F dX1_remove_84 ?_
    refine g_iast F (k := (r + 4)) hr.2.2.2.2.1 dX1_remove_85 h (fun s5 h => ?_)
    refine g_aload_n F (a := r) (j := 0) dX1_remove_86 rfl rfl ?_
    refine gt_X1_21 F (k := r) hr.1 dX1_remove_87 (v := rf X.2.2 (r + 4)) rfl ?_
    refine g_iload_n F (j := 2) dX1_remove_90 rfl rfl ?_
    refine g_iald F (k := (r + 4)) hr.2.2.2.2.1 dX1_remove_91 h (fun h => ?_)
    refine g_ifne F (tgt := 105) dX1_remove_92 (by decide) h (fun h => ?_) (fun h => ?_)
    · refine g_aload_n F (a := r) (j := 0) dX1_remove_95 rfl rfl ?_
      refine g_dupr F dX1_remove_96 ?_
      refine gt_X1_27 F (k := r) hr.1 dX1_remove_97 (v := .int (s5 r 6)) rfl ?_
      refine g_iconst F (v := 1) dX1_remove_100 (by decide) ?_
      refine g_isub F dX1_remove_101 ?_
      refine pt_X1_27 F (k := r) hr.1 (Nat.le_of_ble_eq_true rfl) rfl dX1_remove_102 h (fun s6 h => ?_)
      refine g_sub (lv' := []) [] rfl ?_
      exact wX1_remove_105 F R hr s6 h
    · refine g_sub (lv' := []) [] rfl ?_
      exact wX1_remove_105 F R hr s5 h
theorem mX1_remove {l : Launch} {w : Wd} (N : Nat) (hi : inj true w) {r : Nat} (hr : isRow w r) {res : SS} {a1 : Int32} {s0 : SS} (h : fX1_remove N r a1 s0 = some res) : MV true l yX1_remove cX1_remove 3 none { frames := 0, cells := 0, slots := 0, locals := 0 } w [rf w r, .int a1] s0 res := by
  refine mk_v (by decide) hi (Nat.le_of_ble_eq_true rfl) (fun X hX hL F R => ?_)
  subst hX; subst hL
  exact wX1_remove_e F R hr a1 s0 h
set_option maxRecDepth 20000 in
theorem wX1_shift_37 {X : Cx} (F : Fx true X cX1_shift RX1 4 1 22) {res : SS} (R : RV true X cX1_shift 4 res) {N : Nat} {r : Nat} (hr : isRow X.2.2 r) {k2 : Int32 → Int32 → Int32 → SS → Option (SS)} (hk2 : ∀ (x1 : Int32) (x2 : Int32) (x3 : Int32) (σ : SS), k2 x1 x2 x3 σ = some res → G true X 4 2 [(0, rf X.2.2 r), (1, .int x1), (2, .int x2), (3, .int x3)] [] σ) : ∀ (x1 : Int32) (x2 : Int32) (x3 : Int32) (s0 : SS), fX1_shift_37 N r k2 x1 x2 x3 s0 = some res → G true X 4 37 [(0, rf X.2.2 r), (1, .int x1), (2, .int x2), (3, .int x3)] [] s0 := by
  intro x1 x2 x3 s0 h
  unfold fX1_shift_37 at h
  refine g_iinc F (j := 3) (v := x3 + 1) dX1_shift_37 rfl rfl (by decide) (lv' := [(0, rf X.2.2 r), (1, .int x1), (2, .int x2), (3, .int (x3 + 1))]) [1, 2, 3, 0] rfl ?_
  refine g_goto F (tgt := 2) dX1_shift_40 (by decide) ?_
  exact hk2 x1 x2 (x3 + 1) s0 h
set_option maxRecDepth 20000 in
theorem wX1_shift_2 {X : Cx} (F : Fx true X cX1_shift RX1 4 1 22) {res : SS} (R : RV true X cX1_shift 4 res) {N : Nat} {r : Nat} (hr : isRow X.2.2 r) {k2 : Int32 → Int32 → Int32 → SS → Option (SS)} (hk2 : ∀ (x1 : Int32) (x2 : Int32) (x3 : Int32) (σ : SS), k2 x1 x2 x3 σ = some res → G true X 4 2 [(0, rf X.2.2 r), (1, .int x1), (2, .int x2), (3, .int x3)] [] σ) : ∀ (x1 : Int32) (x2 : Int32) (x3 : Int32) (s0 : SS), fX1_shift_2 N r k2 x1 x2 x3 s0 = some res → G true X 4 2 [(0, rf X.2.2 r), (1, .int x1), (2, .int x2), (3, .int x3)] [] s0 := by
  intro x1 x2 x3 s0 h
  unfold fX1_shift_2 at h
  refine g_iload_n F (j := 3) dX1_shift_2 rfl rfl ?_
  refine g_aload_n F (a := r) (j := 0) dX1_shift_3 rfl rfl ?_
  refine gt_X1_31 F (k := r) hr.1 dX1_shift_4 (v := rf X.2.2 1) rfl ?_
  refine gt_X1_74 F (k := 1) pc1 dX1_shift_7 (v := .int (s0 1 1)) rfl ?_
  refine g_icmp_ge F (tgt := 43) dX1_shift_10 (by decide) h (fun h => ?_) (fun h => ?_)
  · exact R _ _ _ dX1_shift_43 h
  · refine g_aload_n F (a := r) (j := 0) dX1_shift_13 rfl rfl ?_
    refine gt_X1_31 F (k := r) hr.1 dX1_shift_14 (v := rf X.2.2 1) rfl ?_
    refine gt_X1_49 F (k := 1) pc1 dX1_shift_17 (v := rf X.2.2 10) rfl ?_
    refine g_iload_n F (j := 3) dX1_shift_20 rfl rfl ?_
    refine g_iald F (k := 10) pc10 dX1_shift_21 h (fun h => ?_)
    refine g_iload_n F (j := 1) dX1_shift_22 rfl rfl ?_
    refine g_icmp_ne F (tgt := 37) dX1_shift_23 (by decide) h (fun h => ?_) (fun h => ?_)
    · refine g_aload_n F (a := r) (j := 0) dX1_shift_26 rfl rfl ?_
      refine g_iload_n F (j := 3) dX1_shift_27 rfl rfl ?_
      refine g_vv F (k := r) (As := [.int x3]) (rest := []) (fun _ q => mX1_remove N F.inj hr q) mw_X1_remove ml_X1_77 rfl ⟨Nat.le_of_ble_eq_true rfl, Nat.le_of_ble_eq_true rfl⟩ hr.1 cl1 rfl (Nat.le_of_ble_eq_true rfl) dX1_shift_28 h (fun s1 h => ?_)
      refine g_aload_n F (a := r) (j := 0) dX1_shift_31 rfl rfl ?_
      refine g_iload_n F (j := 3) dX1_shift_32 rfl rfl ?_
      refine g_iload_n F (j := 2) dX1_shift_33 rfl rfl ?_
      refine g_vv F (k := r) (As := [.int x3, .int x2]) (rest := []) (fun _ q => mX1_put N F.inj hr q) mw_X1_put ml_X1_81 rfl ⟨Nat.le_of_ble_eq_true rfl, Nat.le_of_ble_eq_true rfl⟩ hr.1 cl1 rfl (Nat.le_of_ble_eq_true rfl) dX1_shift_34 h (fun s2 h => ?_)
      exact wX1_shift_37 F R hr hk2 x1 x2 x3 s2 h
    · exact wX1_shift_37 F R hr hk2 x1 x2 x3 s0 h
theorem wX1_shift_2_lp {X : Cx} (F : Fx true X cX1_shift RX1 4 1 22) {res : SS} (R : RV true X cX1_shift 4 res) {N : Nat} {r : Nat} (hr : isRow X.2.2 r) : ∀ (n : Nat) (x1 : Int32) (x2 : Int32) (x3 : Int32) (s0 : SS), lp (fX1_shift_2 N r) (fun _ _ _ _ => none) n x1 x2 x3 s0 = some res → G true X 4 2 [(0, rf X.2.2 r), (1, .int x1), (2, .int x2), (3, .int x3)] [] s0 := by
  intro n
  induction n with
  | zero => intro x1 x2 x3 s0 h; cases (show (none : Option (SS)) = some res from h)
  | succ n ih => intro x1 x2 x3 s0 h; exact wX1_shift_2 F R hr ih x1 x2 x3 s0 h
set_option maxRecDepth 20000 in
theorem wX1_shift_e {X : Cx} (F : Fx true X cX1_shift RX1 4 1 22) {res : SS} (R : RV true X cX1_shift 4 res) {N : Nat} {r : Nat} (hr : isRow X.2.2 r) : ∀ (a1 : Int32) (a2 : Int32) (s0 : SS), fX1_shift N r a1 a2 s0 = some res → G true X 4 0 [(0, rf X.2.2 r), (1, .int a1), (2, .int a2)] [] s0 := by
  intro a1 a2 s0 h
  unfold fX1_shift at h
  refine g_iload_n F (j := 1) dX1_shift_0 rfl rfl ?_
  refine g_istore_n F dX1_shift_1 rfl (by decide) (lv' := [(0, rf X.2.2 r), (1, .int a1), (2, .int a2), (3, .int a1)]) [1, 2, 3, 0] rfl ?_
  exact wX1_shift_2_lp F R hr N a1 a2 a1 s0 h
theorem mX1_shift {l : Launch} {w : Wd} (N : Nat) (hi : inj true w) {r : Nat} (hr : isRow w r) {res : SS} {a1 a2 : Int32} {s0 : SS} (h : fX1_shift N r a1 a2 s0 = some res) : MV true l yX1_shift cX1_shift 4 none { frames := 1, cells := 0, slots := 0, locals := 22 } w [rf w r, .int a1, .int a2] s0 res := by
  refine mk_v (by decide) hi (Nat.le_of_ble_eq_true rfl) (fun X hX hL F R => ?_)
  subst hX; subst hL
  exact wX1_shift_e F R hr a1 a2 s0 h
set_option maxRecDepth 20000 in
theorem wX3_moveCost_e {X : Cx} (F : Fx true X cX3_moveCost RX3 2 0 0) {res : Int32 × SS} (R : RI true X cX3_moveCost 2 res) {N : Nat} : ∀ (a1 : Int32) (s0 : SS), fX3_moveCost N a1 s0 = some res → G true X 2 0 [(0, rf X.2.2 1), (1, .int a1)] [] s0 := by
  intro a1 s0 h
  unfold fX3_moveCost at h
  refine g_aload_n F (a := 1) (j := 0) dX3_moveCost_0 rfl rfl ?_
  refine gt_X3_46 F (k := 1) pc1 dX3_moveCost_1 (v := rf X.2.2 11) rfl ?_
  refine g_iload_n F (j := 1) dX3_moveCost_4 rfl rfl ?_
  refine g_iald F (k := 11) pc11 dX3_moveCost_5 h (fun h => ?_)
  refine g_aload_n F (a := 1) (j := 0) dX3_moveCost_6 rfl rfl ?_
  refine gt_X3_49 F (k := 1) pc1 dX3_moveCost_7 (v := rf X.2.2 12) rfl ?_
  refine g_iload_n F (j := 1) dX3_moveCost_10 rfl rfl ?_
  refine g_iald F (k := 12) pc12 dX3_moveCost_11 h (fun h => ?_)
  refine g_iadd F dX3_moveCost_12 ?_
  exact R _ _ _ _ dX3_moveCost_13 h
theorem mX3_moveCost {l : Launch} {w : Wd} (N : Nat) (hi : inj true w)  {res : Int32 × SS} {a1 : Int32} {s0 : SS} (h : fX3_moveCost N a1 s0 = some res) : MI true l yX3_moveCost cX3_moveCost 2 (some .int) { frames := 0, cells := 0, slots := 0, locals := 0 } w [rf w 1, .int a1] s0 res := by
  refine mk_i (by decide) hi (Nat.le_of_ble_eq_true rfl) (fun X hX hL F R => ?_)
  subst hX; subst hL
  exact wX3_moveCost_e F R a1 s0 h
set_option maxRecDepth 20000 in
theorem wX5_makeMove_e {X : Cx} (F : Fx true X cX5_makeMove RX5 3 2 45) {res : SS} (R : RV true X cX5_makeMove 3 res) {N : Nat} : ∀ (a1 : Int32) (a2 : Int32) (s0 : SS), fX5_makeMove N a1 a2 s0 = some res → G true X 3 0 [(0, rf X.2.2 0), (1, .int a1), (2, .int a2)] [] s0 := by
  intro a1 a2 s0 h
  unfold fX5_makeMove at h
  refine g_aload_n F (a := 0) (j := 0) dX5_makeMove_0 rfl rfl ?_
  refine gt_X5_21 F (k := 0) pc0 dX5_makeMove_1 (v := rf X.2.2 13) rfl ?_
  refine g_iload_n F (j := 1) dX5_makeMove_4 rfl rfl ?_
  refine g_iload_n F (j := 2) dX5_makeMove_5 rfl rfl ?_
  refine g_vv F (k := 13) (As := [.int a1, .int a2]) (rest := []) (fun _ q => mX1_shift N F.inj row13 q) mw_X1_shift ml_X5_233 rfl ⟨Nat.le_of_ble_eq_true rfl, Nat.le_of_ble_eq_true rfl⟩ pc13 cl1 rfl (Nat.le_of_ble_eq_true rfl) dX5_makeMove_6 h (fun s1 h => ?_)
  refine g_aload_n F (a := 0) (j := 0) dX5_makeMove_9 rfl rfl ?_
  refine g_dupr F dX5_makeMove_10 ?_
  refine gt_X5_68 F (k := 0) pc0 dX5_makeMove_11 (v := .int (s1 0 10)) rfl ?_
  refine g_aload_n F (a := 0) (j := 0) dX5_makeMove_14 rfl rfl ?_
  refine gt_X5_10 F (k := 0) pc0 dX5_makeMove_15 (v := rf X.2.2 1) rfl ?_
  refine g_iload_n F (j := 1) dX5_makeMove_18 rfl rfl ?_
  refine g_vi F (k := 1) (As := [.int a1]) (rest := [.int (s1 0 10), rf X.2.2 0]) (fun _ q => mX3_moveCost N F.inj  q) mw_X3_moveCost ml_X5_236 rfl ⟨Nat.le_of_ble_eq_true rfl, Nat.le_of_ble_eq_true rfl⟩ pc1 cl3 rfl (Nat.le_of_ble_eq_true rfl) dX5_makeMove_19 h (fun v2 s2 h => ?_)
  refine g_iadd F dX5_makeMove_22 ?_
  refine pt_X5_68 F (k := 0) pc0 (Nat.le_of_ble_eq_true rfl) rfl dX5_makeMove_23 h (fun s3 h => ?_)
  exact R _ _ _ dX5_makeMove_26 h
theorem mX5_makeMove {l : Launch} {w : Wd} (N : Nat) (hi : inj true w)  {res : SS} {a1 a2 : Int32} {s0 : SS} (h : fX5_makeMove N a1 a2 s0 = some res) : MV true l yX5_makeMove cX5_makeMove 3 none { frames := 2, cells := 0, slots := 0, locals := 45 } w [rf w 0, .int a1, .int a2] s0 res := by
  refine mk_v (by decide) hi (Nat.le_of_ble_eq_true rfl) (fun X hX hL F R => ?_)
  subst hX; subst hL
  exact wX5_makeMove_e F R a1 a2 s0 h
set_option maxRecDepth 20000 in
theorem wX5_move_30 {X : Cx} (F : Fx true X cX5_move RX5 3 3 67) {res : Int32 × SS} (R : RI true X cX5_move 3 res) {N : Nat} : ∀  (s0 : SS), fX5_move_30 N s0 = some res → G true X 3 30 [] [] s0 := by
  intro  s0 h
  unfold fX5_move_30 at h
  refine g_bipush F (v := (-2)) dX5_move_30 (by decide) ?_
  exact R _ _ _ _ dX5_move_32 h
set_option maxRecDepth 20000 in
theorem wX5_move_71 {X : Cx} (F : Fx true X cX5_move RX5 3 3 67) {res : Int32 × SS} (R : RI true X cX5_move 3 res) {N : Nat} : ∀  (s0 : SS), fX5_move_71 N s0 = some res → G true X 3 71 [] [] s0 := by
  intro  s0 h
  unfold fX5_move_71 at h
  refine g_bipush F (v := (-3)) dX5_move_71 (by decide) ?_
  exact R _ _ _ _ dX5_move_73 h
set_option maxRecDepth 20000 in
theorem wX5_move_e {X : Cx} (F : Fx true X cX5_move RX5 3 3 67) {res : Int32 × SS} (R : RI true X cX5_move 3 res) {N : Nat} : ∀ (a1 : Int32) (a2 : Int32) (s0 : SS), fX5_move N a1 a2 s0 = some res → G true X 3 0 [(0, rf X.2.2 0), (1, .int a1), (2, .int a2)] [] s0 := by
  intro a1 a2 s0 h
  unfold fX5_move at h
  refine g_aload_n F (a := 0) (j := 0) dX5_move_0 rfl rfl ?_
  refine gt_X5_10 F (k := 0) pc0 dX5_move_1 (v := rf X.2.2 1) rfl ?_
  refine g_iload_n F (j := 1) dX5_move_4 rfl rfl ?_
  refine g_vi F (k := 1) (As := [.int a1]) (rest := []) (fun _ q => mX3_hasWork N F.inj  q) mw_X3_hasWork ml_X5_106 rfl ⟨Nat.le_of_ble_eq_true rfl, Nat.le_of_ble_eq_true rfl⟩ pc1 cl3 rfl (Nat.le_of_ble_eq_true rfl) dX5_move_5 h (fun v1 s1 h => ?_)
  refine g_ifeq F (tgt := 30) dX5_move_8 (by decide) h (fun h => ?_) (fun h => ?_)
  · refine g_sub (lv' := []) [] rfl ?_
    exact wX5_move_30 F R s1 h
  · refine g_aload_n F (a := 0) (j := 0) dX5_move_11 rfl rfl ?_
    refine g_iload_n F (j := 1) dX5_move_12 rfl rfl ?_
    refine g_vi F (k := 0) (As := [.int a1]) (rest := []) (fun _ q => mX5_isBlockAtHand N F.inj  q) mw_X5_isBlockAtHand ml_X5_109 rfl ⟨Nat.le_of_ble_eq_true rfl, Nat.le_of_ble_eq_true rfl⟩ pc0 cl5 rfl (Nat.le_of_ble_eq_true rfl) dX5_move_13 h (fun v2 s2 h => ?_)
    refine g_ifeq F (tgt := 30) dX5_move_16 (by decide) h (fun h => ?_) (fun h => ?_)
    · refine g_sub (lv' := []) [] rfl ?_
      exact wX5_move_30 F R s2 h
    · refine g_aload_n F (a := 0) (j := 0) dX5_move_19 rfl rfl ?_
      refine gt_X5_10 F (k := 0) pc0 dX5_move_20 (v := rf X.2.2 1) rfl ?_
      refine g_iload_n F (j := 2) dX5_move_23 rfl rfl ?_
      refine g_vi F (k := 1) (As := [.int a2]) (rest := []) (fun _ q => mX3_hasMachine N F.inj  q) mw_X3_hasMachine ml_X5_86 rfl ⟨Nat.le_of_ble_eq_true rfl, Nat.le_of_ble_eq_true rfl⟩ pc1 cl3 rfl (Nat.le_of_ble_eq_true rfl) dX5_move_24 h (fun v3 s3 h => ?_)
      refine g_ifne F (tgt := 33) dX5_move_27 (by decide) h (fun h => ?_) (fun h => ?_)
      · refine g_sub (lv' := []) [] rfl ?_
        exact wX5_move_30 F R s3 h
      · refine g_aload_n F (a := 0) (j := 0) dX5_move_33 rfl rfl ?_
        refine gt_X5_10 F (k := 0) pc0 dX5_move_34 (v := rf X.2.2 1) rfl ?_
        refine gt_X5_112 F (k := 1) pc1 dX5_move_37 (v := rf X.2.2 6) rfl ?_
        refine g_iload_n F (j := 1) dX5_move_40 rfl rfl ?_
        refine g_iald F (k := 6) pc6 dX5_move_41 h (fun h => ?_)
        refine g_iconst F (v := 3) dX5_move_42 (by decide) ?_
        refine g_icmp_eq F (tgt := 71) dX5_move_43 (by decide) h (fun h => ?_) (fun h => ?_)
        · refine g_sub (lv' := []) [] rfl ?_
          exact wX5_move_71 F R s3 h
        · refine g_aload_n F (a := 0) (j := 0) dX5_move_46 rfl rfl ?_
          refine gt_X5_21 F (k := 0) pc0 dX5_move_47 (v := rf X.2.2 13) rfl ?_
          refine gt_X5_115 F (k := 13) pc13 dX5_move_50 (v := rf X.2.2 14) rfl ?_
          refine g_iload_n F (j := 1) dX5_move_53 rfl rfl ?_
          refine g_iald F (k := 14) pc14 dX5_move_54 h (fun h => ?_)
          refine g_iload_n F (j := 2) dX5_move_55 rfl rfl ?_
          refine g_icmp_eq F (tgt := 71) dX5_move_56 (by decide) h (fun h => ?_) (fun h => ?_)
          · refine g_sub (lv' := []) [] rfl ?_
            exact wX5_move_71 F R s3 h
          · refine g_aload_n F (a := 0) (j := 0) dX5_move_59 rfl rfl ?_
            refine gt_X5_21 F (k := 0) pc0 dX5_move_60 (v := rf X.2.2 13) rfl ?_
            refine g_iload_n F (j := 1) dX5_move_63 rfl rfl ?_
            refine g_iload_n F (j := 2) dX5_move_64 rfl rfl ?_
            refine g_vi F (k := 13) (As := [.int a1, .int a2]) (rest := []) (fun _ q => mX1_takesBlock N F.inj row13 q) mw_X1_takesBlock ml_X5_118 rfl ⟨Nat.le_of_ble_eq_true rfl, Nat.le_of_ble_eq_true rfl⟩ pc13 cl1 rfl (Nat.le_of_ble_eq_true rfl) dX5_move_65 h (fun v4 s4 h => ?_)
            refine g_ifne F (tgt := 74) dX5_move_68 (by decide) h (fun h => ?_) (fun h => ?_)
            · refine g_sub (lv' := []) [] rfl ?_
              exact wX5_move_71 F R s4 h
            · refine g_aload_n F (a := 0) (j := 0) dX5_move_74 rfl rfl ?_
              refine g_iload_n F (j := 1) dX5_move_75 rfl rfl ?_
              refine g_iload_n F (j := 2) dX5_move_76 rfl rfl ?_
              refine g_vv F (k := 0) (As := [.int a1, .int a2]) (rest := []) (fun _ q => mX5_makeMove N F.inj  q) mw_X5_makeMove ml_X5_121 rfl ⟨Nat.le_of_ble_eq_true rfl, Nat.le_of_ble_eq_true rfl⟩ pc0 cl5 rfl (Nat.le_of_ble_eq_true rfl) dX5_move_77 h (fun s5 h => ?_)
              refine g_aload_n F (a := 0) (j := 0) dX5_move_80 rfl rfl ?_
              refine g_iconst F (v := 0) dX5_move_81 (by decide) ?_
              refine pt_X5_54 F (k := 0) pc0 (Nat.le_of_ble_eq_true rfl) rfl dX5_move_82 (by decide) h (fun s6 h => ?_)
              refine g_iconst F (v := 1) dX5_move_85 (by decide) ?_
              exact R _ _ _ _ dX5_move_86 h
theorem mX5_move {l : Launch} {w : Wd} (N : Nat) (hi : inj true w)  {res : Int32 × SS} {a1 a2 : Int32} {s0 : SS} (h : fX5_move N a1 a2 s0 = some res) : MI true l yX5_move cX5_move 3 (some .int) { frames := 3, cells := 0, slots := 0, locals := 67 } w [rf w 0, .int a1, .int a2] s0 res := by
  refine mk_i (by decide) hi (Nat.le_of_ble_eq_true rfl) (fun X hX hL F R => ?_)
  subst hX; subst hL
  exact wX5_move_e F R a1 a2 s0 h
set_option maxRecDepth 20000 in
theorem wX6_blockOf_26 {X : Cx} (F : Fx false X cX6_blockOf RX6 3 1 23) {res : Int32 × SS} (R : RI false X cX6_blockOf 3 res) {N : Nat} {k2 : Int32 → Int32 → SS → Option (Int32 × SS)} (hk2 : ∀ (x1 : Int32) (x2 : Int32) (σ : SS), k2 x1 x2 σ = some res → G false X 3 2 [(0, rf X.2.2 0), (1, .int x1), (2, .int x2)] [] σ) : ∀ (x1 : Int32) (x2 : Int32) (s0 : SS), fX6_blockOf_26 N k2 x1 x2 s0 = some res → G false X 3 26 [(0, rf X.2.2 0), (1, .int x1), (2, .int x2)] [] s0 := by
  intro x1 x2 s0 h
  unfold fX6_blockOf_26 at h
  refine g_iinc F (j := 2) (v := x2 + 1) dX6_blockOf_26 rfl rfl (by decide) (lv' := [(0, rf X.2.2 0), (1, .int x1), (2, .int (x2 + 1))]) [1, 2, 0] rfl ?_
  refine g_goto F (tgt := 2) dX6_blockOf_29 (by decide) ?_
  exact hk2 x1 (x2 + 1) s0 h
set_option maxRecDepth 20000 in
theorem wX6_blockOf_32 {X : Cx} (F : Fx false X cX6_blockOf RX6 3 1 23) {res : Int32 × SS} (R : RI false X cX6_blockOf 3 res) {N : Nat} : ∀ (x2 : Int32) (s0 : SS), fX6_blockOf_32 N x2 s0 = some res → G false X 3 32 [(2, .int x2)] [] s0 := by
  intro x2 s0 h
  unfold fX6_blockOf_32 at h
  refine g_iload_n F (j := 0) dX6_blockOf_32 rfl rfl ?_
  exact R _ _ _ _ dX6_blockOf_33 h
set_option maxRecDepth 20000 in
theorem wX6_blockOf_2 {X : Cx} (F : Fx false X cX6_blockOf RX6 3 1 23) {res : Int32 × SS} (R : RI false X cX6_blockOf 3 res) {N : Nat} {k2 : Int32 → Int32 → SS → Option (Int32 × SS)} (hk2 : ∀ (x1 : Int32) (x2 : Int32) (σ : SS), k2 x1 x2 σ = some res → G false X 3 2 [(0, rf X.2.2 0), (1, .int x1), (2, .int x2)] [] σ) : ∀ (x1 : Int32) (x2 : Int32) (s0 : SS), fX6_blockOf_2 N k2 x1 x2 s0 = some res → G false X 3 2 [(0, rf X.2.2 0), (1, .int x1), (2, .int x2)] [] s0 := by
  intro x1 x2 s0 h
  unfold fX6_blockOf_2 at h
  refine g_iload_n F (j := 2) dX6_blockOf_2 rfl rfl ?_
  refine g_iload_n F (j := 1) dX6_blockOf_3 rfl rfl ?_
  refine g_icmp_ge F (tgt := 32) dX6_blockOf_4 (by decide) h (fun h => ?_) (fun h => ?_)
  · refine g_sub (lv' := [(2, .int x2)]) [2] rfl ?_
    exact wX6_blockOf_32 F R x2 s0 h
  · refine g_aload_n F (a := 0) (j := 0) dX6_blockOf_7 rfl rfl ?_
    refine gt_X6_31 F (k := 0) pm0 dX6_blockOf_8 (v := rf X.2.2 8) rfl ?_
    refine g_iload_n F (j := 2) dX6_blockOf_11 rfl rfl ?_
    refine g_zald F (k := 8) pm8 dX6_blockOf_12 h (fun h => ?_)
    refine g_ifne F (tgt := 26) dX6_blockOf_13 (by decide) h (fun h => ?_) (fun h => ?_)
    · refine g_aload_n F (a := 0) (j := 0) dX6_blockOf_16 rfl rfl ?_
      refine g_iload_n F (j := 1) dX6_blockOf_17 rfl rfl ?_
      refine g_iload_n F (j := 2) dX6_blockOf_18 rfl rfl ?_
      refine g_iconst F (v := 2) dX6_blockOf_19 (by decide) ?_
      refine g_vi F (k := 0) (As := [.int x1, .int x2, .int 2]) (rest := []) (fun _ q => mX6_isLike N F.inj  q) mw_X6_isLike ml_X6_70 rfl ⟨Nat.le_of_ble_eq_true rfl, Nat.le_of_ble_eq_true rfl⟩ pm0 cl6 rfl (Nat.le_of_ble_eq_true rfl) dX6_blockOf_20 h (fun v1 s1 h => ?_)
      refine g_ifne F (tgt := 32) dX6_blockOf_23 (by decide) h (fun h => ?_) (fun h => ?_)
      · exact wX6_blockOf_26 F R hk2 x1 x2 s1 h
      · refine g_sub (lv' := [(2, .int x2)]) [2] rfl ?_
        exact wX6_blockOf_32 F R x2 s1 h
    · exact wX6_blockOf_26 F R hk2 x1 x2 s0 h
theorem wX6_blockOf_2_lp {X : Cx} (F : Fx false X cX6_blockOf RX6 3 1 23) {res : Int32 × SS} (R : RI false X cX6_blockOf 3 res) {N : Nat} : ∀ (n : Nat) (x1 : Int32) (x2 : Int32) (s0 : SS), lp (fX6_blockOf_2 N) (fun _ _ _ => none) n x1 x2 s0 = some res → G false X 3 2 [(0, rf X.2.2 0), (1, .int x1), (2, .int x2)] [] s0 := by
  intro n
  induction n with
  | zero => intro x1 x2 s0 h; cases (show (none : Option (Int32 × SS)) = some res from h)
  | succ n ih => intro x1 x2 s0 h; exact wX6_blockOf_2 F R ih x1 x2 s0 h
set_option maxRecDepth 20000 in
theorem wX6_blockOf_e {X : Cx} (F : Fx false X cX6_blockOf RX6 3 1 23) {res : Int32 × SS} (R : RI false X cX6_blockOf 3 res) {N : Nat} : ∀ (a1 : Int32) (s0 : SS), fX6_blockOf N a1 s0 = some res → G false X 3 0 [(0, rf X.2.2 0), (1, .int a1)] [] s0 := by
  intro a1 s0 h
  unfold fX6_blockOf at h
  refine g_iconst F (v := 0) dX6_blockOf_0 (by decide) ?_
  refine g_istore_n F dX6_blockOf_1 rfl (by decide) (lv' := [(0, rf X.2.2 0), (1, .int a1), (2, .int 0)]) [1, 2, 0] rfl ?_
  exact wX6_blockOf_2_lp F R N a1 0 s0 h
theorem mX6_blockOf {l : Launch} {w : Wd} (N : Nat) (hi : inj false w)  {res : Int32 × SS} {a1 : Int32} {s0 : SS} (h : fX6_blockOf N a1 s0 = some res) : MI false l yX6_blockOf cX6_blockOf 3 (some .int) { frames := 1, cells := 0, slots := 0, locals := 23 } w [rf w 0, .int a1] s0 res := by
  refine mk_i (by decide) hi (Nat.le_of_ble_eq_true rfl) (fun X hX hL F R => ?_)
  subst hX; subst hL
  exact wX6_blockOf_e F R a1 s0 h
set_option maxRecDepth 20000 in
theorem wX6_isBlock_37 {X : Cx} (F : Fx false X cX6_isBlock RX6 2 2 45) {res : Int32 × SS} (R : RZ false X cX6_isBlock 2 res) {N : Nat} : ∀ (t0 : Int32) (s0 : SS), fX6_isBlock_37 N t0 s0 = some res → G false X 2 37 [] [.int t0] s0 := by
  intro t0 s0 h
  unfold fX6_isBlock_37 at h
  exact R _ _ _ _ dX6_isBlock_37 h
set_option maxRecDepth 20000 in
theorem wX6_isBlock_36 {X : Cx} (F : Fx false X cX6_isBlock RX6 2 2 45) {res : Int32 × SS} (R : RZ false X cX6_isBlock 2 res) {N : Nat} : ∀  (s0 : SS), fX6_isBlock_36 N s0 = some res → G false X 2 36 [] [] s0 := by
  intro  s0 h
  unfold fX6_isBlock_36 at h
  refine g_iconst F (v := 0) dX6_isBlock_36 (by decide) ?_
  exact wX6_isBlock_37 F R 0 s0 h
set_option maxRecDepth 20000 in
theorem wX6_isBlock_e {X : Cx} (F : Fx false X cX6_isBlock RX6 2 2 45) {res : Int32 × SS} (R : RZ false X cX6_isBlock 2 res) {N : Nat} : ∀ (a1 : Int32) (s0 : SS), fX6_isBlock N a1 s0 = some res → G false X 2 0 [(0, rf X.2.2 0), (1, .int a1)] [] s0 := by
  intro a1 s0 h
  unfold fX6_isBlock at h
  refine g_iload_n F (j := 1) dX6_isBlock_0 rfl rfl ?_
  refine g_iconst F (v := 0) dX6_isBlock_1 (by decide) ?_
  refine g_aload_n F (a := 0) (j := 0) dX6_isBlock_2 rfl rfl ?_
  refine gt_X6_67 F (k := 0) pm0 dX6_isBlock_3 (v := .int (s0 0 3)) rfl ?_
  refine g_iconst F (v := 1) dX6_isBlock_6 (by decide) ?_
  refine g_isub F dX6_isBlock_7 ?_
  refine g_si F (As := [.int a1, .int 0, .int ((s0 0 3) - 1)]) (rest := []) (fun _ q => mX6_in N F.inj  q) mw_X6_in ml_X6_60 rfl ⟨Nat.le_of_ble_eq_true rfl, Nat.le_of_ble_eq_true rfl⟩ rfl (Nat.le_of_ble_eq_true rfl) dX6_isBlock_8 h (fun v1 s1 h => ?_)
  refine g_ifeq F (tgt := 36) dX6_isBlock_11 (by decide) h (fun h => ?_) (fun h => ?_)
  · refine g_sub (lv' := []) [] rfl ?_
    exact wX6_isBlock_36 F R s1 h
  · refine g_aload_n F (a := 0) (j := 0) dX6_isBlock_14 rfl rfl ?_
    refine gt_X6_31 F (k := 0) pm0 dX6_isBlock_15 (v := rf X.2.2 8) rfl ?_
    refine g_iload_n F (j := 1) dX6_isBlock_18 rfl rfl ?_
    refine g_zald F (k := 8) pm8 dX6_isBlock_19 h (fun h => ?_)
    refine g_ifne F (tgt := 36) dX6_isBlock_20 (by decide) h (fun h => ?_) (fun h => ?_)
    · refine g_aload_n F (a := 0) (j := 0) dX6_isBlock_23 rfl rfl ?_
      refine g_iload_n F (j := 1) dX6_isBlock_24 rfl rfl ?_
      refine g_vi F (k := 0) (As := [.int a1]) (rest := []) (fun _ q => mX6_blockOf N F.inj  q) mw_X6_blockOf ml_X6_99 rfl ⟨Nat.le_of_ble_eq_true rfl, Nat.le_of_ble_eq_true rfl⟩ pm0 cl6 rfl (Nat.le_of_ble_eq_true rfl) dX6_isBlock_25 h (fun v2 s2 h => ?_)
      refine g_iload_n F (j := 1) dX6_isBlock_28 rfl rfl ?_
      refine g_icmp_ne F (tgt := 36) dX6_isBlock_29 (by decide) h (fun h => ?_) (fun h => ?_)
      · refine g_iconst F (v := 1) dX6_isBlock_32 (by decide) ?_
        refine g_goto F (tgt := 37) dX6_isBlock_33 (by decide) ?_
        refine g_sub (lv' := []) [] rfl ?_
        exact wX6_isBlock_37 F R 1 s2 h
      · refine g_sub (lv' := []) [] rfl ?_
        exact wX6_isBlock_36 F R s2 h
    · refine g_sub (lv' := []) [] rfl ?_
      exact wX6_isBlock_36 F R s1 h
theorem mX6_isBlock {l : Launch} {w : Wd} (N : Nat) (hi : inj false w)  {res : Int32 × SS} {a1 : Int32} {s0 : SS} (h : fX6_isBlock N a1 s0 = some res) : MI false l yX6_isBlock cX6_isBlock 2 (some .boolean) { frames := 2, cells := 0, slots := 0, locals := 45 } w [rf w 0, .int a1] s0 res := by
  refine mk_z (by decide) hi (Nat.le_of_ble_eq_true rfl) (fun X hX hL F R => ?_)
  subst hX; subst hL
  exact wX6_isBlock_e F R a1 s0 h
set_option maxRecDepth 20000 in
theorem wX6_isOf_23 {X : Cx} (F : Fx false X cX6_isOf RX6 3 2 45) {res : Int32 × SS} (R : RZ false X cX6_isOf 3 res) {N : Nat} : ∀ (t0 : Int32) (s0 : SS), fX6_isOf_23 N t0 s0 = some res → G false X 3 23 [] [.int t0] s0 := by
  intro t0 s0 h
  unfold fX6_isOf_23 at h
  exact R _ _ _ _ dX6_isOf_23 h
set_option maxRecDepth 20000 in
theorem wX6_isOf_22 {X : Cx} (F : Fx false X cX6_isOf RX6 3 2 45) {res : Int32 × SS} (R : RZ false X cX6_isOf 3 res) {N : Nat} : ∀  (s0 : SS), fX6_isOf_22 N s0 = some res → G false X 3 22 [] [] s0 := by
  intro  s0 h
  unfold fX6_isOf_22 at h
  refine g_iconst F (v := 0) dX6_isOf_22 (by decide) ?_
  exact wX6_isOf_23 F R 0 s0 h
set_option maxRecDepth 20000 in
theorem wX6_isOf_e {X : Cx} (F : Fx false X cX6_isOf RX6 3 2 45) {res : Int32 × SS} (R : RZ false X cX6_isOf 3 res) {N : Nat} : ∀ (a1 : Int32) (a2 : Int32) (s0 : SS), fX6_isOf N a1 a2 s0 = some res → G false X 3 0 [(0, rf X.2.2 0), (1, .int a1), (2, .int a2)] [] s0 := by
  intro a1 a2 s0 h
  unfold fX6_isOf at h
  refine g_aload_n F (a := 0) (j := 0) dX6_isOf_0 rfl rfl ?_
  refine gt_X6_31 F (k := 0) pm0 dX6_isOf_1 (v := rf X.2.2 8) rfl ?_
  refine g_iload_n F (j := 1) dX6_isOf_4 rfl rfl ?_
  refine g_zald F (k := 8) pm8 dX6_isOf_5 h (fun h => ?_)
  refine g_ifne F (tgt := 22) dX6_isOf_6 (by decide) h (fun h => ?_) (fun h => ?_)
  · refine g_aload_n F (a := 0) (j := 0) dX6_isOf_9 rfl rfl ?_
    refine g_iload_n F (j := 1) dX6_isOf_10 rfl rfl ?_
    refine g_vi F (k := 0) (As := [.int a1]) (rest := []) (fun _ q => mX6_blockOf N F.inj  q) mw_X6_blockOf ml_X6_99 rfl ⟨Nat.le_of_ble_eq_true rfl, Nat.le_of_ble_eq_true rfl⟩ pm0 cl6 rfl (Nat.le_of_ble_eq_true rfl) dX6_isOf_11 h (fun v1 s1 h => ?_)
    refine g_iload_n F (j := 2) dX6_isOf_14 rfl rfl ?_
    refine g_icmp_ne F (tgt := 22) dX6_isOf_15 (by decide) h (fun h => ?_) (fun h => ?_)
    · refine g_iconst F (v := 1) dX6_isOf_18 (by decide) ?_
      refine g_goto F (tgt := 23) dX6_isOf_19 (by decide) ?_
      refine g_sub (lv' := []) [] rfl ?_
      exact wX6_isOf_23 F R 1 s1 h
    · refine g_sub (lv' := []) [] rfl ?_
      exact wX6_isOf_22 F R s1 h
  · refine g_sub (lv' := []) [] rfl ?_
    exact wX6_isOf_22 F R s0 h
theorem mX6_isOf {l : Launch} {w : Wd} (N : Nat) (hi : inj false w)  {res : Int32 × SS} {a1 a2 : Int32} {s0 : SS} (h : fX6_isOf N a1 a2 s0 = some res) : MI false l yX6_isOf cX6_isOf 3 (some .boolean) { frames := 2, cells := 0, slots := 0, locals := 45 } w [rf w 0, .int a1, .int a2] s0 res := by
  refine mk_z (by decide) hi (Nat.le_of_ble_eq_true rfl) (fun X hX hL F R => ?_)
  subst hX; subst hL
  exact wX6_isOf_e F R a1 a2 s0 h
set_option maxRecDepth 20000 in
theorem wX6_place_92 {X : Cx} (F : Fx false X cX6_place RX6 6 3 67) {res : SS} (R : RV false X cX6_place 6 res) {N : Nat} {k3 : Int32 → Int32 → Int32 → Int32 → SS → Option (SS)} {k43 : Int32 → Int32 → Int32 → Int32 → Int32 → SS → Option (SS)} (hk3 : ∀ (x1 : Int32) (x2 : Int32) (x3 : Int32) (x4 : Int32) (σ : SS), k3 x1 x2 x3 x4 σ = some res → G false X 6 3 [(0, rf X.2.2 0), (1, .int x1), (2, .int x2), (3, .int x3), (4, .int x4)] [] σ) (hk43 : ∀ (x1 : Int32) (x2 : Int32) (x3 : Int32) (x4 : Int32) (x5 : Int32) (σ : SS), k43 x1 x2 x3 x4 x5 σ = some res → G false X 6 43 [(0, rf X.2.2 0), (1, .int x1), (2, .int x2), (3, .int x3), (4, .int x4), (5, .int x5)] [] σ) : ∀ (x1 : Int32) (x2 : Int32) (x3 : Int32) (x4 : Int32) (x5 : Int32) (s0 : SS), fX6_place_92 N k3 k43 x1 x2 x3 x4 x5 s0 = some res → G false X 6 92 [(0, rf X.2.2 0), (1, .int x1), (2, .int x2), (3, .int x3), (4, .int x4), (5, .int x5)] [] s0 := by
  intro x1 x2 x3 x4 x5 s0 h
  unfold fX6_place_92 at h
  refine g_iinc F (j := 5) (v := x5 + 1) dX6_place_92 rfl rfl (by decide) (lv' := [(0, rf X.2.2 0), (1, .int x1), (2, .int x2), (3, .int x3), (4, .int x4), (5, .int (x5 + 1))]) [1, 2, 3, 4, 5, 0] rfl ?_
  refine g_goto F (tgt := 43) dX6_place_95 (by decide) ?_
  exact hk43 x1 x2 x3 x4 (x5 + 1) s0 h
set_option maxRecDepth 20000 in
theorem wX6_place_120 {X : Cx} (F : Fx false X cX6_place RX6 6 3 67) {res : SS} (R : RV false X cX6_place 6 res) {N : Nat} {k3 : Int32 → Int32 → Int32 → Int32 → SS → Option (SS)} (hk3 : ∀ (x1 : Int32) (x2 : Int32) (x3 : Int32) (x4 : Int32) (σ : SS), k3 x1 x2 x3 x4 σ = some res → G false X 6 3 [(0, rf X.2.2 0), (1, .int x1), (2, .int x2), (3, .int x3), (4, .int x4)] [] σ) : ∀ (x1 : Int32) (x2 : Int32) (x3 : Int32) (x4 : Int32) (s0 : SS), fX6_place_120 N k3 x1 x2 x3 x4 s0 = some res → G false X 6 120 [(0, rf X.2.2 0), (1, .int x1), (2, .int x2), (3, .int x3), (4, .int x4)] [] s0 := by
  intro x1 x2 x3 x4 s0 h
  unfold fX6_place_120 at h
  refine g_iinc F (j := 4) (v := x4 + 1) dX6_place_120 rfl rfl (by decide) (lv' := [(0, rf X.2.2 0), (1, .int x1), (2, .int x2), (3, .int x3), (4, .int (x4 + 1))]) [1, 2, 3, 4, 0] rfl ?_
  refine g_goto F (tgt := 3) dX6_place_123 (by decide) ?_
  exact hk3 x1 x2 x3 (x4 + 1) s0 h
set_option maxRecDepth 20000 in
theorem wX6_place_43 {X : Cx} (F : Fx false X cX6_place RX6 6 3 67) {res : SS} (R : RV false X cX6_place 6 res) {N : Nat} {k3 : Int32 → Int32 → Int32 → Int32 → SS → Option (SS)} {k43 : Int32 → Int32 → Int32 → Int32 → Int32 → SS → Option (SS)} (hk3 : ∀ (x1 : Int32) (x2 : Int32) (x3 : Int32) (x4 : Int32) (σ : SS), k3 x1 x2 x3 x4 σ = some res → G false X 6 3 [(0, rf X.2.2 0), (1, .int x1), (2, .int x2), (3, .int x3), (4, .int x4)] [] σ) (hk43 : ∀ (x1 : Int32) (x2 : Int32) (x3 : Int32) (x4 : Int32) (x5 : Int32) (σ : SS), k43 x1 x2 x3 x4 x5 σ = some res → G false X 6 43 [(0, rf X.2.2 0), (1, .int x1), (2, .int x2), (3, .int x3), (4, .int x4), (5, .int x5)] [] σ) : ∀ (x1 : Int32) (x2 : Int32) (x3 : Int32) (x4 : Int32) (x5 : Int32) (s0 : SS), fX6_place_43 N k3 k43 x1 x2 x3 x4 x5 s0 = some res → G false X 6 43 [(0, rf X.2.2 0), (1, .int x1), (2, .int x2), (3, .int x3), (4, .int x4), (5, .int x5)] [] s0 := by
  intro x1 x2 x3 x4 x5 s0 h
  unfold fX6_place_43 at h
  refine g_iload F (j := 5) dX6_place_43 rfl ?_
  refine g_aload_n F (a := 0) (j := 0) dX6_place_45 rfl rfl ?_
  refine gt_X6_164 F (k := 0) pm0 dX6_place_46 (v := .int (s0 0 23)) rfl ?_
  refine g_icmp_ge F (tgt := 98) dX6_place_49 (by decide) h (fun h => ?_) (fun h => ?_)
  · refine g_iload_n F (j := 2) dX6_place_98 rfl rfl ?_
    refine g_iflt F (tgt := 120) dX6_place_99 (by decide) h (fun h => ?_) (fun h => ?_)
    · refine g_sub (lv' := [(0, rf X.2.2 0), (1, .int x1), (2, .int x2), (3, .int x3), (4, .int x4)]) [0, 1, 2, 3, 4] rfl ?_
      exact wX6_place_120 F R hk3 x1 x2 x3 x4 s0 h
    · refine g_aload_n F (a := 0) (j := 0) dX6_place_102 rfl rfl ?_
      refine g_iload F (j := 4) dX6_place_103 rfl ?_
      refine g_iload_n F (j := 2) dX6_place_105 rfl rfl ?_
      refine g_vi F (k := 0) (As := [.int x4, .int x2]) (rest := []) (fun _ q => mX6_isOf N F.inj  q) mw_X6_isOf ml_X6_102 rfl ⟨Nat.le_of_ble_eq_true rfl, Nat.le_of_ble_eq_true rfl⟩ pm0 cl6 rfl (Nat.le_of_ble_eq_true rfl) dX6_place_106 h (fun v1 s1 h => ?_)
      refine g_ifeq F (tgt := 120) dX6_place_109 (by decide) h (fun h => ?_) (fun h => ?_)
      · refine g_sub (lv' := [(0, rf X.2.2 0), (1, .int x1), (2, .int x2), (3, .int x3), (4, .int x4)]) [0, 1, 2, 3, 4] rfl ?_
        exact wX6_place_120 F R hk3 x1 x2 x3 x4 s1 h
      · refine g_aload_n F (a := 0) (j := 0) dX6_place_112 rfl rfl ?_
        refine gt_X6_51 F (k := 0) pm0 dX6_place_113 (v := rf X.2.2 13) rfl ?_
        refine g_iload F (j := 4) dX6_place_116 rfl ?_
        refine g_iload_n F (j := 3) dX6_place_118 rfl rfl ?_
        refine g_iast F (k := 13) pm13 dX6_place_119 h (fun s2 h => ?_)
        refine g_sub (lv' := [(0, rf X.2.2 0), (1, .int x1), (2, .int x2), (3, .int x3), (4, .int x4)]) [0, 1, 2, 3, 4] rfl ?_
        exact wX6_place_120 F R hk3 x1 x2 x3 x4 s2 h
  · refine g_iload_n F (j := 1) dX6_place_52 rfl rfl ?_
    refine g_iload F (j := 5) dX6_place_53 rfl ?_
    refine g_ishr F dX6_place_55 ?_
    refine g_iconst F (v := 1) dX6_place_56 (by decide) ?_
    refine g_iand F dX6_place_57 ?_
    refine g_iconst F (v := 1) dX6_place_58 (by decide) ?_
    refine g_icmp_ne F (tgt := 92) dX6_place_59 (by decide) h (fun h => ?_) (fun h => ?_)
    · refine g_aload_n F (a := 0) (j := 0) dX6_place_62 rfl rfl ?_
      refine g_iload F (j := 4) dX6_place_63 rfl ?_
      refine g_aload_n F (a := 0) (j := 0) dX6_place_65 rfl rfl ?_
      refine gt_X6_48 F (k := 0) pm0 dX6_place_66 (v := rf X.2.2 12) rfl ?_
      refine g_iload F (j := 5) dX6_place_69 rfl ?_
      refine g_iald F (k := 12) pm12 dX6_place_71 h (fun h => ?_)
      refine g_vi F (k := 0) (As := [.int x4, .int (s0 12 (Int32.toNatClampNeg x5))]) (rest := []) (fun _ q => mX6_isOf N F.inj  q) mw_X6_isOf ml_X6_102 rfl ⟨Nat.le_of_ble_eq_true rfl, Nat.le_of_ble_eq_true rfl⟩ pm0 cl6 rfl (Nat.le_of_ble_eq_true rfl) dX6_place_72 h (fun v3 s3 h => ?_)
      refine g_ifeq F (tgt := 92) dX6_place_75 (by decide) h (fun h => ?_) (fun h => ?_)
      · exact wX6_place_92 F R hk3 hk43 x1 x2 x3 x4 x5 s3 h
      · refine g_aload_n F (a := 0) (j := 0) dX6_place_78 rfl rfl ?_
        refine gt_X6_51 F (k := 0) pm0 dX6_place_79 (v := rf X.2.2 13) rfl ?_
        refine g_iload F (j := 4) dX6_place_82 rfl ?_
        refine g_aload_n F (a := 0) (j := 0) dX6_place_84 rfl rfl ?_
        refine gt_X6_45 F (k := 0) pm0 dX6_place_85 (v := rf X.2.2 11) rfl ?_
        refine g_iload F (j := 4) dX6_place_88 rfl ?_
        refine g_iald F (k := 11) pm11 dX6_place_90 h (fun h => ?_)
        refine g_iast F (k := 13) pm13 dX6_place_91 h (fun s4 h => ?_)
        exact wX6_place_92 F R hk3 hk43 x1 x2 x3 x4 x5 s4 h
    · exact wX6_place_92 F R hk3 hk43 x1 x2 x3 x4 x5 s0 h
theorem wX6_place_43_lp {X : Cx} (F : Fx false X cX6_place RX6 6 3 67) {res : SS} (R : RV false X cX6_place 6 res) {N : Nat} {k3 : Int32 → Int32 → Int32 → Int32 → SS → Option (SS)} (hk3 : ∀ (x1 : Int32) (x2 : Int32) (x3 : Int32) (x4 : Int32) (σ : SS), k3 x1 x2 x3 x4 σ = some res → G false X 6 3 [(0, rf X.2.2 0), (1, .int x1), (2, .int x2), (3, .int x3), (4, .int x4)] [] σ) : ∀ (n : Nat) (x1 : Int32) (x2 : Int32) (x3 : Int32) (x4 : Int32) (x5 : Int32) (s0 : SS), lp (fX6_place_43 N k3) (fun _ _ _ _ _ _ => none) n x1 x2 x3 x4 x5 s0 = some res → G false X 6 43 [(0, rf X.2.2 0), (1, .int x1), (2, .int x2), (3, .int x3), (4, .int x4), (5, .int x5)] [] s0 := by
  intro n
  induction n with
  | zero => intro x1 x2 x3 x4 x5 s0 h; cases (show (none : Option (SS)) = some res from h)
  | succ n ih => intro x1 x2 x3 x4 x5 s0 h; exact wX6_place_43 F R hk3 ih x1 x2 x3 x4 x5 s0 h
set_option maxRecDepth 20000 in
theorem wX6_place_39 {X : Cx} (F : Fx false X cX6_place RX6 6 3 67) {res : SS} (R : RV false X cX6_place 6 res) {N : Nat} {k3 : Int32 → Int32 → Int32 → Int32 → SS → Option (SS)} (hk3 : ∀ (x1 : Int32) (x2 : Int32) (x3 : Int32) (x4 : Int32) (σ : SS), k3 x1 x2 x3 x4 σ = some res → G false X 6 3 [(0, rf X.2.2 0), (1, .int x1), (2, .int x2), (3, .int x3), (4, .int x4)] [] σ) : ∀ (x1 : Int32) (x2 : Int32) (x3 : Int32) (x4 : Int32) (t0 : Int32) (t1 : Int32) (s0 : SS), fX6_place_39 N k3 x1 x2 x3 x4 t0 t1 s0 = some res → G false X 6 39 [(0, rf X.2.2 0), (1, .int x1), (2, .int x2), (3, .int x3), (4, .int x4)] [.int t0, .int t1, rf X.2.2 13] s0 := by
  intro x1 x2 x3 x4 t0 t1 s0 h
  unfold fX6_place_39 at h
  refine g_iast F (k := 13) pm13 dX6_place_39 h (fun s1 h => ?_)
  refine g_iconst F (v := 0) dX6_place_40 (by decide) ?_
  refine g_istore F dX6_place_41 (by decide) (lv' := [(0, rf X.2.2 0), (1, .int x1), (2, .int x2), (3, .int x3), (4, .int x4), (5, .int 0)]) [1, 2, 3, 4, 5, 0] rfl ?_
  exact wX6_place_43_lp F R hk3 N x1 x2 x3 x4 0 s1 h
set_option maxRecDepth 20000 in
theorem wX6_place_3 {X : Cx} (F : Fx false X cX6_place RX6 6 3 67) {res : SS} (R : RV false X cX6_place 6 res) {N : Nat} {k3 : Int32 → Int32 → Int32 → Int32 → SS → Option (SS)} (hk3 : ∀ (x1 : Int32) (x2 : Int32) (x3 : Int32) (x4 : Int32) (σ : SS), k3 x1 x2 x3 x4 σ = some res → G false X 6 3 [(0, rf X.2.2 0), (1, .int x1), (2, .int x2), (3, .int x3), (4, .int x4)] [] σ) : ∀ (x1 : Int32) (x2 : Int32) (x3 : Int32) (x4 : Int32) (s0 : SS), fX6_place_3 N k3 x1 x2 x3 x4 s0 = some res → G false X 6 3 [(0, rf X.2.2 0), (1, .int x1), (2, .int x2), (3, .int x3), (4, .int x4)] [] s0 := by
  intro x1 x2 x3 x4 s0 h
  unfold fX6_place_3 at h
  refine g_iload F (j := 4) dX6_place_3 rfl ?_
  refine g_aload_n F (a := 0) (j := 0) dX6_place_5 rfl rfl ?_
  refine gt_X6_67 F (k := 0) pm0 dX6_place_6 (v := .int (s0 0 3)) rfl ?_
  refine g_icmp_ge F (tgt := 126) dX6_place_9 (by decide) h (fun h => ?_) (fun h => ?_)
  · exact R _ _ _ dX6_place_126 h
  · refine g_aload_n F (a := 0) (j := 0) dX6_place_12 rfl rfl ?_
    refine gt_X6_51 F (k := 0) pm0 dX6_place_13 (v := rf X.2.2 13) rfl ?_
    refine g_iload F (j := 4) dX6_place_16 rfl ?_
    refine g_aload_n F (a := 0) (j := 0) dX6_place_18 rfl rfl ?_
    refine gt_X6_31 F (k := 0) pm0 dX6_place_19 (v := rf X.2.2 8) rfl ?_
    refine g_iload F (j := 4) dX6_place_22 rfl ?_
    refine g_zald F (k := 8) pm8 dX6_place_24 h (fun h => ?_)
    refine g_ifeq F (tgt := 32) dX6_place_25 (by decide) h (fun h => ?_) (fun h => ?_)
    · refine g_aload_n F (a := 0) (j := 0) dX6_place_32 rfl rfl ?_
      refine gt_X6_28 F (k := 0) pm0 dX6_place_33 (v := rf X.2.2 7) rfl ?_
      refine g_iload F (j := 4) dX6_place_36 rfl ?_
      refine g_iald F (k := 7) pm7 dX6_place_38 h (fun h => ?_)
      exact wX6_place_39 F R hk3 x1 x2 x3 x4 (s0 7 (Int32.toNatClampNeg x4)) x4 s0 h
    · refine g_iconst F (v := (-1)) dX6_place_28 (by decide) ?_
      refine g_goto F (tgt := 39) dX6_place_29 (by decide) ?_
      exact wX6_place_39 F R hk3 x1 x2 x3 x4 (-1) x4 s0 h
theorem wX6_place_3_lp {X : Cx} (F : Fx false X cX6_place RX6 6 3 67) {res : SS} (R : RV false X cX6_place 6 res) {N : Nat} : ∀ (n : Nat) (x1 : Int32) (x2 : Int32) (x3 : Int32) (x4 : Int32) (s0 : SS), lp (fX6_place_3 N) (fun _ _ _ _ _ => none) n x1 x2 x3 x4 s0 = some res → G false X 6 3 [(0, rf X.2.2 0), (1, .int x1), (2, .int x2), (3, .int x3), (4, .int x4)] [] s0 := by
  intro n
  induction n with
  | zero => intro x1 x2 x3 x4 s0 h; cases (show (none : Option (SS)) = some res from h)
  | succ n ih => intro x1 x2 x3 x4 s0 h; exact wX6_place_3 F R ih x1 x2 x3 x4 s0 h
set_option maxRecDepth 20000 in
theorem wX6_place_e {X : Cx} (F : Fx false X cX6_place RX6 6 3 67) {res : SS} (R : RV false X cX6_place 6 res) {N : Nat} : ∀ (a1 : Int32) (a2 : Int32) (a3 : Int32) (s0 : SS), fX6_place N a1 a2 a3 s0 = some res → G false X 6 0 [(0, rf X.2.2 0), (1, .int a1), (2, .int a2), (3, .int a3)] [] s0 := by
  intro a1 a2 a3 s0 h
  unfold fX6_place at h
  refine g_iconst F (v := 0) dX6_place_0 (by decide) ?_
  refine g_istore F dX6_place_1 (by decide) (lv' := [(0, rf X.2.2 0), (1, .int a1), (2, .int a2), (3, .int a3), (4, .int 0)]) [1, 2, 3, 4, 0] rfl ?_
  exact wX6_place_3_lp F R N a1 a2 a3 0 s0 h
theorem mX6_place {l : Launch} {w : Wd} (N : Nat) (hi : inj false w)  {res : SS} {a1 a2 a3 : Int32} {s0 : SS} (h : fX6_place N a1 a2 a3 s0 = some res) : MV false l yX6_place cX6_place 6 none { frames := 3, cells := 0, slots := 0, locals := 67 } w [rf w 0, .int a1, .int a2, .int a3] s0 res := by
  refine mk_v (by decide) hi (Nat.le_of_ble_eq_true rfl) (fun X hX hL F R => ?_)
  subst hX; subst hL
  exact wX6_place_e F R a1 a2 a3 s0 h
