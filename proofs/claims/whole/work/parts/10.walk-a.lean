set_option maxRecDepth 20000 in
theorem wX5_isAmount_16 {X : Cx} (F : Fx true X cX5_isAmount RX5 1 0 0) {res : Int32 × SS} (R : RZ true X cX5_isAmount 1 res) {N : Nat} : ∀ (t0 : Int32) (s0 : SS), fX5_isAmount_16 N t0 s0 = some res → G true X 1 16 [] [.int t0] s0 := by
  intro t0 s0 h
  unfold fX5_isAmount_16 at h
  exact R _ _ _ _ dX5_isAmount_16 h
set_option maxRecDepth 20000 in
theorem wX5_isAmount_15 {X : Cx} (F : Fx true X cX5_isAmount RX5 1 0 0) {res : Int32 × SS} (R : RZ true X cX5_isAmount 1 res) {N : Nat} : ∀  (s0 : SS), fX5_isAmount_15 N s0 = some res → G true X 1 15 [] [] s0 := by
  intro  s0 h
  unfold fX5_isAmount_15 at h
  refine g_iconst F (v := 0) dX5_isAmount_15 (by decide) ?_
  exact wX5_isAmount_16 F R 0 s0 h
set_option maxRecDepth 20000 in
theorem wX5_isAmount_e {X : Cx} (F : Fx true X cX5_isAmount RX5 1 0 0) {res : Int32 × SS} (R : RZ true X cX5_isAmount 1 res) {N : Nat} : ∀ (a0 : Int32) (s0 : SS), fX5_isAmount N a0 s0 = some res → G true X 1 0 [(0, .int a0)] [] s0 := by
  intro a0 s0 h
  unfold fX5_isAmount at h
  refine g_iload_n F (j := 0) dX5_isAmount_0 rfl rfl ?_
  refine g_iflt F (tgt := 15) dX5_isAmount_1 (by decide) h (fun h => ?_) (fun h => ?_)
  · refine g_sub (lv' := []) [] rfl ?_
    exact wX5_isAmount_15 F R s0 h
  · refine g_iload_n F (j := 0) dX5_isAmount_4 rfl rfl ?_
    refine g_sipush F (v := 1000) dX5_isAmount_5 (by decide) ?_
    refine g_icmp_gt F (tgt := 15) dX5_isAmount_8 (by decide) h (fun h => ?_) (fun h => ?_)
    · refine g_sub (lv' := []) [] rfl ?_
      exact wX5_isAmount_15 F R s0 h
    · refine g_iconst F (v := 1) dX5_isAmount_11 (by decide) ?_
      refine g_goto F (tgt := 16) dX5_isAmount_12 (by decide) ?_
      refine g_sub (lv' := []) [] rfl ?_
      exact wX5_isAmount_16 F R 1 s0 h
theorem mX5_isAmount {l : Launch} {w : Wd} (N : Nat) (hi : inj true w)  {res : Int32 × SS} {a0 : Int32} {s0 : SS} (h : fX5_isAmount N a0 s0 = some res) : MI true l yX5_isAmount cX5_isAmount 1 (some .boolean) { frames := 0, cells := 0, slots := 0, locals := 0 } w [.int a0] s0 res := by
  refine mk_z (by decide) hi (Nat.le_of_ble_eq_true rfl) (fun X hX hL F R => ?_)
  subst hX; subst hL
  exact wX5_isAmount_e F R a0 s0 h
set_option maxRecDepth 20000 in
theorem wX3_addMachine_e {X : Cx} (F : Fx true X cX3_addMachine RX3 4 0 0) {res : Int32 × SS} (R : RI true X cX3_addMachine 4 res) {N : Nat} : ∀ (a1 : Int32) (a2 : Int32) (s0 : SS), fX3_addMachine N a1 a2 s0 = some res → G true X 4 0 [(0, rf X.2.2 1), (1, .int a1), (2, .int a2)] [] s0 := by
  intro a1 a2 s0 h
  unfold fX3_addMachine at h
  refine g_aload_n F (a := 1) (j := 0) dX3_addMachine_0 rfl rfl ?_
  refine gt_X3_9 F (k := 1) pc1 dX3_addMachine_1 (v := .int (s0 1 0)) rfl ?_
  refine g_istore_n F dX3_addMachine_4 rfl (by decide) (lv' := [(0, rf X.2.2 1), (1, .int a1), (2, .int a2), (3, .int (s0 1 0))]) [1, 2, 3, 0] rfl ?_
  refine g_aload_n F (a := 1) (j := 0) dX3_addMachine_5 rfl rfl ?_
  refine gt_X3_18 F (k := 1) pc1 dX3_addMachine_6 (v := rf X.2.2 2) rfl ?_
  refine g_iload_n F (j := 3) dX3_addMachine_9 rfl rfl ?_
  refine g_iload_n F (j := 1) dX3_addMachine_10 rfl rfl ?_
  refine g_iast F (k := 2) pc2 dX3_addMachine_11 h (fun s1 h => ?_)
  refine g_aload_n F (a := 1) (j := 0) dX3_addMachine_12 rfl rfl ?_
  refine gt_X3_22 F (k := 1) pc1 dX3_addMachine_13 (v := rf X.2.2 3) rfl ?_
  refine g_iload_n F (j := 3) dX3_addMachine_16 rfl rfl ?_
  refine g_iload_n F (j := 2) dX3_addMachine_17 rfl rfl ?_
  refine g_iast F (k := 3) pc3 dX3_addMachine_18 h (fun s2 h => ?_)
  refine g_aload_n F (a := 1) (j := 0) dX3_addMachine_19 rfl rfl ?_
  refine g_dupr F dX3_addMachine_20 ?_
  refine gt_X3_9 F (k := 1) pc1 dX3_addMachine_21 (v := .int (s2 1 0)) rfl ?_
  refine g_iconst F (v := 1) dX3_addMachine_24 (by decide) ?_
  refine g_iadd F dX3_addMachine_25 ?_
  refine pt_X3_9 F (k := 1) pc1 (Nat.le_of_ble_eq_true rfl) rfl dX3_addMachine_26 h (fun s3 h => ?_)
  refine g_iload_n F (j := 3) dX3_addMachine_29 rfl rfl ?_
  exact R _ _ _ _ dX3_addMachine_30 h
theorem mX3_addMachine {l : Launch} {w : Wd} (N : Nat) (hi : inj true w)  {res : Int32 × SS} {a1 a2 : Int32} {s0 : SS} (h : fX3_addMachine N a1 a2 s0 = some res) : MI true l yX3_addMachine cX3_addMachine 4 (some .int) { frames := 0, cells := 0, slots := 0, locals := 0 } w [rf w 1, .int a1, .int a2] s0 res := by
  refine mk_i (by decide) hi (Nat.le_of_ble_eq_true rfl) (fun X hX hL F R => ?_)
  subst hX; subst hL
  exact wX3_addMachine_e F R a1 a2 s0 h
set_option maxRecDepth 20000 in
theorem wX5_machine_14 {X : Cx} (F : Fx true X cX5_machine RX5 3 1 23) {res : Int32 × SS} (R : RI true X cX5_machine 3 res) {N : Nat} : ∀  (s0 : SS), fX5_machine_14 N s0 = some res → G true X 3 14 [] [] s0 := by
  intro  s0 h
  unfold fX5_machine_14 at h
  refine g_bipush F (v := (-2)) dX5_machine_14 (by decide) ?_
  exact R _ _ _ _ dX5_machine_16 h
set_option maxRecDepth 20000 in
theorem wX5_machine_e {X : Cx} (F : Fx true X cX5_machine RX5 3 1 23) {res : Int32 × SS} (R : RI true X cX5_machine 3 res) {N : Nat} : ∀ (a1 : Int32) (a2 : Int32) (s0 : SS), fX5_machine N a1 a2 s0 = some res → G true X 3 0 [(0, rf X.2.2 0), (1, .int a1), (2, .int a2)] [] s0 := by
  intro a1 a2 s0 h
  unfold fX5_machine at h
  refine g_iload_n F (j := 1) dX5_machine_0 rfl rfl ?_
  refine g_si F (As := [.int a1]) (rest := []) (fun _ q => mX5_isAmount N F.inj  q) mw_X5_isAmount ml_X5_71 rfl ⟨Nat.le_of_ble_eq_true rfl, Nat.le_of_ble_eq_true rfl⟩ rfl (Nat.le_of_ble_eq_true rfl) dX5_machine_1 h (fun v1 s1 h => ?_)
  refine g_ifeq F (tgt := 14) dX5_machine_4 (by decide) h (fun h => ?_) (fun h => ?_)
  · refine g_sub (lv' := []) [] rfl ?_
    exact wX5_machine_14 F R s1 h
  · refine g_iload_n F (j := 2) dX5_machine_7 rfl rfl ?_
    refine g_si F (As := [.int a2]) (rest := []) (fun _ q => mX5_isAmount N F.inj  q) mw_X5_isAmount ml_X5_71 rfl ⟨Nat.le_of_ble_eq_true rfl, Nat.le_of_ble_eq_true rfl⟩ rfl (Nat.le_of_ble_eq_true rfl) dX5_machine_8 h (fun v2 s2 h => ?_)
    refine g_ifne F (tgt := 17) dX5_machine_11 (by decide) h (fun h => ?_) (fun h => ?_)
    · refine g_sub (lv' := []) [] rfl ?_
      exact wX5_machine_14 F R s2 h
    · refine g_aload_n F (a := 0) (j := 0) dX5_machine_17 rfl rfl ?_
      refine gt_X5_10 F (k := 0) pc0 dX5_machine_18 (v := rf X.2.2 1) rfl ?_
      refine gt_X5_75 F (k := 1) pc1 dX5_machine_21 (v := .int (s2 1 0)) rfl ?_
      refine g_iconst F (v := 5) dX5_machine_24 (by decide) ?_
      refine g_icmp_lt F (tgt := 31) dX5_machine_25 (by decide) h (fun h => ?_) (fun h => ?_)
      · refine g_aload_n F (a := 0) (j := 0) dX5_machine_31 rfl rfl ?_
        refine gt_X5_10 F (k := 0) pc0 dX5_machine_32 (v := rf X.2.2 1) rfl ?_
        refine g_iload_n F (j := 1) dX5_machine_35 rfl rfl ?_
        refine g_iload_n F (j := 2) dX5_machine_36 rfl rfl ?_
        refine g_vi F (k := 1) (As := [.int a1, .int a2]) (rest := []) (fun _ q => mX3_addMachine N F.inj  q) mw_X3_addMachine ml_X5_78 rfl ⟨Nat.le_of_ble_eq_true rfl, Nat.le_of_ble_eq_true rfl⟩ pc1 cl3 rfl (Nat.le_of_ble_eq_true rfl) dX5_machine_37 h (fun v3 s3 h => ?_)
        exact R _ _ _ _ dX5_machine_40 h
      · refine g_bipush F (v := (-4)) dX5_machine_28 (by decide) ?_
        exact R _ _ _ _ dX5_machine_30 h
theorem mX5_machine {l : Launch} {w : Wd} (N : Nat) (hi : inj true w)  {res : Int32 × SS} {a1 a2 : Int32} {s0 : SS} (h : fX5_machine N a1 a2 s0 = some res) : MI true l yX5_machine cX5_machine 3 (some .int) { frames := 1, cells := 0, slots := 0, locals := 23 } w [rf w 0, .int a1, .int a2] s0 res := by
  refine mk_i (by decide) hi (Nat.le_of_ble_eq_true rfl) (fun X hX hL F R => ?_)
  subst hX; subst hL
  exact wX5_machine_e F R a1 a2 s0 h
set_option maxRecDepth 20000 in
theorem wX6_in_15 {X : Cx} (F : Fx false X cX6_in RX6 3 0 0) {res : Int32 × SS} (R : RZ false X cX6_in 3 res) {N : Nat} : ∀ (t0 : Int32) (s0 : SS), fX6_in_15 N t0 s0 = some res → G false X 3 15 [] [.int t0] s0 := by
  intro t0 s0 h
  unfold fX6_in_15 at h
  exact R _ _ _ _ dX6_in_15 h
set_option maxRecDepth 20000 in
theorem wX6_in_14 {X : Cx} (F : Fx false X cX6_in RX6 3 0 0) {res : Int32 × SS} (R : RZ false X cX6_in 3 res) {N : Nat} : ∀  (s0 : SS), fX6_in_14 N s0 = some res → G false X 3 14 [] [] s0 := by
  intro  s0 h
  unfold fX6_in_14 at h
  refine g_iconst F (v := 0) dX6_in_14 (by decide) ?_
  exact wX6_in_15 F R 0 s0 h
set_option maxRecDepth 20000 in
theorem wX6_in_e {X : Cx} (F : Fx false X cX6_in RX6 3 0 0) {res : Int32 × SS} (R : RZ false X cX6_in 3 res) {N : Nat} : ∀ (a0 : Int32) (a1 : Int32) (a2 : Int32) (s0 : SS), fX6_in N a0 a1 a2 s0 = some res → G false X 3 0 [(0, .int a0), (1, .int a1), (2, .int a2)] [] s0 := by
  intro a0 a1 a2 s0 h
  unfold fX6_in at h
  refine g_iload_n F (j := 0) dX6_in_0 rfl rfl ?_
  refine g_iload_n F (j := 1) dX6_in_1 rfl rfl ?_
  refine g_icmp_lt F (tgt := 14) dX6_in_2 (by decide) h (fun h => ?_) (fun h => ?_)
  · refine g_sub (lv' := []) [] rfl ?_
    exact wX6_in_14 F R s0 h
  · refine g_iload_n F (j := 0) dX6_in_5 rfl rfl ?_
    refine g_iload_n F (j := 2) dX6_in_6 rfl rfl ?_
    refine g_icmp_gt F (tgt := 14) dX6_in_7 (by decide) h (fun h => ?_) (fun h => ?_)
    · refine g_sub (lv' := []) [] rfl ?_
      exact wX6_in_14 F R s0 h
    · refine g_iconst F (v := 1) dX6_in_10 (by decide) ?_
      refine g_goto F (tgt := 15) dX6_in_11 (by decide) ?_
      refine g_sub (lv' := []) [] rfl ?_
      exact wX6_in_15 F R 1 s0 h
theorem mX6_in {l : Launch} {w : Wd} (N : Nat) (hi : inj false w)  {res : Int32 × SS} {a0 a1 a2 : Int32} {s0 : SS} (h : fX6_in N a0 a1 a2 s0 = some res) : MI false l yX6_in cX6_in 3 (some .boolean) { frames := 0, cells := 0, slots := 0, locals := 0 } w [.int a0, .int a1, .int a2] s0 res := by
  refine mk_z (by decide) hi (Nat.le_of_ble_eq_true rfl) (fun X hX hL F R => ?_)
  subst hX; subst hL
  exact wX6_in_e F R a0 a1 a2 s0 h
set_option maxRecDepth 20000 in
theorem wX6_machine_22 {X : Cx} (F : Fx false X cX6_machine RX6 3 1 22) {res : Int32 × SS} (R : RI false X cX6_machine 3 res) {N : Nat} : ∀  (s0 : SS), fX6_machine_22 N s0 = some res → G false X 3 22 [] [] s0 := by
  intro  s0 h
  unfold fX6_machine_22 at h
  refine g_bipush F (v := (-2)) dX6_machine_22 (by decide) ?_
  exact R _ _ _ _ dX6_machine_24 h
set_option maxRecDepth 20000 in
theorem wX6_machine_e {X : Cx} (F : Fx false X cX6_machine RX6 3 1 22) {res : Int32 × SS} (R : RI false X cX6_machine 3 res) {N : Nat} : ∀ (a1 : Int32) (a2 : Int32) (s0 : SS), fX6_machine N a1 a2 s0 = some res → G false X 3 0 [(0, rf X.2.2 0), (1, .int a1), (2, .int a2)] [] s0 := by
  intro a1 a2 s0 h
  unfold fX6_machine at h
  refine g_iload_n F (j := 1) dX6_machine_0 rfl rfl ?_
  refine g_iconst F (v := 0) dX6_machine_1 (by decide) ?_
  refine g_sipush F (v := 1000) dX6_machine_2 (by decide) ?_
  refine g_si F (As := [.int a1, .int 0, .int 1000]) (rest := []) (fun _ q => mX6_in N F.inj  q) mw_X6_in ml_X6_60 rfl ⟨Nat.le_of_ble_eq_true rfl, Nat.le_of_ble_eq_true rfl⟩ rfl (Nat.le_of_ble_eq_true rfl) dX6_machine_5 h (fun v1 s1 h => ?_)
  refine g_ifeq F (tgt := 22) dX6_machine_8 (by decide) h (fun h => ?_) (fun h => ?_)
  · refine g_sub (lv' := []) [] rfl ?_
    exact wX6_machine_22 F R s1 h
  · refine g_iload_n F (j := 2) dX6_machine_11 rfl rfl ?_
    refine g_iconst F (v := 0) dX6_machine_12 (by decide) ?_
    refine g_sipush F (v := 1000) dX6_machine_13 (by decide) ?_
    refine g_si F (As := [.int a2, .int 0, .int 1000]) (rest := []) (fun _ q => mX6_in N F.inj  q) mw_X6_in ml_X6_60 rfl ⟨Nat.le_of_ble_eq_true rfl, Nat.le_of_ble_eq_true rfl⟩ rfl (Nat.le_of_ble_eq_true rfl) dX6_machine_16 h (fun v2 s2 h => ?_)
    refine g_ifne F (tgt := 25) dX6_machine_19 (by decide) h (fun h => ?_) (fun h => ?_)
    · refine g_sub (lv' := []) [] rfl ?_
      exact wX6_machine_22 F R s2 h
    · refine g_aload_n F (a := 0) (j := 0) dX6_machine_25 rfl rfl ?_
      refine gt_X6_64 F (k := 0) pm0 dX6_machine_26 (v := .int (s2 0 0)) rfl ?_
      refine g_iconst F (v := 5) dX6_machine_29 (by decide) ?_
      refine g_icmp_ne F (tgt := 36) dX6_machine_30 (by decide) h (fun h => ?_) (fun h => ?_)
      · refine g_bipush F (v := (-4)) dX6_machine_33 (by decide) ?_
        exact R _ _ _ _ dX6_machine_35 h
      · refine g_aload_n F (a := 0) (j := 0) dX6_machine_36 rfl rfl ?_
        refine gt_X6_7 F (k := 0) pm0 dX6_machine_37 (v := rf X.2.2 1) rfl ?_
        refine g_aload_n F (a := 0) (j := 0) dX6_machine_40 rfl rfl ?_
        refine gt_X6_64 F (k := 0) pm0 dX6_machine_41 (v := .int (s2 0 0)) rfl ?_
        refine g_iload_n F (j := 1) dX6_machine_44 rfl rfl ?_
        refine g_iast F (k := 1) pm1 dX6_machine_45 h (fun s3 h => ?_)
        refine g_aload_n F (a := 0) (j := 0) dX6_machine_46 rfl rfl ?_
        refine gt_X6_13 F (k := 0) pm0 dX6_machine_47 (v := rf X.2.2 2) rfl ?_
        refine g_aload_n F (a := 0) (j := 0) dX6_machine_50 rfl rfl ?_
        refine gt_X6_64 F (k := 0) pm0 dX6_machine_51 (v := .int (s3 0 0)) rfl ?_
        refine g_iload_n F (j := 2) dX6_machine_54 rfl rfl ?_
        refine g_iast F (k := 2) pm2 dX6_machine_55 h (fun s4 h => ?_)
        refine g_aload_n F (a := 0) (j := 0) dX6_machine_56 rfl rfl ?_
        refine g_dupr F dX6_machine_57 ?_
        refine gt_X6_64 F (k := 0) pm0 dX6_machine_58 (v := .int (s4 0 0)) rfl ?_
        refine g_iconst F (v := 1) dX6_machine_61 (by decide) ?_
        refine g_iadd F dX6_machine_62 ?_
        refine pt_X6_64 F (k := 0) pm0 (Nat.le_of_ble_eq_true rfl) rfl dX6_machine_63 h (fun s5 h => ?_)
        refine g_aload_n F (a := 0) (j := 0) dX6_machine_66 rfl rfl ?_
        refine gt_X6_64 F (k := 0) pm0 dX6_machine_67 (v := .int (s5 0 0)) rfl ?_
        refine g_iconst F (v := 1) dX6_machine_70 (by decide) ?_
        refine g_isub F dX6_machine_71 ?_
        exact R _ _ _ _ dX6_machine_72 h
theorem mX6_machine {l : Launch} {w : Wd} (N : Nat) (hi : inj false w)  {res : Int32 × SS} {a1 a2 : Int32} {s0 : SS} (h : fX6_machine N a1 a2 s0 = some res) : MI false l yX6_machine cX6_machine 3 (some .int) { frames := 1, cells := 0, slots := 0, locals := 22 } w [rf w 0, .int a1, .int a2] s0 res := by
  refine mk_i (by decide) hi (Nat.le_of_ble_eq_true rfl) (fun X hX hL F R => ?_)
  subst hX; subst hL
  exact wX6_machine_e F R a1 a2 s0 h
set_option maxRecDepth 20000 in
theorem wX5_isKindWithGroup_24 {X : Cx} (F : Fx true X cX5_isKindWithGroup RX5 3 0 0) {res : Int32 × SS} (R : RZ true X cX5_isKindWithGroup 3 res) {N : Nat} : ∀ (t0 : Int32) (s0 : SS), fX5_isKindWithGroup_24 N t0 s0 = some res → G true X 3 24 [] [.int t0] s0 := by
  intro t0 s0 h
  unfold fX5_isKindWithGroup_24 at h
  exact R _ _ _ _ dX5_isKindWithGroup_24 h
set_option maxRecDepth 20000 in
theorem wX5_isKindWithGroup_23 {X : Cx} (F : Fx true X cX5_isKindWithGroup RX5 3 0 0) {res : Int32 × SS} (R : RZ true X cX5_isKindWithGroup 3 res) {N : Nat} : ∀  (s0 : SS), fX5_isKindWithGroup_23 N s0 = some res → G true X 3 23 [] [] s0 := by
  intro  s0 h
  unfold fX5_isKindWithGroup_23 at h
  refine g_iconst F (v := 0) dX5_isKindWithGroup_23 (by decide) ?_
  exact wX5_isKindWithGroup_24 F R 0 s0 h
set_option maxRecDepth 20000 in
theorem wX5_isKindWithGroup_10 {X : Cx} (F : Fx true X cX5_isKindWithGroup RX5 3 0 0) {res : Int32 × SS} (R : RZ true X cX5_isKindWithGroup 3 res) {N : Nat} : ∀ (x2 : Int32) (s0 : SS), fX5_isKindWithGroup_10 N x2 s0 = some res → G true X 3 10 [(2, .int x2)] [] s0 := by
  intro x2 s0 h
  unfold fX5_isKindWithGroup_10 at h
  refine g_iload_n F (j := 0) dX5_isKindWithGroup_10 rfl rfl ?_
  refine g_iflt F (tgt := 23) dX5_isKindWithGroup_11 (by decide) h (fun h => ?_) (fun h => ?_)
  · refine g_sub (lv' := []) [] rfl ?_
    exact wX5_isKindWithGroup_23 F R s0 h
  · refine g_iload_n F (j := 0) dX5_isKindWithGroup_14 rfl rfl ?_
    refine g_iconst F (v := 4) dX5_isKindWithGroup_15 (by decide) ?_
    refine g_icmp_ge F (tgt := 23) dX5_isKindWithGroup_16 (by decide) h (fun h => ?_) (fun h => ?_)
    · refine g_sub (lv' := []) [] rfl ?_
      exact wX5_isKindWithGroup_23 F R s0 h
    · refine g_iconst F (v := 1) dX5_isKindWithGroup_19 (by decide) ?_
      refine g_goto F (tgt := 24) dX5_isKindWithGroup_20 (by decide) ?_
      refine g_sub (lv' := []) [] rfl ?_
      exact wX5_isKindWithGroup_24 F R 1 s0 h
set_option maxRecDepth 20000 in
theorem wX5_isKindWithGroup_43 {X : Cx} (F : Fx true X cX5_isKindWithGroup RX5 3 0 0) {res : Int32 × SS} (R : RZ true X cX5_isKindWithGroup 3 res) {N : Nat} : ∀ (t0 : Int32) (s0 : SS), fX5_isKindWithGroup_43 N t0 s0 = some res → G true X 3 43 [] [.int t0] s0 := by
  intro t0 s0 h
  unfold fX5_isKindWithGroup_43 at h
  exact R _ _ _ _ dX5_isKindWithGroup_43 h
set_option maxRecDepth 20000 in
theorem wX5_isKindWithGroup_58 {X : Cx} (F : Fx true X cX5_isKindWithGroup RX5 3 0 0) {res : Int32 × SS} (R : RZ true X cX5_isKindWithGroup 3 res) {N : Nat} : ∀ (t0 : Int32) (s0 : SS), fX5_isKindWithGroup_58 N t0 s0 = some res → G true X 3 58 [] [.int t0] s0 := by
  intro t0 s0 h
  unfold fX5_isKindWithGroup_58 at h
  exact R _ _ _ _ dX5_isKindWithGroup_58 h
set_option maxRecDepth 20000 in
theorem wX5_isKindWithGroup_53 {X : Cx} (F : Fx true X cX5_isKindWithGroup RX5 3 0 0) {res : Int32 × SS} (R : RZ true X cX5_isKindWithGroup 3 res) {N : Nat} : ∀  (s0 : SS), fX5_isKindWithGroup_53 N s0 = some res → G true X 3 53 [] [] s0 := by
  intro  s0 h
  unfold fX5_isKindWithGroup_53 at h
  refine g_iconst F (v := 1) dX5_isKindWithGroup_53 (by decide) ?_
  refine g_goto F (tgt := 58) dX5_isKindWithGroup_54 (by decide) ?_
  exact wX5_isKindWithGroup_58 F R 1 s0 h
set_option maxRecDepth 20000 in
theorem wX5_isKindWithGroup_e {X : Cx} (F : Fx true X cX5_isKindWithGroup RX5 3 0 0) {res : Int32 × SS} (R : RZ true X cX5_isKindWithGroup 3 res) {N : Nat} : ∀ (a1 : Int32) (a2 : Int32) (s0 : SS), fX5_isKindWithGroup N a1 a2 s0 = some res → G true X 3 0 [(0, rf X.2.2 0), (1, .int a1), (2, .int a2)] [] s0 := by
  intro a1 a2 s0 h
  unfold fX5_isKindWithGroup at h
  refine g_iload_n F (j := 1) dX5_isKindWithGroup_0 rfl rfl ?_
  refine g_iconst F (v := 1) dX5_isKindWithGroup_1 (by decide) ?_
  refine g_icmp_eq F (tgt := 10) dX5_isKindWithGroup_2 (by decide) h (fun h => ?_) (fun h => ?_)
  · refine g_sub (lv' := [(2, .int a2)]) [2] rfl ?_
    exact wX5_isKindWithGroup_10 F R a2 s0 h
  · refine g_iload_n F (j := 1) dX5_isKindWithGroup_5 rfl rfl ?_
    refine g_iconst F (v := 2) dX5_isKindWithGroup_6 (by decide) ?_
    refine g_icmp_ne F (tgt := 25) dX5_isKindWithGroup_7 (by decide) h (fun h => ?_) (fun h => ?_)
    · refine g_sub (lv' := [(2, .int a2)]) [2] rfl ?_
      exact wX5_isKindWithGroup_10 F R a2 s0 h
    · refine g_iload_n F (j := 1) dX5_isKindWithGroup_25 rfl rfl ?_
      refine g_iconst F (v := 4) dX5_isKindWithGroup_26 (by decide) ?_
      refine g_icmp_ne F (tgt := 44) dX5_isKindWithGroup_27 (by decide) h (fun h => ?_) (fun h => ?_)
      · refine g_iload_n F (j := 2) dX5_isKindWithGroup_30 rfl rfl ?_
        refine g_aload_n F (a := 0) (j := 0) dX5_isKindWithGroup_31 rfl rfl ?_
        refine gt_X5_62 F (k := 0) pc0 dX5_isKindWithGroup_32 (v := .int (s0 0 8)) rfl ?_
        refine g_icmp_le F (tgt := 42) dX5_isKindWithGroup_35 (by decide) h (fun h => ?_) (fun h => ?_)
        · refine g_iconst F (v := 0) dX5_isKindWithGroup_42 (by decide) ?_
          refine g_sub (lv' := []) [] rfl ?_
          exact wX5_isKindWithGroup_43 F R 0 s0 h
        · refine g_iconst F (v := 1) dX5_isKindWithGroup_38 (by decide) ?_
          refine g_goto F (tgt := 43) dX5_isKindWithGroup_39 (by decide) ?_
          refine g_sub (lv' := []) [] rfl ?_
          exact wX5_isKindWithGroup_43 F R 1 s0 h
      · refine g_iload_n F (j := 1) dX5_isKindWithGroup_44 rfl rfl ?_
        refine g_ifeq F (tgt := 53) dX5_isKindWithGroup_45 (by decide) h (fun h => ?_) (fun h => ?_)
        · refine g_sub (lv' := []) [] rfl ?_
          exact wX5_isKindWithGroup_53 F R s0 h
        · refine g_iload_n F (j := 1) dX5_isKindWithGroup_48 rfl rfl ?_
          refine g_iconst F (v := 3) dX5_isKindWithGroup_49 (by decide) ?_
          refine g_icmp_ne F (tgt := 57) dX5_isKindWithGroup_50 (by decide) h (fun h => ?_) (fun h => ?_)
          · refine g_sub (lv' := []) [] rfl ?_
            exact wX5_isKindWithGroup_53 F R s0 h
          · refine g_iconst F (v := 0) dX5_isKindWithGroup_57 (by decide) ?_
            refine g_sub (lv' := []) [] rfl ?_
            exact wX5_isKindWithGroup_58 F R 0 s0 h
theorem mX5_isKindWithGroup {l : Launch} {w : Wd} (N : Nat) (hi : inj true w)  {res : Int32 × SS} {a1 a2 : Int32} {s0 : SS} (h : fX5_isKindWithGroup N a1 a2 s0 = some res) : MI true l yX5_isKindWithGroup cX5_isKindWithGroup 3 (some .boolean) { frames := 0, cells := 0, slots := 0, locals := 0 } w [rf w 0, .int a1, .int a2] s0 res := by
  refine mk_z (by decide) hi (Nat.le_of_ble_eq_true rfl) (fun X hX hL F R => ?_)
  subst hX; subst hL
  exact wX5_isKindWithGroup_e F R a1 a2 s0 h
set_option maxRecDepth 20000 in
theorem wX3_hasMachine_17 {X : Cx} (F : Fx true X cX3_hasMachine RX3 2 0 0) {res : Int32 × SS} (R : RZ true X cX3_hasMachine 2 res) {N : Nat} : ∀ (t0 : Int32) (s0 : SS), fX3_hasMachine_17 N t0 s0 = some res → G true X 2 17 [] [.int t0] s0 := by
  intro t0 s0 h
  unfold fX3_hasMachine_17 at h
  exact R _ _ _ _ dX3_hasMachine_17 h
set_option maxRecDepth 20000 in
theorem wX3_hasMachine_16 {X : Cx} (F : Fx true X cX3_hasMachine RX3 2 0 0) {res : Int32 × SS} (R : RZ true X cX3_hasMachine 2 res) {N : Nat} : ∀  (s0 : SS), fX3_hasMachine_16 N s0 = some res → G true X 2 16 [] [] s0 := by
  intro  s0 h
  unfold fX3_hasMachine_16 at h
  refine g_iconst F (v := 0) dX3_hasMachine_16 (by decide) ?_
  exact wX3_hasMachine_17 F R 0 s0 h
set_option maxRecDepth 20000 in
theorem wX3_hasMachine_e {X : Cx} (F : Fx true X cX3_hasMachine RX3 2 0 0) {res : Int32 × SS} (R : RZ true X cX3_hasMachine 2 res) {N : Nat} : ∀ (a1 : Int32) (s0 : SS), fX3_hasMachine N a1 s0 = some res → G true X 2 0 [(0, rf X.2.2 1), (1, .int a1)] [] s0 := by
  intro a1 s0 h
  unfold fX3_hasMachine at h
  refine g_iload_n F (j := 1) dX3_hasMachine_0 rfl rfl ?_
  refine g_iflt F (tgt := 16) dX3_hasMachine_1 (by decide) h (fun h => ?_) (fun h => ?_)
  · refine g_sub (lv' := []) [] rfl ?_
    exact wX3_hasMachine_16 F R s0 h
  · refine g_iload_n F (j := 1) dX3_hasMachine_4 rfl rfl ?_
    refine g_aload_n F (a := 1) (j := 0) dX3_hasMachine_5 rfl rfl ?_
    refine gt_X3_9 F (k := 1) pc1 dX3_hasMachine_6 (v := .int (s0 1 0)) rfl ?_
    refine g_icmp_ge F (tgt := 16) dX3_hasMachine_9 (by decide) h (fun h => ?_) (fun h => ?_)
    · refine g_sub (lv' := []) [] rfl ?_
      exact wX3_hasMachine_16 F R s0 h
    · refine g_iconst F (v := 1) dX3_hasMachine_12 (by decide) ?_
      refine g_goto F (tgt := 17) dX3_hasMachine_13 (by decide) ?_
      refine g_sub (lv' := []) [] rfl ?_
      exact wX3_hasMachine_17 F R 1 s0 h
theorem mX3_hasMachine {l : Launch} {w : Wd} (N : Nat) (hi : inj true w)  {res : Int32 × SS} {a1 : Int32} {s0 : SS} (h : fX3_hasMachine N a1 s0 = some res) : MI true l yX3_hasMachine cX3_hasMachine 2 (some .boolean) { frames := 0, cells := 0, slots := 0, locals := 0 } w [rf w 1, .int a1] s0 res := by
  refine mk_z (by decide) hi (Nat.le_of_ble_eq_true rfl) (fun X hX hL F R => ?_)
  subst hX; subst hL
  exact wX3_hasMachine_e F R a1 s0 h
set_option maxRecDepth 20000 in
theorem wX3_leastFriend_29 {X : Cx} (F : Fx true X cX3_leastFriend RX3 4 0 0) {res : Int32 × SS} (R : RI true X cX3_leastFriend 4 res) {N : Nat} {k2 : Int32 → Int32 → Int32 → SS → Option (Int32 × SS)} (hk2 : ∀ (x1 : Int32) (x2 : Int32) (x3 : Int32) (σ : SS), k2 x1 x2 x3 σ = some res → G true X 4 2 [(0, rf X.2.2 1), (1, .int x1), (2, .int x2), (3, .int x3)] [] σ) : ∀ (x1 : Int32) (x2 : Int32) (x3 : Int32) (s0 : SS), fX3_leastFriend_29 N k2 x1 x2 x3 s0 = some res → G true X 4 29 [(0, rf X.2.2 1), (1, .int x1), (2, .int x2), (3, .int x3)] [] s0 := by
  intro x1 x2 x3 s0 h
  unfold fX3_leastFriend_29 at h
  refine g_iinc F (j := 3) (v := x3 + 1) dX3_leastFriend_29 rfl rfl (by decide) (lv' := [(0, rf X.2.2 1), (1, .int x1), (2, .int x2), (3, .int (x3 + 1))]) [1, 2, 3, 0] rfl ?_
  refine g_goto F (tgt := 2) dX3_leastFriend_32 (by decide) ?_
  exact hk2 x1 x2 (x3 + 1) s0 h
set_option maxRecDepth 20000 in
theorem wX3_leastFriend_2 {X : Cx} (F : Fx true X cX3_leastFriend RX3 4 0 0) {res : Int32 × SS} (R : RI true X cX3_leastFriend 4 res) {N : Nat} {k2 : Int32 → Int32 → Int32 → SS → Option (Int32 × SS)} (hk2 : ∀ (x1 : Int32) (x2 : Int32) (x3 : Int32) (σ : SS), k2 x1 x2 x3 σ = some res → G true X 4 2 [(0, rf X.2.2 1), (1, .int x1), (2, .int x2), (3, .int x3)] [] σ) : ∀ (x1 : Int32) (x2 : Int32) (x3 : Int32) (s0 : SS), fX3_leastFriend_2 N k2 x1 x2 x3 s0 = some res → G true X 4 2 [(0, rf X.2.2 1), (1, .int x1), (2, .int x2), (3, .int x3)] [] s0 := by
  intro x1 x2 x3 s0 h
  unfold fX3_leastFriend_2 at h
  refine g_iload_n F (j := 3) dX3_leastFriend_2 rfl rfl ?_
  refine g_iload_n F (j := 2) dX3_leastFriend_3 rfl rfl ?_
  refine g_icmp_ge F (tgt := 35) dX3_leastFriend_4 (by decide) h (fun h => ?_) (fun h => ?_)
  · refine g_iload_n F (j := 2) dX3_leastFriend_35 rfl rfl ?_
    exact R _ _ _ _ dX3_leastFriend_36 h
  · refine g_aload_n F (a := 1) (j := 0) dX3_leastFriend_7 rfl rfl ?_
    refine gt_X3_31 F (k := 1) pc1 dX3_leastFriend_8 (v := rf X.2.2 6) rfl ?_
    refine g_iload_n F (j := 3) dX3_leastFriend_11 rfl rfl ?_
    refine g_iald F (k := 6) pc6 dX3_leastFriend_12 h (fun h => ?_)
    refine g_iconst F (v := 2) dX3_leastFriend_13 (by decide) ?_
    refine g_icmp_ne F (tgt := 29) dX3_leastFriend_14 (by decide) h (fun h => ?_) (fun h => ?_)
    · refine g_aload_n F (a := 1) (j := 0) dX3_leastFriend_17 rfl rfl ?_
      refine gt_X3_34 F (k := 1) pc1 dX3_leastFriend_18 (v := rf X.2.2 7) rfl ?_
      refine g_iload_n F (j := 3) dX3_leastFriend_21 rfl rfl ?_
      refine g_iald F (k := 7) pc7 dX3_leastFriend_22 h (fun h => ?_)
      refine g_iload_n F (j := 1) dX3_leastFriend_23 rfl rfl ?_
      refine g_icmp_ne F (tgt := 29) dX3_leastFriend_24 (by decide) h (fun h => ?_) (fun h => ?_)
      · refine g_iload_n F (j := 3) dX3_leastFriend_27 rfl rfl ?_
        exact R _ _ _ _ dX3_leastFriend_28 h
      · exact wX3_leastFriend_29 F R hk2 x1 x2 x3 s0 h
    · exact wX3_leastFriend_29 F R hk2 x1 x2 x3 s0 h
theorem wX3_leastFriend_2_lp {X : Cx} (F : Fx true X cX3_leastFriend RX3 4 0 0) {res : Int32 × SS} (R : RI true X cX3_leastFriend 4 res) {N : Nat} : ∀ (n : Nat) (x1 : Int32) (x2 : Int32) (x3 : Int32) (s0 : SS), lp (fX3_leastFriend_2 N) (fun _ _ _ _ => none) n x1 x2 x3 s0 = some res → G true X 4 2 [(0, rf X.2.2 1), (1, .int x1), (2, .int x2), (3, .int x3)] [] s0 := by
  intro n
  induction n with
  | zero => intro x1 x2 x3 s0 h; cases (show (none : Option (Int32 × SS)) = some res from h)
  | succ n ih => intro x1 x2 x3 s0 h; exact wX3_leastFriend_2 F R ih x1 x2 x3 s0 h
set_option maxRecDepth 20000 in
theorem wX3_leastFriend_e {X : Cx} (F : Fx true X cX3_leastFriend RX3 4 0 0) {res : Int32 × SS} (R : RI true X cX3_leastFriend 4 res) {N : Nat} : ∀ (a1 : Int32) (a2 : Int32) (s0 : SS), fX3_leastFriend N a1 a2 s0 = some res → G true X 4 0 [(0, rf X.2.2 1), (1, .int a1), (2, .int a2)] [] s0 := by
  intro a1 a2 s0 h
  unfold fX3_leastFriend at h
  refine g_iconst F (v := 0) dX3_leastFriend_0 (by decide) ?_
  refine g_istore_n F dX3_leastFriend_1 rfl (by decide) (lv' := [(0, rf X.2.2 1), (1, .int a1), (2, .int a2), (3, .int 0)]) [1, 2, 3, 0] rfl ?_
  exact wX3_leastFriend_2_lp F R N a1 a2 0 s0 h
theorem mX3_leastFriend {l : Launch} {w : Wd} (N : Nat) (hi : inj true w)  {res : Int32 × SS} {a1 a2 : Int32} {s0 : SS} (h : fX3_leastFriend N a1 a2 s0 = some res) : MI true l yX3_leastFriend cX3_leastFriend 4 (some .int) { frames := 0, cells := 0, slots := 0, locals := 0 } w [rf w 1, .int a1, .int a2] s0 res := by
  refine mk_i (by decide) hi (Nat.le_of_ble_eq_true rfl) (fun X hX hL F R => ?_)
  subst hX; subst hL
  exact wX3_leastFriend_e F R a1 a2 s0 h
set_option maxRecDepth 20000 in
theorem wX3_describeNewcomer_110 {X : Cx} (F : Fx true X cX3_describeNewcomer RX3 6 1 23) {res : Int32 × SS} (R : RI true X cX3_describeNewcomer 6 res) {N : Nat} : ∀ (x5 : Int32) (t0 : Int32) (t1 : Int32) (s0 : SS), fX3_describeNewcomer_110 N x5 t0 t1 s0 = some res → G true X 6 110 [(5, .int x5)] [.int t0, .int t1, rf X.2.2 10] s0 := by
  intro x5 t0 t1 s0 h
  unfold fX3_describeNewcomer_110 at h
  refine g_iast F (k := 10) pc10 dX3_describeNewcomer_110 h (fun s1 h => ?_)
  refine g_iload F (j := 0) dX3_describeNewcomer_111 rfl ?_
  exact R _ _ _ _ dX3_describeNewcomer_113 h
set_option maxRecDepth 20000 in
theorem wX3_describeNewcomer_85 {X : Cx} (F : Fx true X cX3_describeNewcomer RX3 6 1 23) {res : Int32 × SS} (R : RI true X cX3_describeNewcomer 6 res) {N : Nat} : ∀ (x3 : Int32) (x4 : Int32) (x5 : Int32) (t0 : Int32) (t1 : Int32) (s0 : SS), fX3_describeNewcomer_85 N x3 x4 x5 t0 t1 s0 = some res → G true X 6 85 [(0, rf X.2.2 1), (3, .int x3), (4, .int x4), (5, .int x5)] [.int t0, .int t1, rf X.2.2 9] s0 := by
  intro x3 x4 x5 t0 t1 s0 h
  unfold fX3_describeNewcomer_85 at h
  refine g_iast F (k := 9) pc9 dX3_describeNewcomer_85 h (fun s1 h => ?_)
  refine g_aload_n F (a := 1) (j := 0) dX3_describeNewcomer_86 rfl rfl ?_
  refine gt_X3_43 F (k := 1) pc1 dX3_describeNewcomer_87 (v := rf X.2.2 10) rfl ?_
  refine g_iload F (j := 3) dX3_describeNewcomer_90 rfl ?_
  refine g_iload_n F (j := 1) dX3_describeNewcomer_92 rfl rfl ?_
  refine g_iconst F (v := 2) dX3_describeNewcomer_93 (by decide) ?_
  refine g_icmp_ne F (tgt := 108) dX3_describeNewcomer_94 (by decide) h (fun h => ?_) (fun h => ?_)
  · refine g_aload_n F (a := 1) (j := 0) dX3_describeNewcomer_97 rfl rfl ?_
    refine g_iload F (j := 2) dX3_describeNewcomer_98 rfl ?_
    refine g_iload F (j := 3) dX3_describeNewcomer_100 rfl ?_
    refine g_vi F (k := 1) (As := [.int x4, .int x5]) (rest := [.int x5, rf X.2.2 10]) (fun _ q => mX3_leastFriend N F.inj  q) mw_X3_leastFriend ml_X3_52 rfl ⟨Nat.le_of_ble_eq_true rfl, Nat.le_of_ble_eq_true rfl⟩ pc1 cl3 rfl (Nat.le_of_ble_eq_true rfl) dX3_describeNewcomer_102 h (fun v2 s2 h => ?_)
    refine g_goto F (tgt := 110) dX3_describeNewcomer_105 (by decide) ?_
    refine g_sub (lv' := [(5, .int x5)]) [3] rfl ?_
    exact wX3_describeNewcomer_110 F R x5 v2 x5 s2 h
  · refine g_iload F (j := 3) dX3_describeNewcomer_108 rfl ?_
    refine g_sub (lv' := [(5, .int x5)]) [3] rfl ?_
    exact wX3_describeNewcomer_110 F R x5 x5 x5 s1 h
set_option maxRecDepth 20000 in
theorem wX3_describeNewcomer_67 {X : Cx} (F : Fx true X cX3_describeNewcomer RX3 6 1 23) {res : Int32 × SS} (R : RI true X cX3_describeNewcomer 6 res) {N : Nat} : ∀ (x3 : Int32) (x4 : Int32) (x5 : Int32) (t0 : Int32) (t1 : Int32) (s0 : SS), fX3_describeNewcomer_67 N x3 x4 x5 t0 t1 s0 = some res → G true X 6 67 [(0, rf X.2.2 1), (3, .int x3), (4, .int x4), (5, .int x5)] [.int t0, .int t1, rf X.2.2 8] s0 := by
  intro x3 x4 x5 t0 t1 s0 h
  unfold fX3_describeNewcomer_67 at h
  refine g_iast F (k := 8) pc8 dX3_describeNewcomer_67 h (fun s1 h => ?_)
  refine g_aload_n F (a := 1) (j := 0) dX3_describeNewcomer_68 rfl rfl ?_
  refine gt_X3_40 F (k := 1) pc1 dX3_describeNewcomer_69 (v := rf X.2.2 9) rfl ?_
  refine g_iload F (j := 3) dX3_describeNewcomer_72 rfl ?_
  refine g_iload_n F (j := 1) dX3_describeNewcomer_74 rfl rfl ?_
  refine g_iconst F (v := 4) dX3_describeNewcomer_75 (by decide) ?_
  refine g_icmp_ne F (tgt := 84) dX3_describeNewcomer_76 (by decide) h (fun h => ?_) (fun h => ?_)
  · refine g_iload F (j := 2) dX3_describeNewcomer_79 rfl ?_
    refine g_goto F (tgt := 85) dX3_describeNewcomer_81 (by decide) ?_
    exact wX3_describeNewcomer_85 F R x3 x4 x5 x4 x5 s1 h
  · refine g_iconst F (v := (-1)) dX3_describeNewcomer_84 (by decide) ?_
    exact wX3_describeNewcomer_85 F R x3 x4 x5 (-1) x5 s1 h
set_option maxRecDepth 20000 in
theorem wX3_describeNewcomer_47 {X : Cx} (F : Fx true X cX3_describeNewcomer RX3 6 1 23) {res : Int32 × SS} (R : RI true X cX3_describeNewcomer 6 res) {N : Nat} : ∀ (x3 : Int32) (x4 : Int32) (x5 : Int32) (t0 : Int32) (t1 : Int32) (s0 : SS), fX3_describeNewcomer_47 N x3 x4 x5 t0 t1 s0 = some res → G true X 6 47 [(0, rf X.2.2 1), (3, .int x3), (4, .int x4), (5, .int x5)] [.int t0, .int t1, rf X.2.2 7] s0 := by
  intro x3 x4 x5 t0 t1 s0 h
  unfold fX3_describeNewcomer_47 at h
  refine g_iast F (k := 7) pc7 dX3_describeNewcomer_47 h (fun s1 h => ?_)
  refine g_aload_n F (a := 1) (j := 0) dX3_describeNewcomer_48 rfl rfl ?_
  refine gt_X3_37 F (k := 1) pc1 dX3_describeNewcomer_49 (v := rf X.2.2 8) rfl ?_
  refine g_iload F (j := 3) dX3_describeNewcomer_52 rfl ?_
  refine g_iload_n F (j := 1) dX3_describeNewcomer_54 rfl rfl ?_
  refine g_iconst F (v := 1) dX3_describeNewcomer_55 (by decide) ?_
  refine g_icmp_ne F (tgt := 66) dX3_describeNewcomer_56 (by decide) h (fun h => ?_) (fun h => ?_)
  · refine g_iconst F (v := 1) dX3_describeNewcomer_59 (by decide) ?_
    refine g_iload F (j := 2) dX3_describeNewcomer_60 rfl ?_
    refine g_ishl F dX3_describeNewcomer_62 ?_
    refine g_goto F (tgt := 67) dX3_describeNewcomer_63 (by decide) ?_
    exact wX3_describeNewcomer_67 F R x3 x4 x5 ((1 : Int32) <<< (x4 &&& (31 : Int32))) x5 s1 h
  · refine g_iconst F (v := 0) dX3_describeNewcomer_66 (by decide) ?_
    exact wX3_describeNewcomer_67 F R x3 x4 x5 0 x5 s1 h
set_option maxRecDepth 20000 in
theorem wX3_describeNewcomer_e {X : Cx} (F : Fx true X cX3_describeNewcomer RX3 6 1 23) {res : Int32 × SS} (R : RI true X cX3_describeNewcomer 6 res) {N : Nat} : ∀ (a1 : Int32) (a2 : Int32) (a3 : Int32) (a4 : Int32) (s0 : SS), fX3_describeNewcomer N a1 a2 a3 a4 s0 = some res → G true X 6 0 [(0, rf X.2.2 1), (1, .int a1), (2, .int a2), (3, .int a3), (4, .int a4)] [] s0 := by
  intro a1 a2 a3 a4 s0 h
  unfold fX3_describeNewcomer at h
  refine g_aload_n F (a := 1) (j := 0) dX3_describeNewcomer_0 rfl rfl ?_
  refine gt_X3_15 F (k := 1) pc1 dX3_describeNewcomer_1 (v := .int (s0 1 1)) rfl ?_
  refine g_istore F dX3_describeNewcomer_4 (by decide) (lv' := [(0, rf X.2.2 1), (1, .int a1), (2, .int a2), (3, .int a3), (4, .int a4), (5, .int (s0 1 1))]) [1, 2, 3, 4, 5, 0] rfl ?_
  refine g_aload_n F (a := 1) (j := 0) dX3_describeNewcomer_6 rfl rfl ?_
  refine gt_X3_25 F (k := 1) pc1 dX3_describeNewcomer_7 (v := rf X.2.2 4) rfl ?_
  refine g_iload F (j := 5) dX3_describeNewcomer_10 rfl ?_
  refine g_iload_n F (j := 1) dX3_describeNewcomer_12 rfl rfl ?_
  refine g_iast F (k := 4) pc4 dX3_describeNewcomer_13 h (fun s1 h => ?_)
  refine g_aload_n F (a := 1) (j := 0) dX3_describeNewcomer_14 rfl rfl ?_
  refine gt_X3_28 F (k := 1) pc1 dX3_describeNewcomer_15 (v := rf X.2.2 5) rfl ?_
  refine g_iload F (j := 5) dX3_describeNewcomer_18 rfl ?_
  refine g_iload_n F (j := 2) dX3_describeNewcomer_20 rfl rfl ?_
  refine g_iast F (k := 5) pc5 dX3_describeNewcomer_21 h (fun s2 h => ?_)
  refine g_aload_n F (a := 1) (j := 0) dX3_describeNewcomer_22 rfl rfl ?_
  refine gt_X3_31 F (k := 1) pc1 dX3_describeNewcomer_23 (v := rf X.2.2 6) rfl ?_
  refine g_iload F (j := 5) dX3_describeNewcomer_26 rfl ?_
  refine g_iload_n F (j := 3) dX3_describeNewcomer_28 rfl rfl ?_
  refine g_iast F (k := 6) pc6 dX3_describeNewcomer_29 h (fun s3 h => ?_)
  refine g_aload_n F (a := 1) (j := 0) dX3_describeNewcomer_30 rfl rfl ?_
  refine gt_X3_34 F (k := 1) pc1 dX3_describeNewcomer_31 (v := rf X.2.2 7) rfl ?_
  refine g_iload F (j := 5) dX3_describeNewcomer_34 rfl ?_
  refine g_iload_n F (j := 3) dX3_describeNewcomer_36 rfl rfl ?_
  refine g_iconst F (v := 2) dX3_describeNewcomer_37 (by decide) ?_
  refine g_icmp_ne F (tgt := 46) dX3_describeNewcomer_38 (by decide) h (fun h => ?_) (fun h => ?_)
  · refine g_iload F (j := 4) dX3_describeNewcomer_41 rfl ?_
    refine g_goto F (tgt := 47) dX3_describeNewcomer_43 (by decide) ?_
    refine g_sub (lv' := [(0, rf X.2.2 1), (3, .int a3), (4, .int a4), (5, .int (s0 1 1))]) [0, 3, 4, 5] rfl ?_
    exact wX3_describeNewcomer_47 F R a3 a4 (s0 1 1) a4 (s0 1 1) s3 h
  · refine g_iconst F (v := (-1)) dX3_describeNewcomer_46 (by decide) ?_
    refine g_sub (lv' := [(0, rf X.2.2 1), (3, .int a3), (4, .int a4), (5, .int (s0 1 1))]) [0, 3, 4, 5] rfl ?_
    exact wX3_describeNewcomer_47 F R a3 a4 (s0 1 1) (-1) (s0 1 1) s3 h
theorem mX3_describeNewcomer {l : Launch} {w : Wd} (N : Nat) (hi : inj true w)  {res : Int32 × SS} {a1 a2 a3 a4 : Int32} {s0 : SS} (h : fX3_describeNewcomer N a1 a2 a3 a4 s0 = some res) : MI true l yX3_describeNewcomer cX3_describeNewcomer 6 (some .int) { frames := 1, cells := 0, slots := 0, locals := 23 } w [rf w 1, .int a1, .int a2, .int a3, .int a4] s0 res := by
  refine mk_i (by decide) hi (Nat.le_of_ble_eq_true rfl) (fun X hX hL F R => ?_)
  subst hX; subst hL
  exact wX3_describeNewcomer_e F R a1 a2 a3 a4 s0 h
set_option maxRecDepth 20000 in
theorem wX1_freeA_e {X : Cx} (F : Fx true X cX1_freeA RX1 2 0 0) {res : Int32 × SS} (R : RI true X cX1_freeA 2 res) {N : Nat} {r : Nat} (hr : isRow X.2.2 r) : ∀ (a1 : Int32) (s0 : SS), fX1_freeA N r a1 s0 = some res → G true X 2 0 [(0, rf X.2.2 r), (1, .int a1)] [] s0 := by
  intro a1 s0 h
  unfold fX1_freeA at h
  refine g_aload_n F (a := r) (j := 0) dX1_freeA_0 rfl rfl ?_
  refine gt_X1_31 F (k := r) hr.1 dX1_freeA_1 (v := rf X.2.2 1) rfl ?_
  refine gt_X1_41 F (k := 1) pc1 dX1_freeA_4 (v := rf X.2.2 2) rfl ?_
  refine g_iload_n F (j := 1) dX1_freeA_7 rfl rfl ?_
  refine g_iald F (k := 2) pc2 dX1_freeA_8 h (fun h => ?_)
  refine g_aload_n F (a := r) (j := 0) dX1_freeA_9 rfl rfl ?_
  refine gt_X1_15 F (k := r) hr.1 dX1_freeA_10 (v := rf X.2.2 (r + 2)) rfl ?_
  refine g_iload_n F (j := 1) dX1_freeA_13 rfl rfl ?_
  refine g_iald F (k := (r + 2)) hr.2.2.1 dX1_freeA_14 h (fun h => ?_)
  refine g_isub F dX1_freeA_15 ?_
  exact R _ _ _ _ dX1_freeA_16 h
theorem mX1_freeA {l : Launch} {w : Wd} (N : Nat) (hi : inj true w) {r : Nat} (hr : isRow w r) {res : Int32 × SS} {a1 : Int32} {s0 : SS} (h : fX1_freeA N r a1 s0 = some res) : MI true l yX1_freeA cX1_freeA 2 (some .int) { frames := 0, cells := 0, slots := 0, locals := 0 } w [rf w r, .int a1] s0 res := by
  refine mk_i (by decide) hi (Nat.le_of_ble_eq_true rfl) (fun X hX hL F R => ?_)
  subst hX; subst hL
  exact wX1_freeA_e F R hr a1 s0 h
set_option maxRecDepth 20000 in
theorem wX1_freeB_e {X : Cx} (F : Fx true X cX1_freeB RX1 2 0 0) {res : Int32 × SS} (R : RI true X cX1_freeB 2 res) {N : Nat} {r : Nat} (hr : isRow X.2.2 r) : ∀ (a1 : Int32) (s0 : SS), fX1_freeB N r a1 s0 = some res → G true X 2 0 [(0, rf X.2.2 r), (1, .int a1)] [] s0 := by
  intro a1 s0 h
  unfold fX1_freeB at h
  refine g_aload_n F (a := r) (j := 0) dX1_freeB_0 rfl rfl ?_
  refine gt_X1_31 F (k := r) hr.1 dX1_freeB_1 (v := rf X.2.2 1) rfl ?_
  refine gt_X1_46 F (k := 1) pc1 dX1_freeB_4 (v := rf X.2.2 3) rfl ?_
  refine g_iload_n F (j := 1) dX1_freeB_7 rfl rfl ?_
  refine g_iald F (k := 3) pc3 dX1_freeB_8 h (fun h => ?_)
  refine g_aload_n F (a := r) (j := 0) dX1_freeB_9 rfl rfl ?_
  refine gt_X1_18 F (k := r) hr.1 dX1_freeB_10 (v := rf X.2.2 (r + 3)) rfl ?_
  refine g_iload_n F (j := 1) dX1_freeB_13 rfl rfl ?_
  refine g_iald F (k := (r + 3)) hr.2.2.2.1 dX1_freeB_14 h (fun h => ?_)
  refine g_isub F dX1_freeB_15 ?_
  exact R _ _ _ _ dX1_freeB_16 h
theorem mX1_freeB {l : Launch} {w : Wd} (N : Nat) (hi : inj true w) {r : Nat} (hr : isRow w r) {res : Int32 × SS} {a1 : Int32} {s0 : SS} (h : fX1_freeB N r a1 s0 = some res) : MI true l yX1_freeB cX1_freeB 2 (some .int) { frames := 0, cells := 0, slots := 0, locals := 0 } w [rf w r, .int a1] s0 res := by
  refine mk_i (by decide) hi (Nat.le_of_ble_eq_true rfl) (fun X hX hL F R => ?_)
  subst hX; subst hL
  exact wX1_freeB_e F R hr a1 s0 h
set_option maxRecDepth 20000 in
theorem wX1_takes_83 {X : Cx} (F : Fx true X cX1_takes RX1 4 1 21) {res : Int32 × SS} (R : RZ true X cX1_takes 4 res) {N : Nat} {r : Nat} (hr : isRow X.2.2 r) : ∀ (t0 : Int32) (s0 : SS), fX1_takes_83 N r t0 s0 = some res → G true X 4 83 [] [.int t0] s0 := by
  intro t0 s0 h
  unfold fX1_takes_83 at h
  exact R _ _ _ _ dX1_takes_83 h
set_option maxRecDepth 20000 in
theorem wX1_takes_78 {X : Cx} (F : Fx true X cX1_takes RX1 4 1 21) {res : Int32 × SS} (R : RZ true X cX1_takes 4 res) {N : Nat} {r : Nat} (hr : isRow X.2.2 r) : ∀  (s0 : SS), fX1_takes_78 N r s0 = some res → G true X 4 78 [] [] s0 := by
  intro  s0 h
  unfold fX1_takes_78 at h
  refine g_iconst F (v := 1) dX1_takes_78 (by decide) ?_
  refine g_goto F (tgt := 83) dX1_takes_79 (by decide) ?_
  exact wX1_takes_83 F R hr 1 s0 h
set_option maxRecDepth 20000 in
theorem wX1_takes_82 {X : Cx} (F : Fx true X cX1_takes RX1 4 1 21) {res : Int32 × SS} (R : RZ true X cX1_takes 4 res) {N : Nat} {r : Nat} (hr : isRow X.2.2 r) : ∀  (s0 : SS), fX1_takes_82 N r s0 = some res → G true X 4 82 [] [] s0 := by
  intro  s0 h
  unfold fX1_takes_82 at h
  refine g_iconst F (v := 0) dX1_takes_82 (by decide) ?_
  exact wX1_takes_83 F R hr 0 s0 h
set_option maxRecDepth 20000 in
theorem wX1_takes_e {X : Cx} (F : Fx true X cX1_takes RX1 4 1 21) {res : Int32 × SS} (R : RZ true X cX1_takes 4 res) {N : Nat} {r : Nat} (hr : isRow X.2.2 r) : ∀ (a1 : Int32) (a2 : Int32) (s0 : SS), fX1_takes N r a1 a2 s0 = some res → G true X 4 0 [(0, rf X.2.2 r), (1, .int a1), (2, .int a2)] [] s0 := by
  intro a1 a2 s0 h
  unfold fX1_takes at h
  refine g_aload_n F (a := r) (j := 0) dX1_takes_0 rfl rfl ?_
  refine gt_X1_31 F (k := r) hr.1 dX1_takes_1 (v := rf X.2.2 1) rfl ?_
  refine gt_X1_49 F (k := 1) pc1 dX1_takes_4 (v := rf X.2.2 10) rfl ?_
  refine g_iload_n F (j := 1) dX1_takes_7 rfl rfl ?_
  refine g_iald F (k := 10) pc10 dX1_takes_8 h (fun h => ?_)
  refine g_istore_n F dX1_takes_9 rfl (by decide) (lv' := [(0, rf X.2.2 r), (1, .int a1), (2, .int a2), (3, .int (s0 10 (Int32.toNatClampNeg a1)))]) [1, 2, 3, 0] rfl ?_
  refine g_aload_n F (a := r) (j := 0) dX1_takes_10 rfl rfl ?_
  refine gt_X1_31 F (k := r) hr.1 dX1_takes_11 (v := rf X.2.2 1) rfl ?_
  refine gt_X1_52 F (k := 1) pc1 dX1_takes_14 (v := rf X.2.2 4) rfl ?_
  refine g_iload_n F (j := 1) dX1_takes_17 rfl rfl ?_
  refine g_iald F (k := 4) pc4 dX1_takes_18 h (fun h => ?_)
  refine g_aload_n F (a := r) (j := 0) dX1_takes_19 rfl rfl ?_
  refine g_iload_n F (j := 2) dX1_takes_20 rfl rfl ?_
  refine g_vi F (k := r) (As := [.int a2]) (rest := [.int (s0 4 (Int32.toNatClampNeg a1))]) (fun _ q => mX1_freeA N F.inj hr q) mw_X1_freeA ml_X1_55 rfl ⟨Nat.le_of_ble_eq_true rfl, Nat.le_of_ble_eq_true rfl⟩ hr.1 cl1 rfl (Nat.le_of_ble_eq_true rfl) dX1_takes_21 h (fun v1 s1 h => ?_)
  refine g_icmp_gt F (tgt := 82) dX1_takes_24 (by decide) h (fun h => ?_) (fun h => ?_)
  · refine g_sub (lv' := []) [] rfl ?_
    exact wX1_takes_82 F R hr s1 h
  · refine g_aload_n F (a := r) (j := 0) dX1_takes_27 rfl rfl ?_
    refine gt_X1_31 F (k := r) hr.1 dX1_takes_28 (v := rf X.2.2 1) rfl ?_
    refine gt_X1_59 F (k := 1) pc1 dX1_takes_31 (v := rf X.2.2 5) rfl ?_
    refine g_iload_n F (j := 1) dX1_takes_34 rfl rfl ?_
    refine g_iald F (k := 5) pc5 dX1_takes_35 h (fun h => ?_)
    refine g_aload_n F (a := r) (j := 0) dX1_takes_36 rfl rfl ?_
    refine g_iload_n F (j := 2) dX1_takes_37 rfl rfl ?_
    refine g_vi F (k := r) (As := [.int a2]) (rest := [.int (s1 5 (Int32.toNatClampNeg a1))]) (fun _ q => mX1_freeB N F.inj hr q) mw_X1_freeB ml_X1_62 rfl ⟨Nat.le_of_ble_eq_true rfl, Nat.le_of_ble_eq_true rfl⟩ hr.1 cl1 rfl (Nat.le_of_ble_eq_true rfl) dX1_takes_38 h (fun v2 s2 h => ?_)
    refine g_icmp_gt F (tgt := 82) dX1_takes_41 (by decide) h (fun h => ?_) (fun h => ?_)
    · refine g_sub (lv' := []) [] rfl ?_
      exact wX1_takes_82 F R hr s2 h
    · refine g_aload_n F (a := r) (j := 0) dX1_takes_44 rfl rfl ?_
      refine gt_X1_24 F (k := r) hr.1 dX1_takes_45 (v := rf X.2.2 (r + 5)) rfl ?_
      refine g_iload_n F (j := 2) dX1_takes_48 rfl rfl ?_
      refine g_iald F (k := (r + 5)) hr.2.2.2.2.2 dX1_takes_49 h (fun h => ?_)
      refine g_aload_n F (a := r) (j := 0) dX1_takes_50 rfl rfl ?_
      refine gt_X1_31 F (k := r) hr.1 dX1_takes_51 (v := rf X.2.2 1) rfl ?_
      refine gt_X1_65 F (k := 1) pc1 dX1_takes_54 (v := rf X.2.2 8) rfl ?_
      refine g_iload_n F (j := 1) dX1_takes_57 rfl rfl ?_
      refine g_iald F (k := 8) pc8 dX1_takes_58 h (fun h => ?_)
      refine g_iand F dX1_takes_59 ?_
      refine g_ifne F (tgt := 82) dX1_takes_60 (by decide) h (fun h => ?_) (fun h => ?_)
      · refine g_iload_n F (j := 3) dX1_takes_63 rfl rfl ?_
        refine g_iload_n F (j := 1) dX1_takes_64 rfl rfl ?_
        refine g_icmp_eq F (tgt := 78) dX1_takes_65 (by decide) h (fun h => ?_) (fun h => ?_)
        · refine g_sub (lv' := []) [] rfl ?_
          exact wX1_takes_78 F R hr s2 h
        · refine g_aload_n F (a := r) (j := 0) dX1_takes_68 rfl rfl ?_
          refine gt_X1_9 F (k := r) hr.1 dX1_takes_69 (v := rf X.2.2 (r + 1)) rfl ?_
          refine g_iload_n F (j := 3) dX1_takes_72 rfl rfl ?_
          refine g_iald F (k := (r + 1)) hr.2.1 dX1_takes_73 h (fun h => ?_)
          refine g_iload_n F (j := 2) dX1_takes_74 rfl rfl ?_
          refine g_icmp_ne F (tgt := 82) dX1_takes_75 (by decide) h (fun h => ?_) (fun h => ?_)
          · refine g_sub (lv' := []) [] rfl ?_
            exact wX1_takes_78 F R hr s2 h
          · refine g_sub (lv' := []) [] rfl ?_
            exact wX1_takes_82 F R hr s2 h
      · refine g_sub (lv' := []) [] rfl ?_
        exact wX1_takes_82 F R hr s2 h
theorem mX1_takes {l : Launch} {w : Wd} (N : Nat) (hi : inj true w) {r : Nat} (hr : isRow w r) {res : Int32 × SS} {a1 a2 : Int32} {s0 : SS} (h : fX1_takes N r a1 a2 s0 = some res) : MI true l yX1_takes cX1_takes 4 (some .boolean) { frames := 1, cells := 0, slots := 0, locals := 21 } w [rf w r, .int a1, .int a2] s0 res := by
  refine mk_z (by decide) hi (Nat.le_of_ble_eq_true rfl) (fun X hX hL F R => ?_)
  subst hX; subst hL
  exact wX1_takes_e F R hr a1 a2 s0 h
set_option maxRecDepth 20000 in
theorem wX3_addNewcomer_e {X : Cx} (F : Fx true X cX3_addNewcomer RX3 3 0 0) {res : SS} (R : RV true X cX3_addNewcomer 3 res) {N : Nat} : ∀  (s0 : SS), fX3_addNewcomer N s0 = some res → G true X 3 0 [(0, rf X.2.2 1)] [] s0 := by
  intro  s0 h
  unfold fX3_addNewcomer at h
  refine g_aload_n F (a := 1) (j := 0) dX3_addNewcomer_0 rfl rfl ?_
  refine gt_X3_15 F (k := 1) pc1 dX3_addNewcomer_1 (v := .int (s0 1 1)) rfl ?_
  refine g_istore_n F dX3_addNewcomer_4 rfl (by decide) (lv' := [(0, rf X.2.2 1), (1, .int (s0 1 1))]) [1, 0] rfl ?_
  refine g_aload_n F (a := 1) (j := 0) dX3_addNewcomer_5 rfl rfl ?_
  refine gt_X3_43 F (k := 1) pc1 dX3_addNewcomer_6 (v := rf X.2.2 10) rfl ?_
  refine g_iload_n F (j := 1) dX3_addNewcomer_9 rfl rfl ?_
  refine g_iald F (k := 10) pc10 dX3_addNewcomer_10 h (fun h => ?_)
  refine g_istore_n F dX3_addNewcomer_11 rfl (by decide) (lv' := [(0, rf X.2.2 1), (1, .int (s0 1 1)), (2, .int (s0 10 (Int32.toNatClampNeg (s0 1 1))))]) [1, 2, 0] rfl ?_
  refine g_aload_n F (a := 1) (j := 0) dX3_addNewcomer_12 rfl rfl ?_
  refine gt_X3_46 F (k := 1) pc1 dX3_addNewcomer_13 (v := rf X.2.2 11) rfl ?_
  refine g_iload_n F (j := 2) dX3_addNewcomer_16 rfl rfl ?_
  refine g_dup2 F dX3_addNewcomer_17 ?_
  refine g_iald F (k := 11) pc11 dX3_addNewcomer_18 h (fun h => ?_)
  refine g_aload_n F (a := 1) (j := 0) dX3_addNewcomer_19 rfl rfl ?_
  refine gt_X3_25 F (k := 1) pc1 dX3_addNewcomer_20 (v := rf X.2.2 4) rfl ?_
  refine g_iload_n F (j := 1) dX3_addNewcomer_23 rfl rfl ?_
  refine g_iald F (k := 4) pc4 dX3_addNewcomer_24 h (fun h => ?_)
  refine g_iadd F dX3_addNewcomer_25 ?_
  refine g_iast F (k := 11) pc11 dX3_addNewcomer_26 h (fun s1 h => ?_)
  refine g_aload_n F (a := 1) (j := 0) dX3_addNewcomer_27 rfl rfl ?_
  refine gt_X3_49 F (k := 1) pc1 dX3_addNewcomer_28 (v := rf X.2.2 12) rfl ?_
  refine g_iload_n F (j := 2) dX3_addNewcomer_31 rfl rfl ?_
  refine g_dup2 F dX3_addNewcomer_32 ?_
  refine g_iald F (k := 12) pc12 dX3_addNewcomer_33 h (fun h => ?_)
  refine g_aload_n F (a := 1) (j := 0) dX3_addNewcomer_34 rfl rfl ?_
  refine gt_X3_28 F (k := 1) pc1 dX3_addNewcomer_35 (v := rf X.2.2 5) rfl ?_
  refine g_iload_n F (j := 1) dX3_addNewcomer_38 rfl rfl ?_
  refine g_iald F (k := 5) pc5 dX3_addNewcomer_39 h (fun h => ?_)
  refine g_iadd F dX3_addNewcomer_40 ?_
  refine g_iast F (k := 12) pc12 dX3_addNewcomer_41 h (fun s2 h => ?_)
  refine g_aload_n F (a := 1) (j := 0) dX3_addNewcomer_42 rfl rfl ?_
  refine g_dupr F dX3_addNewcomer_43 ?_
  refine gt_X3_15 F (k := 1) pc1 dX3_addNewcomer_44 (v := .int (s2 1 1)) rfl ?_
  refine g_iconst F (v := 1) dX3_addNewcomer_47 (by decide) ?_
  refine g_iadd F dX3_addNewcomer_48 ?_
  refine pt_X3_15 F (k := 1) pc1 (Nat.le_of_ble_eq_true rfl) rfl dX3_addNewcomer_49 h (fun s3 h => ?_)
  exact R _ _ _ dX3_addNewcomer_52 h
theorem mX3_addNewcomer {l : Launch} {w : Wd} (N : Nat) (hi : inj true w)  {res : SS} {s0 : SS} (h : fX3_addNewcomer N s0 = some res) : MV true l yX3_addNewcomer cX3_addNewcomer 3 none { frames := 0, cells := 0, slots := 0, locals := 0 } w [rf w 1] s0 res := by
  refine mk_v (by decide) hi (Nat.le_of_ble_eq_true rfl) (fun X hX hL F R => ?_)
  subst hX; subst hL
  exact wX3_addNewcomer_e F R  s0 h
set_option maxRecDepth 20000 in
theorem wX1_put_80 {X : Cx} (F : Fx true X cX1_put RX1 3 0 0) {res : SS} (R : RV true X cX1_put 3 res) {N : Nat} {r : Nat} (hr : isRow X.2.2 r) : ∀ (x2 : Int32) (s0 : SS), fX1_put_80 N r x2 s0 = some res → G true X 3 80 [(0, rf X.2.2 r), (2, .int x2)] [] s0 := by
  intro x2 s0 h
  unfold fX1_put_80 at h
  refine g_aload_n F (a := r) (j := 0) dX1_put_80 rfl rfl ?_
  refine gt_X1_21 F (k := r) hr.1 dX1_put_81 (v := rf X.2.2 (r + 4)) rfl ?_
  refine g_iload_n F (j := 1) dX1_put_84 rfl rfl ?_
  refine g_dup2 F dX1_put_85 ?_
  refine g_iald F (k := (r + 4)) hr.2.2.2.2.1 dX1_put_86 h (fun h => ?_)
  refine g_iconst F (v := 1) dX1_put_87 (by decide) ?_
  refine g_iadd F dX1_put_88 ?_
  refine g_iast F (k := (r + 4)) hr.2.2.2.2.1 dX1_put_89 h (fun s1 h => ?_)
  exact R _ _ _ dX1_put_90 h
set_option maxRecDepth 20000 in
theorem wX1_put_e {X : Cx} (F : Fx true X cX1_put RX1 3 0 0) {res : SS} (R : RV true X cX1_put 3 res) {N : Nat} {r : Nat} (hr : isRow X.2.2 r) : ∀ (a1 : Int32) (a2 : Int32) (s0 : SS), fX1_put N r a1 a2 s0 = some res → G true X 3 0 [(0, rf X.2.2 r), (1, .int a1), (2, .int a2)] [] s0 := by
  intro a1 a2 s0 h
  unfold fX1_put at h
  refine g_aload_n F (a := r) (j := 0) dX1_put_0 rfl rfl ?_
  refine gt_X1_9 F (k := r) hr.1 dX1_put_1 (v := rf X.2.2 (r + 1)) rfl ?_
  refine g_iload_n F (j := 1) dX1_put_4 rfl rfl ?_
  refine g_iload_n F (j := 2) dX1_put_5 rfl rfl ?_
  refine g_iast F (k := (r + 1)) hr.2.1 dX1_put_6 h (fun s1 h => ?_)
  refine g_aload_n F (a := r) (j := 0) dX1_put_7 rfl rfl ?_
  refine gt_X1_15 F (k := r) hr.1 dX1_put_8 (v := rf X.2.2 (r + 2)) rfl ?_
  refine g_iload_n F (j := 2) dX1_put_11 rfl rfl ?_
  refine g_dup2 F dX1_put_12 ?_
  refine g_iald F (k := (r + 2)) hr.2.2.1 dX1_put_13 h (fun h => ?_)
  refine g_aload_n F (a := r) (j := 0) dX1_put_14 rfl rfl ?_
  refine gt_X1_31 F (k := r) hr.1 dX1_put_15 (v := rf X.2.2 1) rfl ?_
  refine gt_X1_52 F (k := 1) pc1 dX1_put_18 (v := rf X.2.2 4) rfl ?_
  refine g_iload_n F (j := 1) dX1_put_21 rfl rfl ?_
  refine g_iald F (k := 4) pc4 dX1_put_22 h (fun h => ?_)
  refine g_iadd F dX1_put_23 ?_
  refine g_iast F (k := (r + 2)) hr.2.2.1 dX1_put_24 h (fun s2 h => ?_)
  refine g_aload_n F (a := r) (j := 0) dX1_put_25 rfl rfl ?_
  refine gt_X1_18 F (k := r) hr.1 dX1_put_26 (v := rf X.2.2 (r + 3)) rfl ?_
  refine g_iload_n F (j := 2) dX1_put_29 rfl rfl ?_
  refine g_dup2 F dX1_put_30 ?_
  refine g_iald F (k := (r + 3)) hr.2.2.2.1 dX1_put_31 h (fun h => ?_)
  refine g_aload_n F (a := r) (j := 0) dX1_put_32 rfl rfl ?_
  refine gt_X1_31 F (k := r) hr.1 dX1_put_33 (v := rf X.2.2 1) rfl ?_
  refine gt_X1_59 F (k := 1) pc1 dX1_put_36 (v := rf X.2.2 5) rfl ?_
  refine g_iload_n F (j := 1) dX1_put_39 rfl rfl ?_
  refine g_iald F (k := 5) pc5 dX1_put_40 h (fun h => ?_)
  refine g_iadd F dX1_put_41 ?_
  refine g_iast F (k := (r + 3)) hr.2.2.2.1 dX1_put_42 h (fun s3 h => ?_)
  refine g_aload_n F (a := r) (j := 0) dX1_put_43 rfl rfl ?_
  refine gt_X1_24 F (k := r) hr.1 dX1_put_44 (v := rf X.2.2 (r + 5)) rfl ?_
  refine g_iload_n F (j := 2) dX1_put_47 rfl rfl ?_
  refine g_dup2 F dX1_put_48 ?_
  refine g_iald F (k := (r + 5)) hr.2.2.2.2.2 dX1_put_49 h (fun h => ?_)
  refine g_aload_n F (a := r) (j := 0) dX1_put_50 rfl rfl ?_
  refine gt_X1_31 F (k := r) hr.1 dX1_put_51 (v := rf X.2.2 1) rfl ?_
  refine gt_X1_65 F (k := 1) pc1 dX1_put_54 (v := rf X.2.2 8) rfl ?_
  refine g_iload_n F (j := 1) dX1_put_57 rfl rfl ?_
  refine g_iald F (k := 8) pc8 dX1_put_58 h (fun h => ?_)
  refine g_ior F dX1_put_59 ?_
  refine g_iast F (k := (r + 5)) hr.2.2.2.2.2 dX1_put_60 h (fun s4 h => ?_)
  refine g_aload_n F (a := r) (j := 0) dX1_put_61 rfl rfl ?_
  refine gt_X1_21 F (k := r) hr.1 dX1_put_62 (v := rf X.2.2 (r + 4)) rfl ?_
  refine g_iload_n F (j := 2) dX1_put_65 rfl rfl ?_
  refine g_iald F (k := (r + 4)) hr.2.2.2.2.1 dX1_put_66 h (fun h => ?_)
  refine g_ifne F (tgt := 80) dX1_put_67 (by decide) h (fun h => ?_) (fun h => ?_)
  · refine g_aload_n F (a := r) (j := 0) dX1_put_70 rfl rfl ?_
    refine g_dupr F dX1_put_71 ?_
    refine gt_X1_27 F (k := r) hr.1 dX1_put_72 (v := .int (s4 r 6)) rfl ?_
    refine g_iconst F (v := 1) dX1_put_75 (by decide) ?_
    refine g_iadd F dX1_put_76 ?_
    refine pt_X1_27 F (k := r) hr.1 (Nat.le_of_ble_eq_true rfl) rfl dX1_put_77 h (fun s5 h => ?_)
    refine g_sub (lv' := [(0, rf X.2.2 r), (2, .int a2)]) [0, 2] rfl ?_
    exact wX1_put_80 F R hr a2 s5 h
  · refine g_sub (lv' := [(0, rf X.2.2 r), (2, .int a2)]) [0, 2] rfl ?_
    exact wX1_put_80 F R hr a2 s4 h
theorem mX1_put {l : Launch} {w : Wd} (N : Nat) (hi : inj true w) {r : Nat} (hr : isRow w r) {res : SS} {a1 a2 : Int32} {s0 : SS} (h : fX1_put N r a1 a2 s0 = some res) : MV true l yX1_put cX1_put 3 none { frames := 0, cells := 0, slots := 0, locals := 0 } w [rf w r, .int a1, .int a2] s0 res := by
  refine mk_v (by decide) hi (Nat.le_of_ble_eq_true rfl) (fun X hX hL F R => ?_)
  subst hX; subst hL
  exact wX1_put_e F R hr a1 a2 s0 h
set_option maxRecDepth 20000 in
theorem wX5_work_36 {X : Cx} (F : Fx true X cX5_work RX5 7 2 48) {res : Int32 × SS} (R : RI true X cX5_work 7 res) {N : Nat} : ∀  (s0 : SS), fX5_work_36 N s0 = some res → G true X 7 36 [] [] s0 := by
  intro  s0 h
  unfold fX5_work_36 at h
  refine g_bipush F (v := (-2)) dX5_work_36 (by decide) ?_
  exact R _ _ _ _ dX5_work_38 h
set_option maxRecDepth 20000 in
theorem wX5_work_e {X : Cx} (F : Fx true X cX5_work RX5 7 2 48) {res : Int32 × SS} (R : RI true X cX5_work 7 res) {N : Nat} : ∀ (a1 : Int32) (a2 : Int32) (a3 : Int32) (a4 : Int32) (a5 : Int32) (s0 : SS), fX5_work N a1 a2 a3 a4 a5 s0 = some res → G true X 7 0 [(0, rf X.2.2 0), (1, .int a1), (2, .int a2), (3, .int a3), (4, .int a4), (5, .int a5)] [] s0 := by
  intro a1 a2 a3 a4 a5 s0 h
  unfold fX5_work at h
  refine g_iload_n F (j := 1) dX5_work_0 rfl rfl ?_
  refine g_si F (As := [.int a1]) (rest := []) (fun _ q => mX5_isAmount N F.inj  q) mw_X5_isAmount ml_X5_71 rfl ⟨Nat.le_of_ble_eq_true rfl, Nat.le_of_ble_eq_true rfl⟩ rfl (Nat.le_of_ble_eq_true rfl) dX5_work_1 h (fun v1 s1 h => ?_)
  refine g_ifeq F (tgt := 36) dX5_work_4 (by decide) h (fun h => ?_) (fun h => ?_)
  · refine g_sub (lv' := []) [] rfl ?_
    exact wX5_work_36 F R s1 h
  · refine g_iload_n F (j := 2) dX5_work_7 rfl rfl ?_
    refine g_si F (As := [.int a2]) (rest := []) (fun _ q => mX5_isAmount N F.inj  q) mw_X5_isAmount ml_X5_71 rfl ⟨Nat.le_of_ble_eq_true rfl, Nat.le_of_ble_eq_true rfl⟩ rfl (Nat.le_of_ble_eq_true rfl) dX5_work_8 h (fun v2 s2 h => ?_)
    refine g_ifeq F (tgt := 36) dX5_work_11 (by decide) h (fun h => ?_) (fun h => ?_)
    · refine g_sub (lv' := []) [] rfl ?_
      exact wX5_work_36 F R s2 h
    · refine g_aload_n F (a := 0) (j := 0) dX5_work_14 rfl rfl ?_
      refine g_iload_n F (j := 3) dX5_work_15 rfl rfl ?_
      refine g_iload F (j := 4) dX5_work_16 rfl ?_
      refine g_vi F (k := 0) (As := [.int a3, .int a4]) (rest := []) (fun _ q => mX5_isKindWithGroup N F.inj  q) mw_X5_isKindWithGroup ml_X5_82 rfl ⟨Nat.le_of_ble_eq_true rfl, Nat.le_of_ble_eq_true rfl⟩ pc0 cl5 rfl (Nat.le_of_ble_eq_true rfl) dX5_work_18 h (fun v3 s3 h => ?_)
      refine g_ifeq F (tgt := 36) dX5_work_21 (by decide) h (fun h => ?_) (fun h => ?_)
      · refine g_sub (lv' := []) [] rfl ?_
        exact wX5_work_36 F R s3 h
      · refine g_aload_n F (a := 0) (j := 0) dX5_work_24 rfl rfl ?_
        refine gt_X5_10 F (k := 0) pc0 dX5_work_25 (v := rf X.2.2 1) rfl ?_
        refine g_iload F (j := 5) dX5_work_28 rfl ?_
        refine g_vi F (k := 1) (As := [.int a5]) (rest := []) (fun _ q => mX3_hasMachine N F.inj  q) mw_X3_hasMachine ml_X5_86 rfl ⟨Nat.le_of_ble_eq_true rfl, Nat.le_of_ble_eq_true rfl⟩ pc1 cl3 rfl (Nat.le_of_ble_eq_true rfl) dX5_work_30 h (fun v4 s4 h => ?_)
        refine g_ifne F (tgt := 39) dX5_work_33 (by decide) h (fun h => ?_) (fun h => ?_)
        · refine g_sub (lv' := []) [] rfl ?_
          exact wX5_work_36 F R s4 h
        · refine g_aload_n F (a := 0) (j := 0) dX5_work_39 rfl rfl ?_
          refine gt_X5_10 F (k := 0) pc0 dX5_work_40 (v := rf X.2.2 1) rfl ?_
          refine g_iload_n F (j := 1) dX5_work_43 rfl rfl ?_
          refine g_iload_n F (j := 2) dX5_work_44 rfl rfl ?_
          refine g_iload_n F (j := 3) dX5_work_45 rfl rfl ?_
          refine g_iload F (j := 4) dX5_work_46 rfl ?_
          refine g_vi F (k := 1) (As := [.int a1, .int a2, .int a3, .int a4]) (rest := []) (fun _ q => mX3_describeNewcomer N F.inj  q) mw_X3_describeNewcomer ml_X5_89 rfl ⟨Nat.le_of_ble_eq_true rfl, Nat.le_of_ble_eq_true rfl⟩ pc1 cl3 rfl (Nat.le_of_ble_eq_true rfl) dX5_work_48 h (fun v5 s5 h => ?_)
          refine g_istore F dX5_work_51 (by decide) (lv' := [(0, rf X.2.2 0), (5, .int a5), (6, .int v5)]) [1, 6, 0] rfl ?_
          refine g_aload_n F (a := 0) (j := 0) dX5_work_53 rfl rfl ?_
          refine gt_X5_21 F (k := 0) pc0 dX5_work_54 (v := rf X.2.2 13) rfl ?_
          refine g_iload F (j := 2) dX5_work_57 rfl ?_
          refine g_iload F (j := 1) dX5_work_59 rfl ?_
          refine g_vi F (k := 13) (As := [.int v5, .int a5]) (rest := []) (fun _ q => mX1_takes N F.inj row13 q) mw_X1_takes ml_X5_93 rfl ⟨Nat.le_of_ble_eq_true rfl, Nat.le_of_ble_eq_true rfl⟩ pc13 cl1 rfl (Nat.le_of_ble_eq_true rfl) dX5_work_61 h (fun v6 s6 h => ?_)
          refine g_ifne F (tgt := 70) dX5_work_64 (by decide) h (fun h => ?_) (fun h => ?_)
          · refine g_bipush F (v := (-3)) dX5_work_67 (by decide) ?_
            exact R _ _ _ _ dX5_work_69 h
          · refine g_aload_n F (a := 0) (j := 0) dX5_work_70 rfl rfl ?_
            refine gt_X5_10 F (k := 0) pc0 dX5_work_71 (v := rf X.2.2 1) rfl ?_
            refine gt_X5_96 F (k := 1) pc1 dX5_work_74 (v := .int (s6 1 1)) rfl ?_
            refine g_bipush F (v := 8) dX5_work_77 (by decide) ?_
            refine g_icmp_lt F (tgt := 85) dX5_work_79 (by decide) h (fun h => ?_) (fun h => ?_)
            · refine g_aload_n F (a := 0) (j := 0) dX5_work_85 rfl rfl ?_
              refine gt_X5_10 F (k := 0) pc0 dX5_work_86 (v := rf X.2.2 1) rfl ?_
              refine g_vv F (k := 1) (As := []) (rest := []) (fun _ q => mX3_addNewcomer N F.inj  q) mw_X3_addNewcomer ml_X5_99 rfl ⟨Nat.le_of_ble_eq_true rfl, Nat.le_of_ble_eq_true rfl⟩ pc1 cl3 rfl (Nat.le_of_ble_eq_true rfl) dX5_work_89 h (fun s7 h => ?_)
              refine g_aload_n F (a := 0) (j := 0) dX5_work_92 rfl rfl ?_
              refine gt_X5_21 F (k := 0) pc0 dX5_work_93 (v := rf X.2.2 13) rfl ?_
              refine g_iload F (j := 2) dX5_work_96 rfl ?_
              refine g_iload F (j := 1) dX5_work_98 rfl ?_
              refine g_vv F (k := 13) (As := [.int v5, .int a5]) (rest := []) (fun _ q => mX1_put N F.inj row13 q) mw_X1_put ml_X5_102 rfl ⟨Nat.le_of_ble_eq_true rfl, Nat.le_of_ble_eq_true rfl⟩ pc13 cl1 rfl (Nat.le_of_ble_eq_true rfl) dX5_work_100 h (fun s8 h => ?_)
              refine g_aload_n F (a := 0) (j := 0) dX5_work_103 rfl rfl ?_
              refine g_iconst F (v := 0) dX5_work_104 (by decide) ?_
              refine pt_X5_54 F (k := 0) pc0 (Nat.le_of_ble_eq_true rfl) rfl dX5_work_105 (by decide) h (fun s9 h => ?_)
              refine g_iload F (j := 2) dX5_work_108 rfl ?_
              exact R _ _ _ _ dX5_work_110 h
            · refine g_bipush F (v := (-4)) dX5_work_82 (by decide) ?_
              exact R _ _ _ _ dX5_work_84 h
theorem mX5_work {l : Launch} {w : Wd} (N : Nat) (hi : inj true w)  {res : Int32 × SS} {a1 a2 a3 a4 a5 : Int32} {s0 : SS} (h : fX5_work N a1 a2 a3 a4 a5 s0 = some res) : MI true l yX5_work cX5_work 7 (some .int) { frames := 2, cells := 0, slots := 0, locals := 48 } w [rf w 0, .int a1, .int a2, .int a3, .int a4, .int a5] s0 res := by
  refine mk_i (by decide) hi (Nat.le_of_ble_eq_true rfl) (fun X hX hL F R => ?_)
  subst hX; subst hL
  exact wX5_work_e F R a1 a2 a3 a4 a5 s0 h
set_option maxRecDepth 20000 in
theorem wX6_isMachine_e {X : Cx} (F : Fx false X cX6_isMachine RX6 2 1 22) {res : Int32 × SS} (R : RZ false X cX6_isMachine 2 res) {N : Nat} : ∀ (a1 : Int32) (s0 : SS), fX6_isMachine N a1 s0 = some res → G false X 2 0 [(0, rf X.2.2 0), (1, .int a1)] [] s0 := by
  intro a1 s0 h
  unfold fX6_isMachine at h
  refine g_iload_n F (j := 1) dX6_isMachine_0 rfl rfl ?_
  refine g_iconst F (v := 0) dX6_isMachine_1 (by decide) ?_
  refine g_aload_n F (a := 0) (j := 0) dX6_isMachine_2 rfl rfl ?_
  refine gt_X6_64 F (k := 0) pm0 dX6_isMachine_3 (v := .int (s0 0 0)) rfl ?_
  refine g_iconst F (v := 1) dX6_isMachine_6 (by decide) ?_
  refine g_isub F dX6_isMachine_7 ?_
  refine g_si F (As := [.int a1, .int 0, .int ((s0 0 0) - 1)]) (rest := []) (fun _ q => mX6_in N F.inj  q) mw_X6_in ml_X6_60 rfl ⟨Nat.le_of_ble_eq_true rfl, Nat.le_of_ble_eq_true rfl⟩ rfl (Nat.le_of_ble_eq_true rfl) dX6_isMachine_8 h (fun v1 s1 h => ?_)
  exact R _ _ _ _ dX6_isMachine_11 h
theorem mX6_isMachine {l : Launch} {w : Wd} (N : Nat) (hi : inj false w)  {res : Int32 × SS} {a1 : Int32} {s0 : SS} (h : fX6_isMachine N a1 s0 = some res) : MI false l yX6_isMachine cX6_isMachine 2 (some .boolean) { frames := 1, cells := 0, slots := 0, locals := 22 } w [rf w 0, .int a1] s0 res := by
  refine mk_z (by decide) hi (Nat.le_of_ble_eq_true rfl) (fun X hX hL F R => ?_)
  subst hX; subst hL
  exact wX6_isMachine_e F R a1 s0 h
set_option maxRecDepth 20000 in
theorem wX6_freeA_47 {X : Cx} (F : Fx false X cX6_freeA RX6 4 0 0) {res : Int32 × SS} (R : RI false X cX6_freeA 4 res) {N : Nat} {k9 : Int32 → Int32 → Int32 → SS → Option (Int32 × SS)} (hk9 : ∀ (x1 : Int32) (x2 : Int32) (x3 : Int32) (σ : SS), k9 x1 x2 x3 σ = some res → G false X 4 9 [(0, rf X.2.2 0), (1, .int x1), (2, .int x2), (3, .int x3)] [] σ) : ∀ (x1 : Int32) (x3 : Int32) (t0 : Int32) (t1 : Int32) (s0 : SS), fX6_freeA_47 N k9 x1 x3 t0 t1 s0 = some res → G false X 4 47 [(0, rf X.2.2 0), (1, .int x1), (3, .int x3)] [.int t0, .int t1] s0 := by
  intro x1 x3 t0 t1 s0 h
  unfold fX6_freeA_47 at h
  refine g_isub F dX6_freeA_47 ?_
  refine g_istore_n F dX6_freeA_48 rfl (by decide) (lv' := [(0, rf X.2.2 0), (1, .int x1), (2, .int (t1 - t0)), (3, .int x3)]) [1, 2, 0, 3] rfl ?_
  refine g_iinc F (j := 3) (v := x3 + 1) dX6_freeA_49 rfl rfl (by decide) (lv' := [(0, rf X.2.2 0), (1, .int x1), (2, .int (t1 - t0)), (3, .int (x3 + 1))]) [1, 2, 3, 0] rfl ?_
  refine g_goto F (tgt := 9) dX6_freeA_52 (by decide) ?_
  exact hk9 x1 (t1 - t0) (x3 + 1) s0 h
set_option maxRecDepth 20000 in
theorem wX6_freeA_46 {X : Cx} (F : Fx false X cX6_freeA RX6 4 0 0) {res : Int32 × SS} (R : RI false X cX6_freeA 4 res) {N : Nat} {k9 : Int32 → Int32 → Int32 → SS → Option (Int32 × SS)} (hk9 : ∀ (x1 : Int32) (x2 : Int32) (x3 : Int32) (σ : SS), k9 x1 x2 x3 σ = some res → G false X 4 9 [(0, rf X.2.2 0), (1, .int x1), (2, .int x2), (3, .int x3)] [] σ) : ∀ (x1 : Int32) (x3 : Int32) (t0 : Int32) (s0 : SS), fX6_freeA_46 N k9 x1 x3 t0 s0 = some res → G false X 4 46 [(0, rf X.2.2 0), (1, .int x1), (3, .int x3)] [.int t0] s0 := by
  intro x1 x3 t0 s0 h
  unfold fX6_freeA_46 at h
  refine g_iconst F (v := 0) dX6_freeA_46 (by decide) ?_
  exact wX6_freeA_47 F R hk9 x1 x3 0 t0 s0 h
set_option maxRecDepth 20000 in
theorem wX6_freeA_9 {X : Cx} (F : Fx false X cX6_freeA RX6 4 0 0) {res : Int32 × SS} (R : RI false X cX6_freeA 4 res) {N : Nat} {k9 : Int32 → Int32 → Int32 → SS → Option (Int32 × SS)} (hk9 : ∀ (x1 : Int32) (x2 : Int32) (x3 : Int32) (σ : SS), k9 x1 x2 x3 σ = some res → G false X 4 9 [(0, rf X.2.2 0), (1, .int x1), (2, .int x2), (3, .int x3)] [] σ) : ∀ (x1 : Int32) (x2 : Int32) (x3 : Int32) (s0 : SS), fX6_freeA_9 N k9 x1 x2 x3 s0 = some res → G false X 4 9 [(0, rf X.2.2 0), (1, .int x1), (2, .int x2), (3, .int x3)] [] s0 := by
  intro x1 x2 x3 s0 h
  unfold fX6_freeA_9 at h
  refine g_iload_n F (j := 3) dX6_freeA_9 rfl rfl ?_
  refine g_aload_n F (a := 0) (j := 0) dX6_freeA_10 rfl rfl ?_
  refine gt_X6_67 F (k := 0) pm0 dX6_freeA_11 (v := .int (s0 0 3)) rfl ?_
  refine g_icmp_ge F (tgt := 55) dX6_freeA_14 (by decide) h (fun h => ?_) (fun h => ?_)
  · refine g_iload_n F (j := 2) dX6_freeA_55 rfl rfl ?_
    exact R _ _ _ _ dX6_freeA_56 h
  · refine g_iload_n F (j := 2) dX6_freeA_17 rfl rfl ?_
    refine g_aload_n F (a := 0) (j := 0) dX6_freeA_18 rfl rfl ?_
    refine gt_X6_31 F (k := 0) pm0 dX6_freeA_19 (v := rf X.2.2 8) rfl ?_
    refine g_iload_n F (j := 3) dX6_freeA_22 rfl rfl ?_
    refine g_zald F (k := 8) pm8 dX6_freeA_23 h (fun h => ?_)
    refine g_ifne F (tgt := 46) dX6_freeA_24 (by decide) h (fun h => ?_) (fun h => ?_)
    · refine g_aload_n F (a := 0) (j := 0) dX6_freeA_27 rfl rfl ?_
      refine gt_X6_28 F (k := 0) pm0 dX6_freeA_28 (v := rf X.2.2 7) rfl ?_
      refine g_iload_n F (j := 3) dX6_freeA_31 rfl rfl ?_
      refine g_iald F (k := 7) pm7 dX6_freeA_32 h (fun h => ?_)
      refine g_iload_n F (j := 1) dX6_freeA_33 rfl rfl ?_
      refine g_icmp_ne F (tgt := 46) dX6_freeA_34 (by decide) h (fun h => ?_) (fun h => ?_)
      · refine g_aload_n F (a := 0) (j := 0) dX6_freeA_37 rfl rfl ?_
        refine gt_X6_16 F (k := 0) pm0 dX6_freeA_38 (v := rf X.2.2 3) rfl ?_
        refine g_iload_n F (j := 3) dX6_freeA_41 rfl rfl ?_
        refine g_iald F (k := 3) pm3 dX6_freeA_42 h (fun h => ?_)
        refine g_goto F (tgt := 47) dX6_freeA_43 (by decide) ?_
        refine g_sub (lv' := [(0, rf X.2.2 0), (1, .int x1), (3, .int x3)]) [0, 1, 3] rfl ?_
        exact wX6_freeA_47 F R hk9 x1 x3 (s0 3 (Int32.toNatClampNeg x3)) x2 s0 h
      · refine g_sub (lv' := [(0, rf X.2.2 0), (1, .int x1), (3, .int x3)]) [0, 1, 3] rfl ?_
        exact wX6_freeA_46 F R hk9 x1 x3 x2 s0 h
    · refine g_sub (lv' := [(0, rf X.2.2 0), (1, .int x1), (3, .int x3)]) [0, 1, 3] rfl ?_
      exact wX6_freeA_46 F R hk9 x1 x3 x2 s0 h
theorem wX6_freeA_9_lp {X : Cx} (F : Fx false X cX6_freeA RX6 4 0 0) {res : Int32 × SS} (R : RI false X cX6_freeA 4 res) {N : Nat} : ∀ (n : Nat) (x1 : Int32) (x2 : Int32) (x3 : Int32) (s0 : SS), lp (fX6_freeA_9 N) (fun _ _ _ _ => none) n x1 x2 x3 s0 = some res → G false X 4 9 [(0, rf X.2.2 0), (1, .int x1), (2, .int x2), (3, .int x3)] [] s0 := by
  intro n
  induction n with
  | zero => intro x1 x2 x3 s0 h; cases (show (none : Option (Int32 × SS)) = some res from h)
  | succ n ih => intro x1 x2 x3 s0 h; exact wX6_freeA_9 F R ih x1 x2 x3 s0 h
set_option maxRecDepth 20000 in
theorem wX6_freeA_e {X : Cx} (F : Fx false X cX6_freeA RX6 4 0 0) {res : Int32 × SS} (R : RI false X cX6_freeA 4 res) {N : Nat} : ∀ (a1 : Int32) (s0 : SS), fX6_freeA N a1 s0 = some res → G false X 4 0 [(0, rf X.2.2 0), (1, .int a1)] [] s0 := by
  intro a1 s0 h
  unfold fX6_freeA at h
  refine g_aload_n F (a := 0) (j := 0) dX6_freeA_0 rfl rfl ?_
  refine gt_X6_7 F (k := 0) pm0 dX6_freeA_1 (v := rf X.2.2 1) rfl ?_
  refine g_iload_n F (j := 1) dX6_freeA_4 rfl rfl ?_
  refine g_iald F (k := 1) pm1 dX6_freeA_5 h (fun h => ?_)
  refine g_istore_n F dX6_freeA_6 rfl (by decide) (lv' := [(0, rf X.2.2 0), (1, .int a1), (2, .int (s0 1 (Int32.toNatClampNeg a1)))]) [1, 2, 0] rfl ?_
  refine g_iconst F (v := 0) dX6_freeA_7 (by decide) ?_
  refine g_istore_n F dX6_freeA_8 rfl (by decide) (lv' := [(0, rf X.2.2 0), (1, .int a1), (2, .int (s0 1 (Int32.toNatClampNeg a1))), (3, .int 0)]) [1, 2, 3, 0] rfl ?_
  exact wX6_freeA_9_lp F R N a1 (s0 1 (Int32.toNatClampNeg a1)) 0 s0 h
theorem mX6_freeA {l : Launch} {w : Wd} (N : Nat) (hi : inj false w)  {res : Int32 × SS} {a1 : Int32} {s0 : SS} (h : fX6_freeA N a1 s0 = some res) : MI false l yX6_freeA cX6_freeA 4 (some .int) { frames := 0, cells := 0, slots := 0, locals := 0 } w [rf w 0, .int a1] s0 res := by
  refine mk_i (by decide) hi (Nat.le_of_ble_eq_true rfl) (fun X hX hL F R => ?_)
  subst hX; subst hL
  exact wX6_freeA_e F R a1 s0 h
