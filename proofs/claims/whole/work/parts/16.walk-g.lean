set_option maxRecDepth 20000 in
theorem wX6_search_50 {X : Cx} (F : Fx false X cX6_search RX6 1 7 155) {res : Int32 × SS} (R : RZ false X cX6_search 1 res) {N : Nat} : ∀  (s0 : SS), fX6_search_50 N s0 = some res → G false X 1 50 [(0, rf X.2.2 0)] [] s0 := by
  intro  s0 h
  unfold fX6_search_50 at h
  refine g_aload_n F (a := 0) (j := 0) dX6_search_50 rfl rfl ?_
  refine g_vi F (k := 0) (As := []) (rest := []) (fun _ q => mX6_searchRoom N F.inj  q) mw_X6_searchRoom ml_X6_138 rfl ⟨Nat.le_of_ble_eq_true rfl, Nat.le_of_ble_eq_true rfl⟩ pm0 cl6 rfl (Nat.le_of_ble_eq_true rfl) dX6_search_51 h (fun v1 s1 h => ?_)
  exact R _ _ _ _ dX6_search_54 h
set_option maxRecDepth 20000 in
theorem wX6_search_55 {X : Cx} (F : Fx false X cX6_search RX6 1 7 155) {res : Int32 × SS} (R : RZ false X cX6_search 1 res) {N : Nat} : ∀  (s0 : SS), fX6_search_55 N s0 = some res → G false X 1 55 [(0, rf X.2.2 0)] [] s0 := by
  intro  s0 h
  unfold fX6_search_55 at h
  refine g_aload_n F (a := 0) (j := 0) dX6_search_55 rfl rfl ?_
  refine g_vi F (k := 0) (As := []) (rest := []) (fun _ q => mX6_go N F.inj  q) mw_X6_go ml_X6_141 rfl ⟨Nat.le_of_ble_eq_true rfl, Nat.le_of_ble_eq_true rfl⟩ pm0 cl6 rfl (Nat.le_of_ble_eq_true rfl) dX6_search_56 h (fun v1 s1 h => ?_)
  exact R _ _ _ _ dX6_search_59 h
set_option maxRecDepth 20000 in
theorem wX6_search_e {X : Cx} (F : Fx false X cX6_search RX6 1 7 155) {res : Int32 × SS} (R : RZ false X cX6_search 1 res) {N : Nat} : ∀  (s0 : SS), fX6_search N s0 = some res → G false X 1 0 [(0, rf X.2.2 0)] [] s0 := by
  intro  s0 h
  unfold fX6_search at h
  refine g_aload_n F (a := 0) (j := 0) dX6_search_0 rfl rfl ?_
  refine g_iconst F (v := 0) dX6_search_1 (by decide) ?_
  refine pt_X6_132 F (k := 0) pm0 (Nat.le_of_ble_eq_true rfl) rfl dX6_search_2 h (fun s1 h => ?_)
  refine g_aload_n F (a := 0) (j := 0) dX6_search_5 rfl rfl ?_
  refine g_iconst F (v := (-1)) dX6_search_6 (by decide) ?_
  refine pt_X6_135 F (k := 0) pm0 (Nat.le_of_ble_eq_true rfl) rfl dX6_search_7 h (fun s2 h => ?_)
  refine g_aload_n F (a := 0) (j := 0) dX6_search_10 rfl rfl ?_
  refine gt_X6_109 F (k := 0) pm0 dX6_search_11 (v := .int (s2 0 17)) rfl ?_
  refine g_iconst F (v := 1) dX6_search_14 (by decide) ?_
  refine g_icmp_ne F (tgt := 55) dX6_search_15 (by decide) h (fun h => ?_) (fun h => ?_)
  · refine g_aload_n F (a := 0) (j := 0) dX6_search_18 rfl rfl ?_
    refine gt_X6_7 F (k := 0) pm0 dX6_search_19 (v := rf X.2.2 1) rfl ?_
    refine g_aload_n F (a := 0) (j := 0) dX6_search_22 rfl rfl ?_
    refine gt_X6_112 F (k := 0) pm0 dX6_search_23 (v := .int (s2 0 18)) rfl ?_
    refine g_iald F (k := 1) pm1 dX6_search_26 h (fun h => ?_)
    refine g_aload_n F (a := 0) (j := 0) dX6_search_27 rfl rfl ?_
    refine gt_X6_115 F (k := 0) pm0 dX6_search_28 (v := .int (s2 0 19)) rfl ?_
    refine g_icmp_lt F (tgt := 50) dX6_search_31 (by decide) h (fun h => ?_) (fun h => ?_)
    · exact wX6_search_50 F R s2 h
    · refine g_aload_n F (a := 0) (j := 0) dX6_search_34 rfl rfl ?_
      refine gt_X6_13 F (k := 0) pm0 dX6_search_35 (v := rf X.2.2 2) rfl ?_
      refine g_aload_n F (a := 0) (j := 0) dX6_search_38 rfl rfl ?_
      refine gt_X6_112 F (k := 0) pm0 dX6_search_39 (v := .int (s2 0 18)) rfl ?_
      refine g_iald F (k := 2) pm2 dX6_search_42 h (fun h => ?_)
      refine g_aload_n F (a := 0) (j := 0) dX6_search_43 rfl rfl ?_
      refine gt_X6_118 F (k := 0) pm0 dX6_search_44 (v := .int (s2 0 20)) rfl ?_
      refine g_icmp_ge F (tgt := 55) dX6_search_47 (by decide) h (fun h => ?_) (fun h => ?_)
      · exact wX6_search_55 F R s2 h
      · exact wX6_search_50 F R s2 h
  · exact wX6_search_55 F R s2 h
theorem mX6_search {l : Launch} {w : Wd} (N : Nat) (hi : inj false w)  {res : Int32 × SS} {s0 : SS} (h : fX6_search N s0 = some res) : MI false l yX6_search cX6_search 1 (some .boolean) { frames := 7, cells := 0, slots := 0, locals := 155 } w [rf w 0] s0 res := by
  refine mk_z (by decide) hi (Nat.le_of_ble_eq_true rfl) (fun X hX hL F R => ?_)
  subst hX; subst hL
  exact wX6_search_e F R  s0 h
set_option maxRecDepth 20000 in
theorem wX6_fewest_21 {X : Cx} (F : Fx false X cX6_fewest RX6 1 8 175) {res : Int32 × SS} (R : RI false X cX6_fewest 1 res) {N : Nat} : ∀ (t0 : Int32) (s0 : SS), fX6_fewest_21 N t0 s0 = some res → G false X 1 21 [] [.int t0] s0 := by
  intro t0 s0 h
  unfold fX6_fewest_21 at h
  exact R _ _ _ _ dX6_fewest_21 h
set_option maxRecDepth 20000 in
theorem wX6_fewest_e {X : Cx} (F : Fx false X cX6_fewest RX6 1 8 175) {res : Int32 × SS} (R : RI false X cX6_fewest 1 res) {N : Nat} : ∀  (s0 : SS), fX6_fewest N s0 = some res → G false X 1 0 [(0, rf X.2.2 0)] [] s0 := by
  intro  s0 h
  unfold fX6_fewest at h
  refine g_aload_n F (a := 0) (j := 0) dX6_fewest_0 rfl rfl ?_
  refine g_iconst F (v := 3) dX6_fewest_1 (by decide) ?_
  refine pt_X6_109 F (k := 0) pm0 (Nat.le_of_ble_eq_true rfl) rfl dX6_fewest_2 h (fun s1 h => ?_)
  refine g_aload_n F (a := 0) (j := 0) dX6_fewest_5 rfl rfl ?_
  refine g_vi F (k := 0) (As := []) (rest := []) (fun _ q => mX6_search N F.inj  q) mw_X6_search ml_X6_158 rfl ⟨Nat.le_of_ble_eq_true rfl, Nat.le_of_ble_eq_true rfl⟩ pm0 cl6 rfl (Nat.le_of_ble_eq_true rfl) dX6_fewest_6 h (fun v2 s2 h => ?_)
  refine g_ifeq F (tgt := 19) dX6_fewest_9 (by decide) h (fun h => ?_) (fun h => ?_)
  · refine g_bipush F (v := (-5)) dX6_fewest_19 (by decide) ?_
    refine g_sub (lv' := []) [] rfl ?_
    exact wX6_fewest_21 F R (-5) s2 h
  · refine g_aload_n F (a := 0) (j := 0) dX6_fewest_12 rfl rfl ?_
    refine gt_X6_135 F (k := 0) pm0 dX6_fewest_13 (v := .int (s2 0 16)) rfl ?_
    refine g_goto F (tgt := 21) dX6_fewest_16 (by decide) ?_
    refine g_sub (lv' := []) [] rfl ?_
    exact wX6_fewest_21 F R (s2 0 16) s2 h
theorem mX6_fewest {l : Launch} {w : Wd} (N : Nat) (hi : inj false w)  {res : Int32 × SS} {s0 : SS} (h : fX6_fewest N s0 = some res) : MI false l yX6_fewest cX6_fewest 1 (some .int) { frames := 8, cells := 0, slots := 0, locals := 175 } w [rf w 0] s0 res := by
  refine mk_i (by decide) hi (Nat.le_of_ble_eq_true rfl) (fun X hX hL F R => ?_)
  subst hX; subst hL
  exact wX6_fewest_e F R  s0 h
set_option maxRecDepth 20000 in
theorem wX5_isGoal_68 {X : Cx} (F : Fx true X cX5_isGoal RX5 5 1 21) {res : Int32 × SS} (R : RZ true X cX5_isGoal 5 res) {N : Nat} : ∀ (t0 : Int32) (s0 : SS), fX5_isGoal_68 N t0 s0 = some res → G true X 5 68 [] [.int t0] s0 := by
  intro t0 s0 h
  unfold fX5_isGoal_68 at h
  exact R _ _ _ _ dX5_isGoal_68 h
set_option maxRecDepth 20000 in
theorem wX5_isGoal_67 {X : Cx} (F : Fx true X cX5_isGoal RX5 5 1 21) {res : Int32 × SS} (R : RZ true X cX5_isGoal 5 res) {N : Nat} : ∀  (s0 : SS), fX5_isGoal_67 N s0 = some res → G true X 5 67 [] [] s0 := by
  intro  s0 h
  unfold fX5_isGoal_67 at h
  refine g_iconst F (v := 0) dX5_isGoal_67 (by decide) ?_
  exact wX5_isGoal_68 F R 0 s0 h
set_option maxRecDepth 20000 in
theorem wX5_isGoal_84 {X : Cx} (F : Fx true X cX5_isGoal RX5 5 1 21) {res : Int32 × SS} (R : RZ true X cX5_isGoal 5 res) {N : Nat} : ∀ (t0 : Int32) (s0 : SS), fX5_isGoal_84 N t0 s0 = some res → G true X 5 84 [] [.int t0] s0 := by
  intro t0 s0 h
  unfold fX5_isGoal_84 at h
  exact R _ _ _ _ dX5_isGoal_84 h
set_option maxRecDepth 20000 in
theorem wX5_isGoal_83 {X : Cx} (F : Fx true X cX5_isGoal RX5 5 1 21) {res : Int32 × SS} (R : RZ true X cX5_isGoal 5 res) {N : Nat} : ∀  (s0 : SS), fX5_isGoal_83 N s0 = some res → G true X 5 83 [] [] s0 := by
  intro  s0 h
  unfold fX5_isGoal_83 at h
  refine g_iconst F (v := 0) dX5_isGoal_83 (by decide) ?_
  exact wX5_isGoal_84 F R 0 s0 h
set_option maxRecDepth 20000 in
theorem wX5_isGoal_e {X : Cx} (F : Fx true X cX5_isGoal RX5 5 1 21) {res : Int32 × SS} (R : RZ true X cX5_isGoal 5 res) {N : Nat} : ∀ (a1 : Int32) (a2 : Int32) (a3 : Int32) (a4 : Int32) (s0 : SS), fX5_isGoal N a1 a2 a3 a4 s0 = some res → G true X 5 0 [(0, rf X.2.2 0), (1, .int a1), (2, .int a2), (3, .int a3), (4, .int a4)] [] s0 := by
  intro a1 a2 a3 a4 s0 h
  unfold fX5_isGoal at h
  refine g_iload_n F (j := 1) dX5_isGoal_0 rfl rfl ?_
  have ex : a1 = a1 := rfl
  by_cases c0 : a1 = 0
  · rw [if_pos c0] at h
    refine g_tabIn F (tgt := 28) (off := 27) dX5_isGoal_1 (by rw [c0]; decide) (by rw [c0]; decide) (by rw [c0]; rfl) (by decide) ?_
    refine g_aload_n F (a := 0) (j := 0) dX5_isGoal_28 rfl rfl ?_
    refine gt_X5_10 F (k := 0) pc0 dX5_isGoal_29 (v := rf X.2.2 1) rfl ?_
    refine g_iload_n F (j := 2) dX5_isGoal_32 rfl rfl ?_
    refine g_vi F (k := 1) (As := [.int a2]) (rest := []) (fun _ q => mX3_hasMachine N F.inj  q) mw_X3_hasMachine ml_X5_86 rfl ⟨Nat.le_of_ble_eq_true rfl, Nat.le_of_ble_eq_true rfl⟩ pc1 cl3 rfl (Nat.le_of_ble_eq_true rfl) dX5_isGoal_33 h (fun v1 s1 h => ?_)
    exact R _ _ _ _ dX5_isGoal_36 h
  rw [if_neg c0] at h
  by_cases c1 : a1 = 1
  · rw [if_pos c1] at h
    refine g_tabIn F (tgt := 37) (off := 36) dX5_isGoal_1 (by rw [c1]; decide) (by rw [c1]; decide) (by rw [c1]; rfl) (by decide) ?_
    refine g_aload_n F (a := 0) (j := 0) dX5_isGoal_37 rfl rfl ?_
    refine gt_X5_10 F (k := 0) pc0 dX5_isGoal_38 (v := rf X.2.2 1) rfl ?_
    refine g_iload_n F (j := 2) dX5_isGoal_41 rfl rfl ?_
    refine g_vi F (k := 1) (As := [.int a2]) (rest := []) (fun _ q => mX3_hasMachine N F.inj  q) mw_X3_hasMachine ml_X5_86 rfl ⟨Nat.le_of_ble_eq_true rfl, Nat.le_of_ble_eq_true rfl⟩ pc1 cl3 rfl (Nat.le_of_ble_eq_true rfl) dX5_isGoal_42 h (fun v2 s2 h => ?_)
    refine g_ifeq F (tgt := 67) dX5_isGoal_45 (by decide) h (fun h => ?_) (fun h => ?_)
    · refine g_sub (lv' := []) [] rfl ?_
      exact wX5_isGoal_67 F R s2 h
    · refine g_iload_n F (j := 3) dX5_isGoal_48 rfl rfl ?_
      refine g_si F (As := [.int a3]) (rest := []) (fun _ q => mX5_isAmount N F.inj  q) mw_X5_isAmount ml_X5_71 rfl ⟨Nat.le_of_ble_eq_true rfl, Nat.le_of_ble_eq_true rfl⟩ rfl (Nat.le_of_ble_eq_true rfl) dX5_isGoal_49 h (fun v3 s3 h => ?_)
      refine g_ifeq F (tgt := 67) dX5_isGoal_52 (by decide) h (fun h => ?_) (fun h => ?_)
      · refine g_sub (lv' := []) [] rfl ?_
        exact wX5_isGoal_67 F R s3 h
      · refine g_iload F (j := 4) dX5_isGoal_55 rfl ?_
        refine g_si F (As := [.int a4]) (rest := []) (fun _ q => mX5_isAmount N F.inj  q) mw_X5_isAmount ml_X5_71 rfl ⟨Nat.le_of_ble_eq_true rfl, Nat.le_of_ble_eq_true rfl⟩ rfl (Nat.le_of_ble_eq_true rfl) dX5_isGoal_57 h (fun v4 s4 h => ?_)
        refine g_ifeq F (tgt := 67) dX5_isGoal_60 (by decide) h (fun h => ?_) (fun h => ?_)
        · refine g_sub (lv' := []) [] rfl ?_
          exact wX5_isGoal_67 F R s4 h
        · refine g_iconst F (v := 1) dX5_isGoal_63 (by decide) ?_
          refine g_goto F (tgt := 68) dX5_isGoal_64 (by decide) ?_
          refine g_sub (lv' := []) [] rfl ?_
          exact wX5_isGoal_68 F R 1 s4 h
  rw [if_neg c1] at h
  by_cases c2 : a1 = 2
  · rw [if_pos c2] at h
    refine g_tabIn F (tgt := 69) (off := 68) dX5_isGoal_1 (by rw [c2]; decide) (by rw [c2]; decide) (by rw [c2]; rfl) (by decide) ?_
    refine g_iload_n F (j := 3) dX5_isGoal_69 rfl rfl ?_
    refine g_iconst F (v := 1) dX5_isGoal_70 (by decide) ?_
    refine g_icmp_lt F (tgt := 83) dX5_isGoal_71 (by decide) h (fun h => ?_) (fun h => ?_)
    · refine g_sub (lv' := []) [] rfl ?_
      exact wX5_isGoal_83 F R s0 h
    · refine g_iload_n F (j := 3) dX5_isGoal_74 rfl rfl ?_
      refine g_iconst F (v := 5) dX5_isGoal_75 (by decide) ?_
      refine g_icmp_gt F (tgt := 83) dX5_isGoal_76 (by decide) h (fun h => ?_) (fun h => ?_)
      · refine g_sub (lv' := []) [] rfl ?_
        exact wX5_isGoal_83 F R s0 h
      · refine g_iconst F (v := 1) dX5_isGoal_79 (by decide) ?_
        refine g_goto F (tgt := 84) dX5_isGoal_80 (by decide) ?_
        refine g_sub (lv' := []) [] rfl ?_
        exact wX5_isGoal_84 F R 1 s0 h
  rw [if_neg c2] at h
  refine g_tabOut F (tgt := 85) dX5_isGoal_1 (tab_out_3 c0 c1 c2) (by decide) ?_
  refine g_iconst F (v := 0) dX5_isGoal_85 (by decide) ?_
  exact R _ _ _ _ dX5_isGoal_86 h
theorem mX5_isGoal {l : Launch} {w : Wd} (N : Nat) (hi : inj true w)  {res : Int32 × SS} {a1 a2 a3 a4 : Int32} {s0 : SS} (h : fX5_isGoal N a1 a2 a3 a4 s0 = some res) : MI true l yX5_isGoal cX5_isGoal 5 (some .boolean) { frames := 1, cells := 0, slots := 0, locals := 21 } w [rf w 0, .int a1, .int a2, .int a3, .int a4] s0 res := by
  refine mk_z (by decide) hi (Nat.le_of_ble_eq_true rfl) (fun X hX hL F R => ?_)
  subst hX; subst hL
  exact wX5_isGoal_e F R a1 a2 a3 a4 s0 h
set_option maxRecDepth 20000 in
theorem wX5_plan_e {X : Cx} (F : Fx true X cX5_plan RX5 5 14 368) {res : Int32 × SS} (R : RI true X cX5_plan 5 res) {N : Nat} : ∀ (a1 : Int32) (a2 : Int32) (a3 : Int32) (a4 : Int32) (s0 : SS), fX5_plan N a1 a2 a3 a4 s0 = some res → G true X 5 0 [(0, rf X.2.2 0), (1, .int a1), (2, .int a2), (3, .int a3), (4, .int a4)] [] s0 := by
  intro a1 a2 a3 a4 s0 h
  unfold fX5_plan at h
  refine g_aload_n F (a := 0) (j := 0) dX5_plan_0 rfl rfl ?_
  refine g_iconst F (v := 0) dX5_plan_1 (by decide) ?_
  refine pt_X5_54 F (k := 0) pc0 (Nat.le_of_ble_eq_true rfl) rfl dX5_plan_2 (by decide) h (fun s1 h => ?_)
  refine g_aload_n F (a := 0) (j := 0) dX5_plan_5 rfl rfl ?_
  refine g_iload_n F (j := 1) dX5_plan_6 rfl rfl ?_
  refine g_iload_n F (j := 2) dX5_plan_7 rfl rfl ?_
  refine g_iload_n F (j := 3) dX5_plan_8 rfl rfl ?_
  refine g_iload F (j := 4) dX5_plan_9 rfl ?_
  refine g_vi F (k := 0) (As := [.int a1, .int a2, .int a3, .int a4]) (rest := []) (fun _ q => mX5_isGoal N F.inj  q) mw_X5_isGoal ml_X5_160 rfl ⟨Nat.le_of_ble_eq_true rfl, Nat.le_of_ble_eq_true rfl⟩ pc0 cl5 rfl (Nat.le_of_ble_eq_true rfl) dX5_plan_11 h (fun v2 s2 h => ?_)
  refine g_ifne F (tgt := 20) dX5_plan_14 (by decide) h (fun h => ?_) (fun h => ?_)
  · refine g_bipush F (v := (-2)) dX5_plan_17 (by decide) ?_
    exact R _ _ _ _ dX5_plan_19 h
  · refine g_aload_n F (a := 0) (j := 0) dX5_plan_20 rfl rfl ?_
    refine gt_X5_30 F (k := 0) pc0 dX5_plan_21 (v := rf X.2.2 19) rfl ?_
    refine g_iload_n F (j := 1) dX5_plan_24 rfl rfl ?_
    refine g_iload_n F (j := 2) dX5_plan_25 rfl rfl ?_
    refine g_iload_n F (j := 3) dX5_plan_26 rfl rfl ?_
    refine g_iload F (j := 4) dX5_plan_27 rfl ?_
    refine g_vv F (k := 19) (As := [.int a1, .int a2, .int a3, .int a4]) (rest := []) (fun _ q => mX2_aim N F.inj  q) mw_X2_aim ml_X5_143 rfl ⟨Nat.le_of_ble_eq_true rfl, Nat.le_of_ble_eq_true rfl⟩ pc19 cl2 rfl (Nat.le_of_ble_eq_true rfl) dX5_plan_29 h (fun s3 h => ?_)
    refine g_aload_n F (a := 0) (j := 0) dX5_plan_32 rfl rfl ?_
    refine gt_X5_30 F (k := 0) pc0 dX5_plan_33 (v := rf X.2.2 19) rfl ?_
    refine g_aload_n F (a := 0) (j := 0) dX5_plan_36 rfl rfl ?_
    refine gt_X5_62 F (k := 0) pc0 dX5_plan_37 (v := .int (s3 0 8)) rfl ?_
    refine g_vv F (k := 19) (As := [.int (s3 0 8)]) (rest := []) (fun _ q => mX2_run N F.inj  q) mw_X2_run ml_X5_147 rfl ⟨Nat.le_of_ble_eq_true rfl, Nat.le_of_ble_eq_true rfl⟩ pc19 cl2 rfl (Nat.le_of_ble_eq_true rfl) dX5_plan_40 h (fun s4 h => ?_)
    refine g_aload_n F (a := 0) (j := 0) dX5_plan_43 rfl rfl ?_
    refine g_aload_n F (a := 0) (j := 0) dX5_plan_44 rfl rfl ?_
    refine gt_X5_30 F (k := 0) pc0 dX5_plan_45 (v := rf X.2.2 19) rfl ?_
    refine gt_X5_151 F (k := 19) pc19 dX5_plan_48 (v := .int (s4 19 4)) rfl ?_
    refine pt_X5_65 F (k := 0) pc0 (Nat.le_of_ble_eq_true rfl) rfl dX5_plan_51 h (fun s5 h => ?_)
    refine g_aload_n F (a := 0) (j := 0) dX5_plan_54 rfl rfl ?_
    refine gt_X5_30 F (k := 0) pc0 dX5_plan_55 (v := rf X.2.2 19) rfl ?_
    refine gt_X5_154 F (k := 19) pc19 dX5_plan_58 (v := .int (s5 19 5)) rfl ?_
    refine g_ifeq F (tgt := 67) dX5_plan_61 (by decide) h (fun h => ?_) (fun h => ?_)
    · refine g_aload_n F (a := 0) (j := 0) dX5_plan_67 rfl rfl ?_
      refine gt_X5_30 F (k := 0) pc0 dX5_plan_68 (v := rf X.2.2 19) rfl ?_
      refine gt_X5_164 F (k := 19) pc19 dX5_plan_71 (v := .int (s5 19 6)) rfl ?_
      refine g_iconst F (v := (-1)) dX5_plan_74 (by decide) ?_
      refine g_icmp_ne F (tgt := 80) dX5_plan_75 (by decide) h (fun h => ?_) (fun h => ?_)
      · refine g_iconst F (v := (-1)) dX5_plan_78 (by decide) ?_
        exact R _ _ _ _ dX5_plan_79 h
      · refine g_aload_n F (a := 0) (j := 0) dX5_plan_80 rfl rfl ?_
        refine gt_X5_30 F (k := 0) pc0 dX5_plan_81 (v := rf X.2.2 19) rfl ?_
        refine gt_X5_167 F (k := 19) pc19 dX5_plan_84 (v := rf X.2.2 20) rfl ?_
        refine g_iconst F (v := 0) dX5_plan_87 (by decide) ?_
        refine g_aload_n F (a := 0) (j := 0) dX5_plan_88 rfl rfl ?_
        refine gt_X5_50 F (k := 0) pc0 dX5_plan_89 (v := rf X.2.2 40) rfl ?_
        refine g_iconst F (v := 0) dX5_plan_92 (by decide) ?_
        refine g_bipush F (v := 8) dX5_plan_93 (by decide) ?_
        refine g_acp F (k0 := 20) (k1 := 40) pc20 pc40 (nn := 8) (by decide) (by decide) (by decide) (by decide) (by decide +kernel) acp_X5 dX5_plan_95 h (fun s6 h => ?_)
        refine g_aload_n F (a := 0) (j := 0) dX5_plan_98 rfl rfl ?_
        refine g_iconst F (v := 1) dX5_plan_99 (by decide) ?_
        refine pt_X5_54 F (k := 0) pc0 (Nat.le_of_ble_eq_true rfl) rfl dX5_plan_100 (by decide) h (fun s7 h => ?_)
        refine g_aload_n F (a := 0) (j := 0) dX5_plan_103 rfl rfl ?_
        refine gt_X5_30 F (k := 0) pc0 dX5_plan_104 (v := rf X.2.2 19) rfl ?_
        refine gt_X5_164 F (k := 19) pc19 dX5_plan_107 (v := .int (s7 19 6)) rfl ?_
        exact R _ _ _ _ dX5_plan_110 h
    · refine g_bipush F (v := (-5)) dX5_plan_64 (by decide) ?_
      exact R _ _ _ _ dX5_plan_66 h
theorem mX5_plan {l : Launch} {w : Wd} (N : Nat) (hi : inj true w)  {res : Int32 × SS} {a1 a2 a3 a4 : Int32} {s0 : SS} (h : fX5_plan N a1 a2 a3 a4 s0 = some res) : MI true l yX5_plan cX5_plan 5 (some .int) { frames := 14, cells := 0, slots := 0, locals := 368 } w [rf w 0, .int a1, .int a2, .int a3, .int a4] s0 res := by
  refine mk_i (by decide) hi (Nat.le_of_ble_eq_true rfl) (fun X hX hL F R => ?_)
  subst hX; subst hL
  exact wX5_plan_e F R a1 a2 a3 a4 s0 h
set_option maxRecDepth 20000 in
theorem wX6_plan_179 {X : Cx} (F : Fx false X cX6_plan RX6 7 8 175) {res : Int32 × SS} (R : RI false X cX6_plan 7 res) {N : Nat} {k143 : Int32 → SS → Option (Int32 × SS)} (hk143 : ∀ (x6 : Int32) (σ : SS), k143 x6 σ = some res → G false X 7 143 [(0, rf X.2.2 0), (6, .int x6)] [] σ) : ∀ (x6 : Int32) (t0 : Int32) (t1 : Int32) (s0 : SS), fX6_plan_179 N k143 x6 t0 t1 s0 = some res → G false X 7 179 [(0, rf X.2.2 0), (6, .int x6)] [.int t0, .int t1, rf X.2.2 11] s0 := by
  intro x6 t0 t1 s0 h
  unfold fX6_plan_179 at h
  refine g_iast F (k := 11) pm11 dX6_plan_179 h (fun s1 h => ?_)
  refine g_iinc F (j := 1) (v := x6 + 1) dX6_plan_180 rfl rfl (by decide) (lv' := [(0, rf X.2.2 0), (6, .int (x6 + 1))]) [1, 0] rfl ?_
  refine g_goto F (tgt := 143) dX6_plan_183 (by decide) ?_
  exact hk143 (x6 + 1) s1 h
set_option maxRecDepth 20000 in
theorem wX6_plan_143 {X : Cx} (F : Fx false X cX6_plan RX6 7 8 175) {res : Int32 × SS} (R : RI false X cX6_plan 7 res) {N : Nat} {k143 : Int32 → SS → Option (Int32 × SS)} (hk143 : ∀ (x6 : Int32) (σ : SS), k143 x6 σ = some res → G false X 7 143 [(0, rf X.2.2 0), (6, .int x6)] [] σ) : ∀ (x6 : Int32) (s0 : SS), fX6_plan_143 N k143 x6 s0 = some res → G false X 7 143 [(0, rf X.2.2 0), (6, .int x6)] [] s0 := by
  intro x6 s0 h
  unfold fX6_plan_143 at h
  refine g_iload F (j := 1) dX6_plan_143 rfl ?_
  refine g_aload_n F (a := 0) (j := 0) dX6_plan_145 rfl rfl ?_
  refine gt_X6_67 F (k := 0) pm0 dX6_plan_146 (v := .int (s0 0 3)) rfl ?_
  refine g_icmp_ge F (tgt := 186) dX6_plan_149 (by decide) h (fun h => ?_) (fun h => ?_)
  · refine g_aload_n F (a := 0) (j := 0) dX6_plan_186 rfl rfl ?_
    refine gt_X6_135 F (k := 0) pm0 dX6_plan_187 (v := .int (s0 0 16)) rfl ?_
    exact R _ _ _ _ dX6_plan_190 h
  · refine g_aload_n F (a := 0) (j := 0) dX6_plan_152 rfl rfl ?_
    refine gt_X6_45 F (k := 0) pm0 dX6_plan_153 (v := rf X.2.2 11) rfl ?_
    refine g_iload F (j := 1) dX6_plan_156 rfl ?_
    refine g_aload_n F (a := 0) (j := 0) dX6_plan_158 rfl rfl ?_
    refine gt_X6_31 F (k := 0) pm0 dX6_plan_159 (v := rf X.2.2 8) rfl ?_
    refine g_iload F (j := 1) dX6_plan_162 rfl ?_
    refine g_zald F (k := 8) pm8 dX6_plan_164 h (fun h => ?_)
    refine g_ifeq F (tgt := 172) dX6_plan_165 (by decide) h (fun h => ?_) (fun h => ?_)
    · refine g_aload_n F (a := 0) (j := 0) dX6_plan_172 rfl rfl ?_
      refine gt_X6_42 F (k := 0) pm0 dX6_plan_173 (v := rf X.2.2 10) rfl ?_
      refine g_iload F (j := 1) dX6_plan_176 rfl ?_
      refine g_iald F (k := 10) pm10 dX6_plan_178 h (fun h => ?_)
      exact wX6_plan_179 F R hk143 x6 (s0 10 (Int32.toNatClampNeg x6)) x6 s0 h
    · refine g_iconst F (v := (-1)) dX6_plan_168 (by decide) ?_
      refine g_goto F (tgt := 179) dX6_plan_169 (by decide) ?_
      exact wX6_plan_179 F R hk143 x6 (-1) x6 s0 h
theorem wX6_plan_143_lp {X : Cx} (F : Fx false X cX6_plan RX6 7 8 175) {res : Int32 × SS} (R : RI false X cX6_plan 7 res) {N : Nat} : ∀ (n : Nat) (x6 : Int32) (s0 : SS), lp (fX6_plan_143 N) (fun _ _ => none) n x6 s0 = some res → G false X 7 143 [(0, rf X.2.2 0), (6, .int x6)] [] s0 := by
  intro n
  induction n with
  | zero => intro x6 s0 h; cases (show (none : Option (Int32 × SS)) = some res from h)
  | succ n ih => intro x6 s0 h; exact wX6_plan_143 F R ih x6 s0 h
set_option maxRecDepth 20000 in
theorem wX6_plan_84 {X : Cx} (F : Fx false X cX6_plan RX6 7 8 175) {res : Int32 × SS} (R : RI false X cX6_plan 7 res) {N : Nat} : ∀ (x1 : Int32) (x2 : Int32) (x3 : Int32) (x4 : Int32) (t0 : Int32) (s0 : SS), fX6_plan_84 N x1 x2 x3 x4 t0 s0 = some res → G false X 7 84 [(0, rf X.2.2 0), (1, .int x1), (2, .int x2), (3, .int x3), (4, .int x4)] [.int t0] s0 := by
  intro x1 x2 x3 x4 t0 s0 h
  unfold fX6_plan_84 at h
  refine g_istore F dX6_plan_84 (by decide) (lv' := [(0, rf X.2.2 0), (1, .int x1), (2, .int x2), (3, .int x3), (4, .int x4), (5, .int t0)]) [1, 2, 3, 4, 5, 0] rfl ?_
  refine g_iload F (j := 5) dX6_plan_86 rfl ?_
  refine g_ifne F (tgt := 94) dX6_plan_88 (by decide) h (fun h => ?_) (fun h => ?_)
  · refine g_bipush F (v := (-2)) dX6_plan_91 (by decide) ?_
    exact R _ _ _ _ dX6_plan_93 h
  · refine g_aload_n F (a := 0) (j := 0) dX6_plan_94 rfl rfl ?_
    refine g_iload_n F (j := 1) dX6_plan_95 rfl rfl ?_
    refine pt_X6_109 F (k := 0) pm0 (Nat.le_of_ble_eq_true rfl) rfl dX6_plan_96 h (fun s1 h => ?_)
    refine g_aload_n F (a := 0) (j := 0) dX6_plan_99 rfl rfl ?_
    refine g_iload_n F (j := 2) dX6_plan_100 rfl rfl ?_
    refine pt_X6_112 F (k := 0) pm0 (Nat.le_of_ble_eq_true rfl) rfl dX6_plan_101 h (fun s2 h => ?_)
    refine g_aload_n F (a := 0) (j := 0) dX6_plan_104 rfl rfl ?_
    refine g_iload_n F (j := 3) dX6_plan_105 rfl rfl ?_
    refine pt_X6_115 F (k := 0) pm0 (Nat.le_of_ble_eq_true rfl) rfl dX6_plan_106 h (fun s3 h => ?_)
    refine g_aload_n F (a := 0) (j := 0) dX6_plan_109 rfl rfl ?_
    refine g_iload F (j := 4) dX6_plan_110 rfl ?_
    refine pt_X6_118 F (k := 0) pm0 (Nat.le_of_ble_eq_true rfl) rfl dX6_plan_112 h (fun s4 h => ?_)
    refine g_aload_n F (a := 0) (j := 0) dX6_plan_115 rfl rfl ?_
    refine g_vi F (k := 0) (As := []) (rest := []) (fun _ q => mX6_search N F.inj  q) mw_X6_search ml_X6_158 rfl ⟨Nat.le_of_ble_eq_true rfl, Nat.le_of_ble_eq_true rfl⟩ pm0 cl6 rfl (Nat.le_of_ble_eq_true rfl) dX6_plan_116 h (fun v5 s5 h => ?_)
    refine g_ifne F (tgt := 125) dX6_plan_119 (by decide) h (fun h => ?_) (fun h => ?_)
    · refine g_bipush F (v := (-5)) dX6_plan_122 (by decide) ?_
      exact R _ _ _ _ dX6_plan_124 h
    · refine g_aload_n F (a := 0) (j := 0) dX6_plan_125 rfl rfl ?_
      refine gt_X6_135 F (k := 0) pm0 dX6_plan_126 (v := .int (s5 0 16)) rfl ?_
      refine g_iconst F (v := (-1)) dX6_plan_129 (by decide) ?_
      refine g_icmp_ne F (tgt := 135) dX6_plan_130 (by decide) h (fun h => ?_) (fun h => ?_)
      · refine g_iconst F (v := (-1)) dX6_plan_133 (by decide) ?_
        exact R _ _ _ _ dX6_plan_134 h
      · refine g_aload_n F (a := 0) (j := 0) dX6_plan_135 rfl rfl ?_
        refine g_iconst F (v := 1) dX6_plan_136 (by decide) ?_
        refine pt_X6_88 F (k := 0) pm0 (Nat.le_of_ble_eq_true rfl) rfl dX6_plan_137 (by decide) h (fun s6 h => ?_)
        refine g_iconst F (v := 0) dX6_plan_140 (by decide) ?_
        refine g_istore F dX6_plan_141 (by decide) (lv' := [(0, rf X.2.2 0), (6, .int 0)]) [1, 0] rfl ?_
        exact wX6_plan_143_lp F R N 0 s6 h
set_option maxRecDepth 20000 in
theorem wX6_plan_79 {X : Cx} (F : Fx false X cX6_plan RX6 7 8 175) {res : Int32 × SS} (R : RI false X cX6_plan 7 res) {N : Nat} : ∀ (x1 : Int32) (x2 : Int32) (x3 : Int32) (x4 : Int32) (s0 : SS), fX6_plan_79 N x1 x2 x3 x4 s0 = some res → G false X 7 79 [(0, rf X.2.2 0), (1, .int x1), (2, .int x2), (3, .int x3), (4, .int x4)] [] s0 := by
  intro x1 x2 x3 x4 s0 h
  unfold fX6_plan_79 at h
  refine g_iconst F (v := 1) dX6_plan_79 (by decide) ?_
  refine g_goto F (tgt := 84) dX6_plan_80 (by decide) ?_
  exact wX6_plan_84 F R x1 x2 x3 x4 1 s0 h
set_option maxRecDepth 20000 in
theorem wX6_plan_83 {X : Cx} (F : Fx false X cX6_plan RX6 7 8 175) {res : Int32 × SS} (R : RI false X cX6_plan 7 res) {N : Nat} : ∀ (x1 : Int32) (x2 : Int32) (x3 : Int32) (x4 : Int32) (s0 : SS), fX6_plan_83 N x1 x2 x3 x4 s0 = some res → G false X 7 83 [(0, rf X.2.2 0), (1, .int x1), (2, .int x2), (3, .int x3), (4, .int x4)] [] s0 := by
  intro x1 x2 x3 x4 s0 h
  unfold fX6_plan_83 at h
  refine g_iconst F (v := 0) dX6_plan_83 (by decide) ?_
  exact wX6_plan_84 F R x1 x2 x3 x4 0 s0 h
set_option maxRecDepth 20000 in
theorem wX6_plan_44 {X : Cx} (F : Fx false X cX6_plan RX6 7 8 175) {res : Int32 × SS} (R : RI false X cX6_plan 7 res) {N : Nat} : ∀ (x1 : Int32) (x2 : Int32) (x3 : Int32) (x4 : Int32) (t0 : Int32) (s0 : SS), fX6_plan_44 N x1 x2 x3 x4 t0 s0 = some res → G false X 7 44 [(0, rf X.2.2 0), (1, .int x1), (2, .int x2), (3, .int x3), (4, .int x4)] [.int t0] s0 := by
  intro x1 x2 x3 x4 t0 s0 h
  unfold fX6_plan_44 at h
  refine g_istore F dX6_plan_44 (by decide) (lv' := [(0, rf X.2.2 0), (1, .int x1), (2, .int x2), (3, .int x3), (4, .int x4), (5, .int t0)]) [1, 2, 3, 4, 5, 0] rfl ?_
  refine g_iload F (j := 5) dX6_plan_46 rfl ?_
  refine g_ifeq F (tgt := 83) dX6_plan_48 (by decide) h (fun h => ?_) (fun h => ?_)
  · refine g_sub (lv' := [(0, rf X.2.2 0), (1, .int x1), (2, .int x2), (3, .int x3), (4, .int x4)]) [0, 1, 2, 3, 4] rfl ?_
    exact wX6_plan_83 F R x1 x2 x3 x4 s0 h
  · refine g_iload_n F (j := 1) dX6_plan_51 rfl rfl ?_
    refine g_iconst F (v := 1) dX6_plan_52 (by decide) ?_
    refine g_icmp_ne F (tgt := 79) dX6_plan_53 (by decide) h (fun h => ?_) (fun h => ?_)
    · refine g_iload_n F (j := 3) dX6_plan_56 rfl rfl ?_
      refine g_iconst F (v := 0) dX6_plan_57 (by decide) ?_
      refine g_sipush F (v := 1000) dX6_plan_58 (by decide) ?_
      refine g_si F (As := [.int x3, .int 0, .int 1000]) (rest := []) (fun _ q => mX6_in N F.inj  q) mw_X6_in ml_X6_60 rfl ⟨Nat.le_of_ble_eq_true rfl, Nat.le_of_ble_eq_true rfl⟩ rfl (Nat.le_of_ble_eq_true rfl) dX6_plan_61 h (fun v1 s1 h => ?_)
      refine g_ifeq F (tgt := 83) dX6_plan_64 (by decide) h (fun h => ?_) (fun h => ?_)
      · refine g_sub (lv' := [(0, rf X.2.2 0), (1, .int x1), (2, .int x2), (3, .int x3), (4, .int x4)]) [0, 1, 2, 3, 4] rfl ?_
        exact wX6_plan_83 F R x1 x2 x3 x4 s1 h
      · refine g_iload F (j := 4) dX6_plan_67 rfl ?_
        refine g_iconst F (v := 0) dX6_plan_69 (by decide) ?_
        refine g_sipush F (v := 1000) dX6_plan_70 (by decide) ?_
        refine g_si F (As := [.int x4, .int 0, .int 1000]) (rest := []) (fun _ q => mX6_in N F.inj  q) mw_X6_in ml_X6_60 rfl ⟨Nat.le_of_ble_eq_true rfl, Nat.le_of_ble_eq_true rfl⟩ rfl (Nat.le_of_ble_eq_true rfl) dX6_plan_73 h (fun v2 s2 h => ?_)
        refine g_ifeq F (tgt := 83) dX6_plan_76 (by decide) h (fun h => ?_) (fun h => ?_)
        · refine g_sub (lv' := [(0, rf X.2.2 0), (1, .int x1), (2, .int x2), (3, .int x3), (4, .int x4)]) [0, 1, 2, 3, 4] rfl ?_
          exact wX6_plan_83 F R x1 x2 x3 x4 s2 h
        · refine g_sub (lv' := [(0, rf X.2.2 0), (1, .int x1), (2, .int x2), (3, .int x3), (4, .int x4)]) [0, 1, 2, 3, 4] rfl ?_
          exact wX6_plan_79 F R x1 x2 x3 x4 s2 h
    · refine g_sub (lv' := [(0, rf X.2.2 0), (1, .int x1), (2, .int x2), (3, .int x3), (4, .int x4)]) [0, 1, 2, 3, 4] rfl ?_
      exact wX6_plan_79 F R x1 x2 x3 x4 s0 h
set_option maxRecDepth 20000 in
theorem wX6_plan_39 {X : Cx} (F : Fx false X cX6_plan RX6 7 8 175) {res : Int32 × SS} (R : RI false X cX6_plan 7 res) {N : Nat} : ∀ (x1 : Int32) (x2 : Int32) (x3 : Int32) (x4 : Int32) (s0 : SS), fX6_plan_39 N x1 x2 x3 x4 s0 = some res → G false X 7 39 [(0, rf X.2.2 0), (1, .int x1), (2, .int x2), (3, .int x3), (4, .int x4)] [] s0 := by
  intro x1 x2 x3 x4 s0 h
  unfold fX6_plan_39 at h
  refine g_iconst F (v := 1) dX6_plan_39 (by decide) ?_
  refine g_goto F (tgt := 44) dX6_plan_40 (by decide) ?_
  exact wX6_plan_44 F R x1 x2 x3 x4 1 s0 h
set_option maxRecDepth 20000 in
theorem wX6_plan_43 {X : Cx} (F : Fx false X cX6_plan RX6 7 8 175) {res : Int32 × SS} (R : RI false X cX6_plan 7 res) {N : Nat} : ∀ (x1 : Int32) (x2 : Int32) (x3 : Int32) (x4 : Int32) (s0 : SS), fX6_plan_43 N x1 x2 x3 x4 s0 = some res → G false X 7 43 [(0, rf X.2.2 0), (1, .int x1), (2, .int x2), (3, .int x3), (4, .int x4)] [] s0 := by
  intro x1 x2 x3 x4 s0 h
  unfold fX6_plan_43 at h
  refine g_iconst F (v := 0) dX6_plan_43 (by decide) ?_
  exact wX6_plan_44 F R x1 x2 x3 x4 0 s0 h
set_option maxRecDepth 20000 in
theorem wX6_plan_e {X : Cx} (F : Fx false X cX6_plan RX6 7 8 175) {res : Int32 × SS} (R : RI false X cX6_plan 7 res) {N : Nat} : ∀ (a1 : Int32) (a2 : Int32) (a3 : Int32) (a4 : Int32) (s0 : SS), fX6_plan N a1 a2 a3 a4 s0 = some res → G false X 7 0 [(0, rf X.2.2 0), (1, .int a1), (2, .int a2), (3, .int a3), (4, .int a4)] [] s0 := by
  intro a1 a2 a3 a4 s0 h
  unfold fX6_plan at h
  refine g_aload_n F (a := 0) (j := 0) dX6_plan_0 rfl rfl ?_
  refine g_iconst F (v := 0) dX6_plan_1 (by decide) ?_
  refine pt_X6_88 F (k := 0) pm0 (Nat.le_of_ble_eq_true rfl) rfl dX6_plan_2 (by decide) h (fun s1 h => ?_)
  refine g_iload_n F (j := 1) dX6_plan_5 rfl rfl ?_
  refine g_iconst F (v := 0) dX6_plan_6 (by decide) ?_
  refine g_iconst F (v := 2) dX6_plan_7 (by decide) ?_
  refine g_si F (As := [.int a1, .int 0, .int 2]) (rest := []) (fun _ q => mX6_in N F.inj  q) mw_X6_in ml_X6_60 rfl ⟨Nat.le_of_ble_eq_true rfl, Nat.le_of_ble_eq_true rfl⟩ rfl (Nat.le_of_ble_eq_true rfl) dX6_plan_8 h (fun v2 s2 h => ?_)
  refine g_ifeq F (tgt := 43) dX6_plan_11 (by decide) h (fun h => ?_) (fun h => ?_)
  · exact wX6_plan_43 F R a1 a2 a3 a4 s2 h
  · refine g_iload_n F (j := 1) dX6_plan_14 rfl rfl ?_
    refine g_iconst F (v := 2) dX6_plan_15 (by decide) ?_
    refine g_icmp_ne F (tgt := 31) dX6_plan_16 (by decide) h (fun h => ?_) (fun h => ?_)
    · refine g_iload_n F (j := 3) dX6_plan_19 rfl rfl ?_
      refine g_iconst F (v := 1) dX6_plan_20 (by decide) ?_
      refine g_iconst F (v := 5) dX6_plan_21 (by decide) ?_
      refine g_si F (As := [.int a3, .int 1, .int 5]) (rest := []) (fun _ q => mX6_in N F.inj  q) mw_X6_in ml_X6_60 rfl ⟨Nat.le_of_ble_eq_true rfl, Nat.le_of_ble_eq_true rfl⟩ rfl (Nat.le_of_ble_eq_true rfl) dX6_plan_22 h (fun v3 s3 h => ?_)
      refine g_ifeq F (tgt := 43) dX6_plan_25 (by decide) h (fun h => ?_) (fun h => ?_)
      · exact wX6_plan_43 F R a1 a2 a3 a4 s3 h
      · refine g_goto F (tgt := 39) dX6_plan_28 (by decide) ?_
        exact wX6_plan_39 F R a1 a2 a3 a4 s3 h
    · refine g_aload_n F (a := 0) (j := 0) dX6_plan_31 rfl rfl ?_
      refine g_iload_n F (j := 2) dX6_plan_32 rfl rfl ?_
      refine g_vi F (k := 0) (As := [.int a2]) (rest := []) (fun _ q => mX6_isMachine N F.inj  q) mw_X6_isMachine ml_X6_73 rfl ⟨Nat.le_of_ble_eq_true rfl, Nat.le_of_ble_eq_true rfl⟩ pm0 cl6 rfl (Nat.le_of_ble_eq_true rfl) dX6_plan_33 h (fun v4 s4 h => ?_)
      refine g_ifeq F (tgt := 43) dX6_plan_36 (by decide) h (fun h => ?_) (fun h => ?_)
      · exact wX6_plan_43 F R a1 a2 a3 a4 s4 h
      · exact wX6_plan_39 F R a1 a2 a3 a4 s4 h
theorem mX6_plan {l : Launch} {w : Wd} (N : Nat) (hi : inj false w)  {res : Int32 × SS} {a1 a2 a3 a4 : Int32} {s0 : SS} (h : fX6_plan N a1 a2 a3 a4 s0 = some res) : MI false l yX6_plan cX6_plan 7 (some .int) { frames := 8, cells := 0, slots := 0, locals := 175 } w [rf w 0, .int a1, .int a2, .int a3, .int a4] s0 res := by
  refine mk_i (by decide) hi (Nat.le_of_ble_eq_true rfl) (fun X hX hL F R => ?_)
  subst hX; subst hL
  exact wX6_plan_e F R a1 a2 a3 a4 s0 h
set_option maxRecDepth 20000 in
theorem wX5_planAt_32 {X : Cx} (F : Fx true X cX5_planAt RX5 2 1 21) {res : Int32 × SS} (R : RI true X cX5_planAt 2 res) {N : Nat} : ∀ (t0 : Int32) (s0 : SS), fX5_planAt_32 N t0 s0 = some res → G true X 2 32 [] [.int t0] s0 := by
  intro t0 s0 h
  unfold fX5_planAt_32 at h
  exact R _ _ _ _ dX5_planAt_32 h
set_option maxRecDepth 20000 in
theorem wX5_planAt_e {X : Cx} (F : Fx true X cX5_planAt RX5 2 1 21) {res : Int32 × SS} (R : RI true X cX5_planAt 2 res) {N : Nat} : ∀ (a1 : Int32) (s0 : SS), fX5_planAt N a1 s0 = some res → G true X 2 0 [(0, rf X.2.2 0), (1, .int a1)] [] s0 := by
  intro a1 s0 h
  unfold fX5_planAt at h
  refine g_aload_n F (a := 0) (j := 0) dX5_planAt_0 rfl rfl ?_
  refine gt_X5_10 F (k := 0) pc0 dX5_planAt_1 (v := rf X.2.2 1) rfl ?_
  refine g_iload_n F (j := 1) dX5_planAt_4 rfl rfl ?_
  refine g_vi F (k := 1) (As := [.int a1]) (rest := []) (fun _ q => mX3_hasWork N F.inj  q) mw_X3_hasWork ml_X5_106 rfl ⟨Nat.le_of_ble_eq_true rfl, Nat.le_of_ble_eq_true rfl⟩ pc1 cl3 rfl (Nat.le_of_ble_eq_true rfl) dX5_planAt_5 h (fun v1 s1 h => ?_)
  refine g_ifne F (tgt := 14) dX5_planAt_8 (by decide) h (fun h => ?_) (fun h => ?_)
  · refine g_bipush F (v := (-2)) dX5_planAt_11 (by decide) ?_
    exact R _ _ _ _ dX5_planAt_13 h
  · refine g_aload_n F (a := 0) (j := 0) dX5_planAt_14 rfl rfl ?_
    refine gt_X5_54 F (k := 0) pc0 dX5_planAt_15 (v := .int (s1 0 6)) rfl ?_
    refine g_ifeq F (tgt := 30) dX5_planAt_18 (by decide) h (fun h => ?_) (fun h => ?_)
    · refine g_bipush F (v := (-3)) dX5_planAt_30 (by decide) ?_
      refine g_sub (lv' := []) [] rfl ?_
      exact wX5_planAt_32 F R (-3) s1 h
    · refine g_aload_n F (a := 0) (j := 0) dX5_planAt_21 rfl rfl ?_
      refine gt_X5_50 F (k := 0) pc0 dX5_planAt_22 (v := rf X.2.2 40) rfl ?_
      refine g_iload_n F (j := 1) dX5_planAt_25 rfl rfl ?_
      refine g_iald F (k := 40) pc40 dX5_planAt_26 h (fun h => ?_)
      refine g_goto F (tgt := 32) dX5_planAt_27 (by decide) ?_
      refine g_sub (lv' := []) [] rfl ?_
      exact wX5_planAt_32 F R (s1 40 (Int32.toNatClampNeg a1)) s1 h
theorem mX5_planAt {l : Launch} {w : Wd} (N : Nat) (hi : inj true w)  {res : Int32 × SS} {a1 : Int32} {s0 : SS} (h : fX5_planAt N a1 s0 = some res) : MI true l yX5_planAt cX5_planAt 2 (some .int) { frames := 1, cells := 0, slots := 0, locals := 21 } w [rf w 0, .int a1] s0 res := by
  refine mk_i (by decide) hi (Nat.le_of_ble_eq_true rfl) (fun X hX hL F R => ?_)
  subst hX; subst hL
  exact wX5_planAt_e F R a1 s0 h
set_option maxRecDepth 20000 in
theorem wX6_planAt_35 {X : Cx} (F : Fx false X cX6_planAt RX6 2 1 22) {res : Int32 × SS} (R : RI false X cX6_planAt 2 res) {N : Nat} : ∀ (t0 : Int32) (s0 : SS), fX6_planAt_35 N t0 s0 = some res → G false X 2 35 [] [.int t0] s0 := by
  intro t0 s0 h
  unfold fX6_planAt_35 at h
  exact R _ _ _ _ dX6_planAt_35 h
set_option maxRecDepth 20000 in
theorem wX6_planAt_e {X : Cx} (F : Fx false X cX6_planAt RX6 2 1 22) {res : Int32 × SS} (R : RI false X cX6_planAt 2 res) {N : Nat} : ∀ (a1 : Int32) (s0 : SS), fX6_planAt N a1 s0 = some res → G false X 2 0 [(0, rf X.2.2 0), (1, .int a1)] [] s0 := by
  intro a1 s0 h
  unfold fX6_planAt at h
  refine g_iload_n F (j := 1) dX6_planAt_0 rfl rfl ?_
  refine g_iconst F (v := 0) dX6_planAt_1 (by decide) ?_
  refine g_aload_n F (a := 0) (j := 0) dX6_planAt_2 rfl rfl ?_
  refine gt_X6_67 F (k := 0) pm0 dX6_planAt_3 (v := .int (s0 0 3)) rfl ?_
  refine g_iconst F (v := 1) dX6_planAt_6 (by decide) ?_
  refine g_isub F dX6_planAt_7 ?_
  refine g_si F (As := [.int a1, .int 0, .int ((s0 0 3) - 1)]) (rest := []) (fun _ q => mX6_in N F.inj  q) mw_X6_in ml_X6_60 rfl ⟨Nat.le_of_ble_eq_true rfl, Nat.le_of_ble_eq_true rfl⟩ rfl (Nat.le_of_ble_eq_true rfl) dX6_planAt_8 h (fun v1 s1 h => ?_)
  refine g_ifne F (tgt := 17) dX6_planAt_11 (by decide) h (fun h => ?_) (fun h => ?_)
  · refine g_bipush F (v := (-2)) dX6_planAt_14 (by decide) ?_
    exact R _ _ _ _ dX6_planAt_16 h
  · refine g_aload_n F (a := 0) (j := 0) dX6_planAt_17 rfl rfl ?_
    refine gt_X6_88 F (k := 0) pm0 dX6_planAt_18 (v := .int (s1 0 21)) rfl ?_
    refine g_ifeq F (tgt := 33) dX6_planAt_21 (by decide) h (fun h => ?_) (fun h => ?_)
    · refine g_bipush F (v := (-3)) dX6_planAt_33 (by decide) ?_
      refine g_sub (lv' := []) [] rfl ?_
      exact wX6_planAt_35 F R (-3) s1 h
    · refine g_aload_n F (a := 0) (j := 0) dX6_planAt_24 rfl rfl ?_
      refine gt_X6_45 F (k := 0) pm0 dX6_planAt_25 (v := rf X.2.2 11) rfl ?_
      refine g_iload_n F (j := 1) dX6_planAt_28 rfl rfl ?_
      refine g_iald F (k := 11) pm11 dX6_planAt_29 h (fun h => ?_)
      refine g_goto F (tgt := 35) dX6_planAt_30 (by decide) ?_
      refine g_sub (lv' := []) [] rfl ?_
      exact wX6_planAt_35 F R (s1 11 (Int32.toNatClampNeg a1)) s1 h
theorem mX6_planAt {l : Launch} {w : Wd} (N : Nat) (hi : inj false w)  {res : Int32 × SS} {a1 : Int32} {s0 : SS} (h : fX6_planAt N a1 s0 = some res) : MI false l yX6_planAt cX6_planAt 2 (some .int) { frames := 1, cells := 0, slots := 0, locals := 22 } w [rf w 0, .int a1] s0 res := by
  refine mk_i (by decide) hi (Nat.le_of_ble_eq_true rfl) (fun X hX hL F R => ?_)
  subst hX; subst hL
  exact wX6_planAt_e F R a1 s0 h
set_option maxRecDepth 20000 in
theorem wX5_tries_e {X : Cx} (F : Fx true X cX5_tries RX5 1 0 0) {res : Int32 × SS} (R : RI true X cX5_tries 1 res) {N : Nat} : ∀  (s0 : SS), fX5_tries N s0 = some res → G true X 1 0 [(0, rf X.2.2 0)] [] s0 := by
  intro  s0 h
  unfold fX5_tries at h
  refine g_aload_n F (a := 0) (j := 0) dX5_tries_0 rfl rfl ?_
  refine gt_X5_65 F (k := 0) pc0 dX5_tries_1 (v := .int (s0 0 9)) rfl ?_
  exact R _ _ _ _ dX5_tries_4 h
theorem mX5_tries {l : Launch} {w : Wd} (N : Nat) (hi : inj true w)  {res : Int32 × SS} {s0 : SS} (h : fX5_tries N s0 = some res) : MI true l yX5_tries cX5_tries 1 (some .int) { frames := 0, cells := 0, slots := 0, locals := 0 } w [rf w 0] s0 res := by
  refine mk_i (by decide) hi (Nat.le_of_ble_eq_true rfl) (fun X hX hL F R => ?_)
  subst hX; subst hL
  exact wX5_tries_e F R  s0 h
set_option maxRecDepth 20000 in
theorem wX6_tries_e {X : Cx} (F : Fx false X cX6_tries RX6 1 0 0) {res : Int32 × SS} (R : RI false X cX6_tries 1 res) {N : Nat} : ∀  (s0 : SS), fX6_tries N s0 = some res → G false X 1 0 [(0, rf X.2.2 0)] [] s0 := by
  intro  s0 h
  unfold fX6_tries at h
  refine g_aload_n F (a := 0) (j := 0) dX6_tries_0 rfl rfl ?_
  refine gt_X6_132 F (k := 0) pm0 dX6_tries_1 (v := .int (s0 0 13)) rfl ?_
  exact R _ _ _ _ dX6_tries_4 h
theorem mX6_tries {l : Launch} {w : Wd} (N : Nat) (hi : inj false w)  {res : Int32 × SS} {s0 : SS} (h : fX6_tries N s0 = some res) : MI false l yX6_tries cX6_tries 1 (some .int) { frames := 0, cells := 0, slots := 0, locals := 0 } w [rf w 0] s0 res := by
  refine mk_i (by decide) hi (Nat.le_of_ble_eq_true rfl) (fun X hX hL F R => ?_)
  subst hX; subst hL
  exact wX6_tries_e F R  s0 h
set_option maxRecDepth 20000 in
theorem wX1_isMovedIn_47 {X : Cx} (F : Fx true X cX1_isMovedIn RX1 3 0 0) {res : Int32 × SS} (R : RZ true X cX1_isMovedIn 3 res) {N : Nat} {r : Nat} (hr : isRow X.2.2 r) {q : Nat} (hq : IsI true X.2.2 q 8) : ∀ (t0 : Int32) (s0 : SS), fX1_isMovedIn_47 N r q t0 s0 = some res → G true X 3 47 [] [.int t0] s0 := by
  intro t0 s0 h
  unfold fX1_isMovedIn_47 at h
  exact R _ _ _ _ dX1_isMovedIn_47 h
set_option maxRecDepth 20000 in
theorem wX1_isMovedIn_46 {X : Cx} (F : Fx true X cX1_isMovedIn RX1 3 0 0) {res : Int32 × SS} (R : RZ true X cX1_isMovedIn 3 res) {N : Nat} {r : Nat} (hr : isRow X.2.2 r) {q : Nat} (hq : IsI true X.2.2 q 8) : ∀  (s0 : SS), fX1_isMovedIn_46 N r q s0 = some res → G true X 3 46 [] [] s0 := by
  intro  s0 h
  unfold fX1_isMovedIn_46 at h
  refine g_iconst F (v := 0) dX1_isMovedIn_46 (by decide) ?_
  exact wX1_isMovedIn_47 F R hr hq 0 s0 h
set_option maxRecDepth 20000 in
theorem wX1_isMovedIn_e {X : Cx} (F : Fx true X cX1_isMovedIn RX1 3 0 0) {res : Int32 × SS} (R : RZ true X cX1_isMovedIn 3 res) {N : Nat} {r : Nat} (hr : isRow X.2.2 r) {q : Nat} (hq : IsI true X.2.2 q 8) : ∀ (a1 : Int32) (s0 : SS), fX1_isMovedIn N r q a1 s0 = some res → G true X 3 0 [(0, rf X.2.2 r), (1, .int a1), (2, rf X.2.2 q)] [] s0 := by
  intro a1 s0 h
  unfold fX1_isMovedIn at h
  refine g_aload_n F (a := r) (j := 0) dX1_isMovedIn_0 rfl rfl ?_
  refine gt_X1_31 F (k := r) hr.1 dX1_isMovedIn_1 (v := rf X.2.2 1) rfl ?_
  refine gt_X1_49 F (k := 1) pc1 dX1_isMovedIn_4 (v := rf X.2.2 10) rfl ?_
  refine g_iload_n F (j := 1) dX1_isMovedIn_7 rfl rfl ?_
  refine g_iald F (k := 10) pc10 dX1_isMovedIn_8 h (fun h => ?_)
  refine g_iload_n F (j := 1) dX1_isMovedIn_9 rfl rfl ?_
  refine g_icmp_ne F (tgt := 46) dX1_isMovedIn_10 (by decide) h (fun h => ?_) (fun h => ?_)
  · refine g_aload_n F (a := r) (j := 0) dX1_isMovedIn_13 rfl rfl ?_
    refine gt_X1_9 F (k := r) hr.1 dX1_isMovedIn_14 (v := rf X.2.2 (r + 1)) rfl ?_
    refine g_iload_n F (j := 1) dX1_isMovedIn_17 rfl rfl ?_
    refine g_iald F (k := (r + 1)) hr.2.1 dX1_isMovedIn_18 h (fun h => ?_)
    refine g_iconst F (v := (-1)) dX1_isMovedIn_19 (by decide) ?_
    refine g_icmp_eq F (tgt := 46) dX1_isMovedIn_20 (by decide) h (fun h => ?_) (fun h => ?_)
    · refine g_sub (lv' := []) [] rfl ?_
      exact wX1_isMovedIn_46 F R hr hq s0 h
    · refine g_aload_n F (a := q) (j := 2) dX1_isMovedIn_23 rfl rfl ?_
      refine g_iload_n F (j := 1) dX1_isMovedIn_24 rfl rfl ?_
      refine g_iald F (k := q) hq dX1_isMovedIn_25 h (fun h => ?_)
      refine g_iconst F (v := (-1)) dX1_isMovedIn_26 (by decide) ?_
      refine g_icmp_eq F (tgt := 46) dX1_isMovedIn_27 (by decide) h (fun h => ?_) (fun h => ?_)
      · refine g_sub (lv' := []) [] rfl ?_
        exact wX1_isMovedIn_46 F R hr hq s0 h
      · refine g_aload_n F (a := q) (j := 2) dX1_isMovedIn_30 rfl rfl ?_
        refine g_iload_n F (j := 1) dX1_isMovedIn_31 rfl rfl ?_
        refine g_iald F (k := q) hq dX1_isMovedIn_32 h (fun h => ?_)
        refine g_aload_n F (a := r) (j := 0) dX1_isMovedIn_33 rfl rfl ?_
        refine gt_X1_9 F (k := r) hr.1 dX1_isMovedIn_34 (v := rf X.2.2 (r + 1)) rfl ?_
        refine g_iload_n F (j := 1) dX1_isMovedIn_37 rfl rfl ?_
        refine g_iald F (k := (r + 1)) hr.2.1 dX1_isMovedIn_38 h (fun h => ?_)
        refine g_icmp_eq F (tgt := 46) dX1_isMovedIn_39 (by decide) h (fun h => ?_) (fun h => ?_)
        · refine g_sub (lv' := []) [] rfl ?_
          exact wX1_isMovedIn_46 F R hr hq s0 h
        · refine g_iconst F (v := 1) dX1_isMovedIn_42 (by decide) ?_
          refine g_goto F (tgt := 47) dX1_isMovedIn_43 (by decide) ?_
          refine g_sub (lv' := []) [] rfl ?_
          exact wX1_isMovedIn_47 F R hr hq 1 s0 h
  · refine g_sub (lv' := []) [] rfl ?_
    exact wX1_isMovedIn_46 F R hr hq s0 h
theorem mX1_isMovedIn {l : Launch} {w : Wd} (N : Nat) (hi : inj true w) {r : Nat} (hr : isRow w r) {q : Nat} (hq : IsI true w q 8) {res : Int32 × SS} {a1 : Int32} {s0 : SS} (h : fX1_isMovedIn N r q a1 s0 = some res) : MI true l yX1_isMovedIn cX1_isMovedIn 3 (some .boolean) { frames := 0, cells := 0, slots := 0, locals := 0 } w [rf w r, .int a1, rf w q] s0 res := by
  refine mk_z (by decide) hi (Nat.le_of_ble_eq_true rfl) (fun X hX hL F R => ?_)
  subst hX; subst hL
  exact wX1_isMovedIn_e F R hr hq a1 s0 h
set_option maxRecDepth 20000 in
theorem wX1_costTo_35 {X : Cx} (F : Fx true X cX1_costTo RX1 4 1 22) {res : Int32 × SS} (R : RI true X cX1_costTo 4 res) {N : Nat} {r : Nat} (hr : isRow X.2.2 r) {q : Nat} (hq : IsI true X.2.2 q 8) {k4 : Int32 → Int32 → SS → Option (Int32 × SS)} (hk4 : ∀ (x2 : Int32) (x3 : Int32) (σ : SS), k4 x2 x3 σ = some res → G true X 4 4 [(0, rf X.2.2 r), (1, rf X.2.2 q), (2, .int x2), (3, .int x3)] [] σ) : ∀ (x2 : Int32) (x3 : Int32) (s0 : SS), fX1_costTo_35 N r q k4 x2 x3 s0 = some res → G true X 4 35 [(0, rf X.2.2 r), (1, rf X.2.2 q), (2, .int x2), (3, .int x3)] [] s0 := by
  intro x2 x3 s0 h
  unfold fX1_costTo_35 at h
  refine g_iinc F (j := 3) (v := x3 + 1) dX1_costTo_35 rfl rfl (by decide) (lv' := [(0, rf X.2.2 r), (1, rf X.2.2 q), (2, .int x2), (3, .int (x3 + 1))]) [1, 2, 3, 0] rfl ?_
  refine g_goto F (tgt := 4) dX1_costTo_38 (by decide) ?_
  exact hk4 x2 (x3 + 1) s0 h
set_option maxRecDepth 20000 in
theorem wX1_costTo_4 {X : Cx} (F : Fx true X cX1_costTo RX1 4 1 22) {res : Int32 × SS} (R : RI true X cX1_costTo 4 res) {N : Nat} {r : Nat} (hr : isRow X.2.2 r) {q : Nat} (hq : IsI true X.2.2 q 8) {k4 : Int32 → Int32 → SS → Option (Int32 × SS)} (hk4 : ∀ (x2 : Int32) (x3 : Int32) (σ : SS), k4 x2 x3 σ = some res → G true X 4 4 [(0, rf X.2.2 r), (1, rf X.2.2 q), (2, .int x2), (3, .int x3)] [] σ) : ∀ (x2 : Int32) (x3 : Int32) (s0 : SS), fX1_costTo_4 N r q k4 x2 x3 s0 = some res → G true X 4 4 [(0, rf X.2.2 r), (1, rf X.2.2 q), (2, .int x2), (3, .int x3)] [] s0 := by
  intro x2 x3 s0 h
  unfold fX1_costTo_4 at h
  refine g_iload_n F (j := 3) dX1_costTo_4 rfl rfl ?_
  refine g_aload_n F (a := r) (j := 0) dX1_costTo_5 rfl rfl ?_
  refine gt_X1_31 F (k := r) hr.1 dX1_costTo_6 (v := rf X.2.2 1) rfl ?_
  refine gt_X1_74 F (k := 1) pc1 dX1_costTo_9 (v := .int (s0 1 1)) rfl ?_
  refine g_icmp_ge F (tgt := 41) dX1_costTo_12 (by decide) h (fun h => ?_) (fun h => ?_)
  · refine g_iload_n F (j := 2) dX1_costTo_41 rfl rfl ?_
    exact R _ _ _ _ dX1_costTo_42 h
  · refine g_aload_n F (a := r) (j := 0) dX1_costTo_15 rfl rfl ?_
    refine g_iload_n F (j := 3) dX1_costTo_16 rfl rfl ?_
    refine g_aload_n F (a := q) (j := 1) dX1_costTo_17 rfl rfl ?_
    refine g_vi F (k := r) (As := [.int x3, rf X.2.2 q]) (rest := []) (fun _ q => mX1_isMovedIn N F.inj hr hq q) mw_X1_isMovedIn ml_X1_85 rfl ⟨Nat.le_of_ble_eq_true rfl, Nat.le_of_ble_eq_true rfl⟩ hr.1 cl1 rfl (Nat.le_of_ble_eq_true rfl) dX1_costTo_18 h (fun v1 s1 h => ?_)
    refine g_ifeq F (tgt := 35) dX1_costTo_21 (by decide) h (fun h => ?_) (fun h => ?_)
    · exact wX1_costTo_35 F R hr hq hk4 x2 x3 s1 h
    · refine g_iload_n F (j := 2) dX1_costTo_24 rfl rfl ?_
      refine g_aload_n F (a := r) (j := 0) dX1_costTo_25 rfl rfl ?_
      refine gt_X1_31 F (k := r) hr.1 dX1_costTo_26 (v := rf X.2.2 1) rfl ?_
      refine g_iload_n F (j := 3) dX1_costTo_29 rfl rfl ?_
      refine g_vi F (k := 1) (As := [.int x3]) (rest := [.int x2]) (fun _ q => mX3_moveCost N F.inj  q) mw_X3_moveCost ml_X1_89 rfl ⟨Nat.le_of_ble_eq_true rfl, Nat.le_of_ble_eq_true rfl⟩ pc1 cl3 rfl (Nat.le_of_ble_eq_true rfl) dX1_costTo_30 h (fun v2 s2 h => ?_)
      refine g_iadd F dX1_costTo_33 ?_
      refine g_istore_n F dX1_costTo_34 rfl (by decide) (lv' := [(0, rf X.2.2 r), (1, rf X.2.2 q), (2, .int (x2 + v2)), (3, .int x3)]) [1, 2, 0, 3] rfl ?_
      exact wX1_costTo_35 F R hr hq hk4 (x2 + v2) x3 s2 h
theorem wX1_costTo_4_lp {X : Cx} (F : Fx true X cX1_costTo RX1 4 1 22) {res : Int32 × SS} (R : RI true X cX1_costTo 4 res) {N : Nat} {r : Nat} (hr : isRow X.2.2 r) {q : Nat} (hq : IsI true X.2.2 q 8) : ∀ (n : Nat) (x2 : Int32) (x3 : Int32) (s0 : SS), lp (fX1_costTo_4 N r q) (fun _ _ _ => none) n x2 x3 s0 = some res → G true X 4 4 [(0, rf X.2.2 r), (1, rf X.2.2 q), (2, .int x2), (3, .int x3)] [] s0 := by
  intro n
  induction n with
  | zero => intro x2 x3 s0 h; cases (show (none : Option (Int32 × SS)) = some res from h)
  | succ n ih => intro x2 x3 s0 h; exact wX1_costTo_4 F R hr hq ih x2 x3 s0 h
set_option maxRecDepth 20000 in
theorem wX1_costTo_e {X : Cx} (F : Fx true X cX1_costTo RX1 4 1 22) {res : Int32 × SS} (R : RI true X cX1_costTo 4 res) {N : Nat} {r : Nat} (hr : isRow X.2.2 r) {q : Nat} (hq : IsI true X.2.2 q 8) : ∀  (s0 : SS), fX1_costTo N r q s0 = some res → G true X 4 0 [(0, rf X.2.2 r), (1, rf X.2.2 q)] [] s0 := by
  intro  s0 h
  unfold fX1_costTo at h
  refine g_iconst F (v := 0) dX1_costTo_0 (by decide) ?_
  refine g_istore_n F dX1_costTo_1 rfl (by decide) (lv' := [(0, rf X.2.2 r), (1, rf X.2.2 q), (2, .int 0)]) [1, 2, 0] rfl ?_
  refine g_iconst F (v := 0) dX1_costTo_2 (by decide) ?_
  refine g_istore_n F dX1_costTo_3 rfl (by decide) (lv' := [(0, rf X.2.2 r), (1, rf X.2.2 q), (2, .int 0), (3, .int 0)]) [1, 2, 3, 0] rfl ?_
  exact wX1_costTo_4_lp F R hr hq N 0 0 s0 h
theorem mX1_costTo {l : Launch} {w : Wd} (N : Nat) (hi : inj true w) {r : Nat} (hr : isRow w r) {q : Nat} (hq : IsI true w q 8) {res : Int32 × SS} {s0 : SS} (h : fX1_costTo N r q s0 = some res) : MI true l yX1_costTo cX1_costTo 4 (some .int) { frames := 1, cells := 0, slots := 0, locals := 22 } w [rf w r, rf w q] s0 res := by
  refine mk_i (by decide) hi (Nat.le_of_ble_eq_true rfl) (fun X hX hL F R => ?_)
  subst hX; subst hL
  exact wX1_costTo_e F R hr hq s0 h
set_option maxRecDepth 20000 in
theorem wX5_cost_23 {X : Cx} (F : Fx true X cX5_cost RX5 1 2 45) {res : Int32 × SS} (R : RI true X cX5_cost 1 res) {N : Nat} : ∀ (t0 : Int32) (s0 : SS), fX5_cost_23 N t0 s0 = some res → G true X 1 23 [] [.int t0] s0 := by
  intro t0 s0 h
  unfold fX5_cost_23 at h
  exact R _ _ _ _ dX5_cost_23 h
set_option maxRecDepth 20000 in
theorem wX5_cost_e {X : Cx} (F : Fx true X cX5_cost RX5 1 2 45) {res : Int32 × SS} (R : RI true X cX5_cost 1 res) {N : Nat} : ∀  (s0 : SS), fX5_cost N s0 = some res → G true X 1 0 [(0, rf X.2.2 0)] [] s0 := by
  intro  s0 h
  unfold fX5_cost at h
  refine g_aload_n F (a := 0) (j := 0) dX5_cost_0 rfl rfl ?_
  refine gt_X5_54 F (k := 0) pc0 dX5_cost_1 (v := .int (s0 0 6)) rfl ?_
  refine g_ifeq F (tgt := 21) dX5_cost_4 (by decide) h (fun h => ?_) (fun h => ?_)
  · refine g_bipush F (v := (-3)) dX5_cost_21 (by decide) ?_
    refine g_sub (lv' := []) [] rfl ?_
    exact wX5_cost_23 F R (-3) s0 h
  · refine g_aload_n F (a := 0) (j := 0) dX5_cost_7 rfl rfl ?_
    refine gt_X5_21 F (k := 0) pc0 dX5_cost_8 (v := rf X.2.2 13) rfl ?_
    refine g_aload_n F (a := 0) (j := 0) dX5_cost_11 rfl rfl ?_
    refine gt_X5_50 F (k := 0) pc0 dX5_cost_12 (v := rf X.2.2 40) rfl ?_
    refine g_vi F (k := 13) (As := [rf X.2.2 40]) (rest := []) (fun _ q => mX1_costTo N F.inj row13 pc40 q) mw_X1_costTo ml_X5_176 rfl ⟨Nat.le_of_ble_eq_true rfl, Nat.le_of_ble_eq_true rfl⟩ pc13 cl1 rfl (Nat.le_of_ble_eq_true rfl) dX5_cost_15 h (fun v1 s1 h => ?_)
    refine g_goto F (tgt := 23) dX5_cost_18 (by decide) ?_
    refine g_sub (lv' := []) [] rfl ?_
    exact wX5_cost_23 F R v1 s1 h
theorem mX5_cost {l : Launch} {w : Wd} (N : Nat) (hi : inj true w)  {res : Int32 × SS} {s0 : SS} (h : fX5_cost N s0 = some res) : MI true l yX5_cost cX5_cost 1 (some .int) { frames := 2, cells := 0, slots := 0, locals := 45 } w [rf w 0] s0 res := by
  refine mk_i (by decide) hi (Nat.le_of_ble_eq_true rfl) (fun X hX hL F R => ?_)
  subst hX; subst hL
  exact wX5_cost_e F R  s0 h
set_option maxRecDepth 20000 in
theorem wX6_cost_55 {X : Cx} (F : Fx false X cX6_cost RX6 3 4 90) {res : Int32 × SS} (R : RI false X cX6_cost 3 res) {N : Nat} {k14 : Int32 → Int32 → SS → Option (Int32 × SS)} (hk14 : ∀ (x1 : Int32) (x2 : Int32) (σ : SS), k14 x1 x2 σ = some res → G false X 3 14 [(0, rf X.2.2 0), (1, .int x1), (2, .int x2)] [] σ) : ∀ (x2 : Int32) (t0 : Int32) (t1 : Int32) (s0 : SS), fX6_cost_55 N k14 x2 t0 t1 s0 = some res → G false X 3 55 [(0, rf X.2.2 0), (2, .int x2)] [.int t0, .int t1] s0 := by
  intro x2 t0 t1 s0 h
  unfold fX6_cost_55 at h
  refine g_iadd F dX6_cost_55 ?_
  refine g_istore_n F dX6_cost_56 rfl (by decide) (lv' := [(0, rf X.2.2 0), (1, .int (t1 + t0)), (2, .int x2)]) [1, 0, 2] rfl ?_
  refine g_iinc F (j := 2) (v := x2 + 1) dX6_cost_57 rfl rfl (by decide) (lv' := [(0, rf X.2.2 0), (1, .int (t1 + t0)), (2, .int (x2 + 1))]) [1, 2, 0] rfl ?_
  refine g_goto F (tgt := 14) dX6_cost_60 (by decide) ?_
  exact hk14 (t1 + t0) (x2 + 1) s0 h
set_option maxRecDepth 20000 in
theorem wX6_cost_54 {X : Cx} (F : Fx false X cX6_cost RX6 3 4 90) {res : Int32 × SS} (R : RI false X cX6_cost 3 res) {N : Nat} {k14 : Int32 → Int32 → SS → Option (Int32 × SS)} (hk14 : ∀ (x1 : Int32) (x2 : Int32) (σ : SS), k14 x1 x2 σ = some res → G false X 3 14 [(0, rf X.2.2 0), (1, .int x1), (2, .int x2)] [] σ) : ∀ (x2 : Int32) (t0 : Int32) (s0 : SS), fX6_cost_54 N k14 x2 t0 s0 = some res → G false X 3 54 [(0, rf X.2.2 0), (2, .int x2)] [.int t0] s0 := by
  intro x2 t0 s0 h
  unfold fX6_cost_54 at h
  refine g_iconst F (v := 0) dX6_cost_54 (by decide) ?_
  exact wX6_cost_55 F R hk14 x2 0 t0 s0 h
set_option maxRecDepth 20000 in
theorem wX6_cost_14 {X : Cx} (F : Fx false X cX6_cost RX6 3 4 90) {res : Int32 × SS} (R : RI false X cX6_cost 3 res) {N : Nat} {k14 : Int32 → Int32 → SS → Option (Int32 × SS)} (hk14 : ∀ (x1 : Int32) (x2 : Int32) (σ : SS), k14 x1 x2 σ = some res → G false X 3 14 [(0, rf X.2.2 0), (1, .int x1), (2, .int x2)] [] σ) : ∀ (x1 : Int32) (x2 : Int32) (s0 : SS), fX6_cost_14 N k14 x1 x2 s0 = some res → G false X 3 14 [(0, rf X.2.2 0), (1, .int x1), (2, .int x2)] [] s0 := by
  intro x1 x2 s0 h
  unfold fX6_cost_14 at h
  refine g_iload_n F (j := 2) dX6_cost_14 rfl rfl ?_
  refine g_aload_n F (a := 0) (j := 0) dX6_cost_15 rfl rfl ?_
  refine gt_X6_67 F (k := 0) pm0 dX6_cost_16 (v := .int (s0 0 3)) rfl ?_
  refine g_icmp_ge F (tgt := 63) dX6_cost_19 (by decide) h (fun h => ?_) (fun h => ?_)
  · refine g_iload_n F (j := 1) dX6_cost_63 rfl rfl ?_
    exact R _ _ _ _ dX6_cost_64 h
  · refine g_iload_n F (j := 1) dX6_cost_22 rfl rfl ?_
    refine g_aload_n F (a := 0) (j := 0) dX6_cost_23 rfl rfl ?_
    refine g_iload_n F (j := 2) dX6_cost_24 rfl rfl ?_
    refine g_vi F (k := 0) (As := [.int x2]) (rest := [.int x1]) (fun _ q => mX6_isBlock N F.inj  q) mw_X6_isBlock ml_X6_129 rfl ⟨Nat.le_of_ble_eq_true rfl, Nat.le_of_ble_eq_true rfl⟩ pm0 cl6 rfl (Nat.le_of_ble_eq_true rfl) dX6_cost_25 h (fun v1 s1 h => ?_)
    refine g_ifeq F (tgt := 54) dX6_cost_28 (by decide) h (fun h => ?_) (fun h => ?_)
    · refine g_sub (lv' := [(0, rf X.2.2 0), (2, .int x2)]) [0, 2] rfl ?_
      exact wX6_cost_54 F R hk14 x2 x1 s1 h
    · refine g_aload_n F (a := 0) (j := 0) dX6_cost_31 rfl rfl ?_
      refine gt_X6_45 F (k := 0) pm0 dX6_cost_32 (v := rf X.2.2 11) rfl ?_
      refine g_iload_n F (j := 2) dX6_cost_35 rfl rfl ?_
      refine g_iald F (k := 11) pm11 dX6_cost_36 h (fun h => ?_)
      refine g_aload_n F (a := 0) (j := 0) dX6_cost_37 rfl rfl ?_
      refine gt_X6_28 F (k := 0) pm0 dX6_cost_38 (v := rf X.2.2 7) rfl ?_
      refine g_iload_n F (j := 2) dX6_cost_41 rfl rfl ?_
      refine g_iald F (k := 7) pm7 dX6_cost_42 h (fun h => ?_)
      refine g_icmp_eq F (tgt := 54) dX6_cost_43 (by decide) h (fun h => ?_) (fun h => ?_)
      · refine g_sub (lv' := [(0, rf X.2.2 0), (2, .int x2)]) [0, 2] rfl ?_
        exact wX6_cost_54 F R hk14 x2 x1 s1 h
      · refine g_aload_n F (a := 0) (j := 0) dX6_cost_46 rfl rfl ?_
        refine g_iload_n F (j := 2) dX6_cost_47 rfl rfl ?_
        refine g_vi F (k := 0) (As := [.int x2]) (rest := [.int x1]) (fun _ q => mX6_costOf N F.inj  q) mw_X6_costOf ml_X6_161 rfl ⟨Nat.le_of_ble_eq_true rfl, Nat.le_of_ble_eq_true rfl⟩ pm0 cl6 rfl (Nat.le_of_ble_eq_true rfl) dX6_cost_48 h (fun v2 s2 h => ?_)
        refine g_goto F (tgt := 55) dX6_cost_51 (by decide) ?_
        refine g_sub (lv' := [(0, rf X.2.2 0), (2, .int x2)]) [0, 2] rfl ?_
        exact wX6_cost_55 F R hk14 x2 v2 x1 s2 h
theorem wX6_cost_14_lp {X : Cx} (F : Fx false X cX6_cost RX6 3 4 90) {res : Int32 × SS} (R : RI false X cX6_cost 3 res) {N : Nat} : ∀ (n : Nat) (x1 : Int32) (x2 : Int32) (s0 : SS), lp (fX6_cost_14 N) (fun _ _ _ => none) n x1 x2 s0 = some res → G false X 3 14 [(0, rf X.2.2 0), (1, .int x1), (2, .int x2)] [] s0 := by
  intro n
  induction n with
  | zero => intro x1 x2 s0 h; cases (show (none : Option (Int32 × SS)) = some res from h)
  | succ n ih => intro x1 x2 s0 h; exact wX6_cost_14 F R ih x1 x2 s0 h
set_option maxRecDepth 20000 in
theorem wX6_cost_e {X : Cx} (F : Fx false X cX6_cost RX6 3 4 90) {res : Int32 × SS} (R : RI false X cX6_cost 3 res) {N : Nat} : ∀  (s0 : SS), fX6_cost N s0 = some res → G false X 3 0 [(0, rf X.2.2 0)] [] s0 := by
  intro  s0 h
  unfold fX6_cost at h
  refine g_aload_n F (a := 0) (j := 0) dX6_cost_0 rfl rfl ?_
  refine gt_X6_88 F (k := 0) pm0 dX6_cost_1 (v := .int (s0 0 21)) rfl ?_
  refine g_ifne F (tgt := 10) dX6_cost_4 (by decide) h (fun h => ?_) (fun h => ?_)
  · refine g_bipush F (v := (-3)) dX6_cost_7 (by decide) ?_
    exact R _ _ _ _ dX6_cost_9 h
  · refine g_iconst F (v := 0) dX6_cost_10 (by decide) ?_
    refine g_istore_n F dX6_cost_11 rfl (by decide) (lv' := [(0, rf X.2.2 0), (1, .int 0)]) [1, 0] rfl ?_
    refine g_iconst F (v := 0) dX6_cost_12 (by decide) ?_
    refine g_istore_n F dX6_cost_13 rfl (by decide) (lv' := [(0, rf X.2.2 0), (1, .int 0), (2, .int 0)]) [1, 2, 0] rfl ?_
    exact wX6_cost_14_lp F R N 0 0 s0 h
theorem mX6_cost {l : Launch} {w : Wd} (N : Nat) (hi : inj false w)  {res : Int32 × SS} {s0 : SS} (h : fX6_cost N s0 = some res) : MI false l yX6_cost cX6_cost 3 (some .int) { frames := 4, cells := 0, slots := 0, locals := 90 } w [rf w 0] s0 res := by
  refine mk_i (by decide) hi (Nat.le_of_ble_eq_true rfl) (fun X hX hL F R => ?_)
  subst hX; subst hL
  exact wX6_cost_e F R  s0 h
set_option maxRecDepth 20000 in
theorem wX1_copy_e {X : Cx} (F : Fx true X cX1_copy RX1 2 1 40) {res : SS} (R : RV true X cX1_copy 2 res) {N : Nat} {r : Nat} (hr : isRow X.2.2 r) {o : Nat} (ho : isRow X.2.2 o) : ∀  (s0 : SS), fX1_copy N r o s0 = some res → G true X 2 0 [(0, rf X.2.2 r), (1, rf X.2.2 o)] [] s0 := by
  intro  s0 h
  unfold fX1_copy at h
  refine g_aload_n F (a := o) (j := 1) dX1_copy_0 rfl rfl ?_
  refine gt_X1_9 F (k := o) ho.1 dX1_copy_1 (v := rf X.2.2 (o + 1)) rfl ?_
  refine g_iconst F (v := 0) dX1_copy_4 (by decide) ?_
  refine g_aload_n F (a := r) (j := 0) dX1_copy_5 rfl rfl ?_
  refine gt_X1_9 F (k := r) hr.1 dX1_copy_6 (v := rf X.2.2 (r + 1)) rfl ?_
  refine g_iconst F (v := 0) dX1_copy_9 (by decide) ?_
  refine g_bipush F (v := 8) dX1_copy_10 (by decide) ?_
  refine g_acp F (k0 := (o + 1)) (k1 := (r + 1)) ho.2.1 hr.2.1 (nn := 8) (by decide) (by decide) (by decide) (by decide) (by decide +kernel) acp_X1 dX1_copy_12 h (fun s1 h => ?_)
  refine g_aload_n F (a := o) (j := 1) dX1_copy_15 rfl rfl ?_
  refine gt_X1_15 F (k := o) ho.1 dX1_copy_16 (v := rf X.2.2 (o + 2)) rfl ?_
  refine g_iconst F (v := 0) dX1_copy_19 (by decide) ?_
  refine g_aload_n F (a := r) (j := 0) dX1_copy_20 rfl rfl ?_
  refine gt_X1_15 F (k := r) hr.1 dX1_copy_21 (v := rf X.2.2 (r + 2)) rfl ?_
  refine g_iconst F (v := 0) dX1_copy_24 (by decide) ?_
  refine g_iconst F (v := 5) dX1_copy_25 (by decide) ?_
  refine g_acp F (k0 := (o + 2)) (k1 := (r + 2)) ho.2.2.1 hr.2.2.1 (nn := 5) (by decide) (by decide) (by decide) (by decide) (by decide +kernel) acp_X1 dX1_copy_26 h (fun s2 h => ?_)
  refine g_aload_n F (a := o) (j := 1) dX1_copy_29 rfl rfl ?_
  refine gt_X1_18 F (k := o) ho.1 dX1_copy_30 (v := rf X.2.2 (o + 3)) rfl ?_
  refine g_iconst F (v := 0) dX1_copy_33 (by decide) ?_
  refine g_aload_n F (a := r) (j := 0) dX1_copy_34 rfl rfl ?_
  refine gt_X1_18 F (k := r) hr.1 dX1_copy_35 (v := rf X.2.2 (r + 3)) rfl ?_
  refine g_iconst F (v := 0) dX1_copy_38 (by decide) ?_
  refine g_iconst F (v := 5) dX1_copy_39 (by decide) ?_
  refine g_acp F (k0 := (o + 3)) (k1 := (r + 3)) ho.2.2.2.1 hr.2.2.2.1 (nn := 5) (by decide) (by decide) (by decide) (by decide) (by decide +kernel) acp_X1 dX1_copy_40 h (fun s3 h => ?_)
  refine g_aload_n F (a := o) (j := 1) dX1_copy_43 rfl rfl ?_
  refine gt_X1_21 F (k := o) ho.1 dX1_copy_44 (v := rf X.2.2 (o + 4)) rfl ?_
  refine g_iconst F (v := 0) dX1_copy_47 (by decide) ?_
  refine g_aload_n F (a := r) (j := 0) dX1_copy_48 rfl rfl ?_
  refine gt_X1_21 F (k := r) hr.1 dX1_copy_49 (v := rf X.2.2 (r + 4)) rfl ?_
  refine g_iconst F (v := 0) dX1_copy_52 (by decide) ?_
  refine g_iconst F (v := 5) dX1_copy_53 (by decide) ?_
  refine g_acp F (k0 := (o + 4)) (k1 := (r + 4)) ho.2.2.2.2.1 hr.2.2.2.2.1 (nn := 5) (by decide) (by decide) (by decide) (by decide) (by decide +kernel) acp_X1 dX1_copy_54 h (fun s4 h => ?_)
  refine g_aload_n F (a := o) (j := 1) dX1_copy_57 rfl rfl ?_
  refine gt_X1_24 F (k := o) ho.1 dX1_copy_58 (v := rf X.2.2 (o + 5)) rfl ?_
  refine g_iconst F (v := 0) dX1_copy_61 (by decide) ?_
  refine g_aload_n F (a := r) (j := 0) dX1_copy_62 rfl rfl ?_
  refine gt_X1_24 F (k := r) hr.1 dX1_copy_63 (v := rf X.2.2 (r + 5)) rfl ?_
  refine g_iconst F (v := 0) dX1_copy_66 (by decide) ?_
  refine g_iconst F (v := 5) dX1_copy_67 (by decide) ?_
  refine g_acp F (k0 := (o + 5)) (k1 := (r + 5)) ho.2.2.2.2.2 hr.2.2.2.2.2 (nn := 5) (by decide) (by decide) (by decide) (by decide) (by decide +kernel) acp_X1 dX1_copy_68 h (fun s5 h => ?_)
  refine g_aload_n F (a := r) (j := 0) dX1_copy_71 rfl rfl ?_
  refine g_aload_n F (a := o) (j := 1) dX1_copy_72 rfl rfl ?_
  refine gt_X1_27 F (k := o) ho.1 dX1_copy_73 (v := .int (s5 o 6)) rfl ?_
  refine pt_X1_27 F (k := r) hr.1 (Nat.le_of_ble_eq_true rfl) rfl dX1_copy_76 h (fun s6 h => ?_)
  exact R _ _ _ dX1_copy_79 h
theorem mX1_copy {l : Launch} {w : Wd} (N : Nat) (hi : inj true w) {r : Nat} (hr : isRow w r) {o : Nat} (ho : isRow w o) {res : SS} {s0 : SS} (h : fX1_copy N r o s0 = some res) : MV true l yX1_copy cX1_copy 2 none { frames := 1, cells := 0, slots := 0, locals := 40 } w [rf w r, rf w o] s0 res := by
  refine mk_v (by decide) hi (Nat.le_of_ble_eq_true rfl) (fun X hX hL F R => ?_)
  subst hX; subst hL
  exact wX1_copy_e F R hr ho s0 h
set_option maxRecDepth 20000 in
theorem wX0_addJob_e {X : Cx} (F : Fx true X cX0_addJob RX0 3 0 0) {res : SS} (R : RV true X cX0_addJob 3 res) {N : Nat} : ∀ (a1 : Int32) (a2 : Int32) (s0 : SS), fX0_addJob N a1 a2 s0 = some res → G true X 3 0 [(0, rf X.2.2 27), (1, .int a1), (2, .int a2)] [] s0 := by
  intro a1 a2 s0 h
  unfold fX0_addJob at h
  refine g_aload_n F (a := 27) (j := 0) dX0_addJob_0 rfl rfl ?_
  refine gt_X0_19 F (k := 27) pc27 dX0_addJob_1 (v := rf X.2.2 29) rfl ?_
  refine g_aload_n F (a := 27) (j := 0) dX0_addJob_4 rfl rfl ?_
  refine gt_X0_9 F (k := 27) pc27 dX0_addJob_5 (v := .int (s0 27 3)) rfl ?_
  refine g_iload_n F (j := 1) dX0_addJob_8 rfl rfl ?_
  refine g_iast F (k := 29) pc29 dX0_addJob_9 h (fun s1 h => ?_)
  refine g_aload_n F (a := 27) (j := 0) dX0_addJob_10 rfl rfl ?_
  refine gt_X0_22 F (k := 27) pc27 dX0_addJob_11 (v := rf X.2.2 30) rfl ?_
  refine g_aload_n F (a := 27) (j := 0) dX0_addJob_14 rfl rfl ?_
  refine gt_X0_9 F (k := 27) pc27 dX0_addJob_15 (v := .int (s1 27 3)) rfl ?_
  refine g_iload_n F (j := 2) dX0_addJob_18 rfl rfl ?_
  refine g_iast F (k := 30) pc30 dX0_addJob_19 h (fun s2 h => ?_)
  refine g_aload_n F (a := 27) (j := 0) dX0_addJob_20 rfl rfl ?_
  refine gt_X0_25 F (k := 27) pc27 dX0_addJob_21 (v := rf X.2.2 31) rfl ?_
  refine g_aload_n F (a := 27) (j := 0) dX0_addJob_24 rfl rfl ?_
  refine gt_X0_9 F (k := 27) pc27 dX0_addJob_25 (v := .int (s2 27 3)) rfl ?_
  refine g_iconst F (v := 0) dX0_addJob_28 (by decide) ?_
  refine g_iast F (k := 31) pc31 dX0_addJob_29 h (fun s3 h => ?_)
  refine g_aload_n F (a := 27) (j := 0) dX0_addJob_30 rfl rfl ?_
  refine g_dupr F dX0_addJob_31 ?_
  refine gt_X0_9 F (k := 27) pc27 dX0_addJob_32 (v := .int (s3 27 3)) rfl ?_
  refine g_iconst F (v := 1) dX0_addJob_35 (by decide) ?_
  refine g_iadd F dX0_addJob_36 ?_
  refine pt_X0_9 F (k := 27) pc27 (Nat.le_of_ble_eq_true rfl) rfl dX0_addJob_37 h (fun s4 h => ?_)
  exact R _ _ _ dX0_addJob_40 h
theorem mX0_addJob {l : Launch} {w : Wd} (N : Nat) (hi : inj true w)  {res : SS} {a1 a2 : Int32} {s0 : SS} (h : fX0_addJob N a1 a2 s0 = some res) : MV true l yX0_addJob cX0_addJob 3 none { frames := 0, cells := 0, slots := 0, locals := 0 } w [rf w 27, .int a1, .int a2] s0 res := by
  refine mk_v (by decide) hi (Nat.le_of_ble_eq_true rfl) (fun X hX hL F R => ?_)
  subst hX; subst hL
  exact wX0_addJob_e F R a1 a2 s0 h
set_option maxRecDepth 20000 in
theorem wX0_gather_54 {X : Cx} (F : Fx true X cX0_gather RX0 4 2 61) {res : SS} (R : RV true X cX0_gather 4 res) {N : Nat} {q : Nat} (hq : IsI true X.2.2 q 8) {k18 : Int32 → Int32 → SS → Option (SS)} (hk18 : ∀ (x2 : Int32) (x3 : Int32) (σ : SS), k18 x2 x3 σ = some res → G true X 4 18 [(0, rf X.2.2 27), (1, rf X.2.2 q), (2, .int x2), (3, .int x3)] [] σ) : ∀ (x2 : Int32) (x3 : Int32) (s0 : SS), fX0_gather_54 N q k18 x2 x3 s0 = some res → G true X 4 54 [(0, rf X.2.2 27), (1, rf X.2.2 q), (2, .int x2), (3, .int x3)] [] s0 := by
  intro x2 x3 s0 h
  unfold fX0_gather_54 at h
  refine g_iinc F (j := 3) (v := x3 + 1) dX0_gather_54 rfl rfl (by decide) (lv' := [(0, rf X.2.2 27), (1, rf X.2.2 q), (2, .int x2), (3, .int (x3 + 1))]) [1, 2, 3, 0] rfl ?_
  refine g_goto F (tgt := 18) dX0_gather_57 (by decide) ?_
  exact hk18 x2 (x3 + 1) s0 h
set_option maxRecDepth 20000 in
theorem wX0_gather_18 {X : Cx} (F : Fx true X cX0_gather RX0 4 2 61) {res : SS} (R : RV true X cX0_gather 4 res) {N : Nat} {q : Nat} (hq : IsI true X.2.2 q 8) {k18 : Int32 → Int32 → SS → Option (SS)} (hk18 : ∀ (x2 : Int32) (x3 : Int32) (σ : SS), k18 x2 x3 σ = some res → G true X 4 18 [(0, rf X.2.2 27), (1, rf X.2.2 q), (2, .int x2), (3, .int x3)] [] σ) : ∀ (x2 : Int32) (x3 : Int32) (s0 : SS), fX0_gather_18 N q k18 x2 x3 s0 = some res → G true X 4 18 [(0, rf X.2.2 27), (1, rf X.2.2 q), (2, .int x2), (3, .int x3)] [] s0 := by
  intro x2 x3 s0 h
  unfold fX0_gather_18 at h
  refine g_iload_n F (j := 3) dX0_gather_18 rfl rfl ?_
  refine g_aload_n F (a := 27) (j := 0) dX0_gather_19 rfl rfl ?_
  refine gt_X0_32 F (k := 27) pc27 dX0_gather_20 (v := rf X.2.2 1) rfl ?_
  refine gt_X0_56 F (k := 1) pc1 dX0_gather_23 (v := .int (s0 1 1)) rfl ?_
  refine g_icmp_ge F (tgt := 60) dX0_gather_26 (by decide) h (fun h => ?_) (fun h => ?_)
  · exact R _ _ _ dX0_gather_60 h
  · refine g_iload_n F (j := 3) dX0_gather_29 rfl rfl ?_
    refine g_iload_n F (j := 2) dX0_gather_30 rfl rfl ?_
    refine g_icmp_eq F (tgt := 54) dX0_gather_31 (by decide) h (fun h => ?_) (fun h => ?_)
    · exact wX0_gather_54 F R hq hk18 x2 x3 s0 h
    · refine g_aload_n F (a := 27) (j := 0) dX0_gather_34 rfl rfl ?_
      refine gt_X0_36 F (k := 27) pc27 dX0_gather_35 (v := rf X.2.2 13) rfl ?_
      refine g_iload_n F (j := 3) dX0_gather_38 rfl rfl ?_
      refine g_aload_n F (a := q) (j := 1) dX0_gather_39 rfl rfl ?_
      refine g_vi F (k := 13) (As := [.int x3, rf X.2.2 q]) (rest := []) (fun _ q => mX1_isMovedIn N F.inj row13 hq q) mw_X1_isMovedIn ml_X0_64 rfl ⟨Nat.le_of_ble_eq_true rfl, Nat.le_of_ble_eq_true rfl⟩ pc13 cl1 rfl (Nat.le_of_ble_eq_true rfl) dX0_gather_40 h (fun v1 s1 h => ?_)
      refine g_ifeq F (tgt := 54) dX0_gather_43 (by decide) h (fun h => ?_) (fun h => ?_)
      · exact wX0_gather_54 F R hq hk18 x2 x3 s1 h
      · refine g_aload_n F (a := 27) (j := 0) dX0_gather_46 rfl rfl ?_
        refine g_iload_n F (j := 3) dX0_gather_47 rfl rfl ?_
        refine g_aload_n F (a := q) (j := 1) dX0_gather_48 rfl rfl ?_
        refine g_iload_n F (j := 3) dX0_gather_49 rfl rfl ?_
        refine g_iald F (k := q) hq dX0_gather_50 h (fun h => ?_)
        refine g_vv F (k := 27) (As := [.int x3, .int (s1 q (Int32.toNatClampNeg x3))]) (rest := []) (fun _ q => mX0_addJob N F.inj  q) mw_X0_addJob ml_X0_83 rfl ⟨Nat.le_of_ble_eq_true rfl, Nat.le_of_ble_eq_true rfl⟩ pc27 cl0 rfl (Nat.le_of_ble_eq_true rfl) dX0_gather_51 h (fun s2 h => ?_)
        exact wX0_gather_54 F R hq hk18 x2 x3 s2 h
theorem wX0_gather_18_lp {X : Cx} (F : Fx true X cX0_gather RX0 4 2 61) {res : SS} (R : RV true X cX0_gather 4 res) {N : Nat} {q : Nat} (hq : IsI true X.2.2 q 8) : ∀ (n : Nat) (x2 : Int32) (x3 : Int32) (s0 : SS), lp (fX0_gather_18 N q) (fun _ _ _ => none) n x2 x3 s0 = some res → G true X 4 18 [(0, rf X.2.2 27), (1, rf X.2.2 q), (2, .int x2), (3, .int x3)] [] s0 := by
  intro n
  induction n with
  | zero => intro x2 x3 s0 h; cases (show (none : Option (SS)) = some res from h)
  | succ n ih => intro x2 x3 s0 h; exact wX0_gather_18 F R hq ih x2 x3 s0 h
set_option maxRecDepth 20000 in
theorem wX0_gather_e {X : Cx} (F : Fx true X cX0_gather RX0 4 2 61) {res : SS} (R : RV true X cX0_gather 4 res) {N : Nat} {q : Nat} (hq : IsI true X.2.2 q 8) : ∀ (a2 : Int32) (s0 : SS), fX0_gather N q a2 s0 = some res → G true X 4 0 [(0, rf X.2.2 27), (1, rf X.2.2 q), (2, .int a2)] [] s0 := by
  intro a2 s0 h
  unfold fX0_gather at h
  refine g_aload_n F (a := 27) (j := 0) dX0_gather_0 rfl rfl ?_
  refine gt_X0_45 F (k := 27) pc27 dX0_gather_1 (v := rf X.2.2 33) rfl ?_
  refine g_aload_n F (a := 27) (j := 0) dX0_gather_4 rfl rfl ?_
  refine gt_X0_36 F (k := 27) pc27 dX0_gather_5 (v := rf X.2.2 13) rfl ?_
  refine g_vv F (k := 33) (As := [rf X.2.2 13]) (rest := []) (fun _ q => mX1_copy N F.inj row33 row13 q) mw_X1_copy ml_X0_91 rfl ⟨Nat.le_of_ble_eq_true rfl, Nat.le_of_ble_eq_true rfl⟩ pc33 cl1 rfl (Nat.le_of_ble_eq_true rfl) dX0_gather_8 h (fun s1 h => ?_)
  refine g_aload_n F (a := 27) (j := 0) dX0_gather_11 rfl rfl ?_
  refine g_iconst F (v := 0) dX0_gather_12 (by decide) ?_
  refine pt_X0_9 F (k := 27) pc27 (Nat.le_of_ble_eq_true rfl) rfl dX0_gather_13 h (fun s2 h => ?_)
  refine g_iconst F (v := 0) dX0_gather_16 (by decide) ?_
  refine g_istore_n F dX0_gather_17 rfl (by decide) (lv' := [(0, rf X.2.2 27), (1, rf X.2.2 q), (2, .int a2), (3, .int 0)]) [1, 2, 3, 0] rfl ?_
  exact wX0_gather_18_lp F R hq N a2 0 s2 h
theorem mX0_gather {l : Launch} {w : Wd} (N : Nat) (hi : inj true w) {q : Nat} (hq : IsI true w q 8) {res : SS} {a2 : Int32} {s0 : SS} (h : fX0_gather N q a2 s0 = some res) : MV true l yX0_gather cX0_gather 4 none { frames := 2, cells := 0, slots := 0, locals := 61 } w [rf w 27, rf w q, .int a2] s0 res := by
  refine mk_v (by decide) hi (Nat.le_of_ble_eq_true rfl) (fun X hX hL F R => ?_)
  subst hX; subst hL
  exact wX0_gather_e F R hq a2 s0 h
