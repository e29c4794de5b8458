set_option maxRecDepth 20000 in
theorem wX6_free_17 {X : Cx} (F : Fx false X cX6_free RX6 3 2 43) {res : Int32 × SS} (R : RI false X cX6_free 3 res) {N : Nat} : ∀  (s0 : SS), fX6_free_17 N s0 = some res → G false X 3 17 [] [] s0 := by
  intro  s0 h
  unfold fX6_free_17 at h
  refine g_bipush F (v := (-2)) dX6_free_17 (by decide) ?_
  exact R _ _ _ _ dX6_free_19 h
set_option maxRecDepth 20000 in
theorem wX6_free_50 {X : Cx} (F : Fx false X cX6_free RX6 3 2 43) {res : Int32 × SS} (R : RI false X cX6_free 3 res) {N : Nat} : ∀ (t0 : Int32) (s0 : SS), fX6_free_50 N t0 s0 = some res → G false X 3 50 [] [.int t0] s0 := by
  intro t0 s0 h
  unfold fX6_free_50 at h
  exact R _ _ _ _ dX6_free_50 h
set_option maxRecDepth 20000 in
theorem wX6_free_e {X : Cx} (F : Fx false X cX6_free RX6 3 2 43) {res : Int32 × SS} (R : RI false X cX6_free 3 res) {N : Nat} : ∀ (a1 : Int32) (a2 : Int32) (s0 : SS), fX6_free N a1 a2 s0 = some res → G false X 3 0 [(0, rf X.2.2 0), (1, .int a1), (2, .int a2)] [] s0 := by
  intro a1 a2 s0 h
  unfold fX6_free at h
  refine g_aload_n F (a := 0) (j := 0) dX6_free_0 rfl rfl ?_
  refine g_iload_n F (j := 1) dX6_free_1 rfl rfl ?_
  refine g_vi F (k := 0) (As := [.int a1]) (rest := []) (fun _ q => mX6_isMachine N F.inj  q) mw_X6_isMachine ml_X6_73 rfl ⟨Nat.le_of_ble_eq_true rfl, Nat.le_of_ble_eq_true rfl⟩ pm0 cl6 rfl (Nat.le_of_ble_eq_true rfl) dX6_free_2 h (fun v1 s1 h => ?_)
  refine g_ifeq F (tgt := 17) dX6_free_5 (by decide) h (fun h => ?_) (fun h => ?_)
  · refine g_sub (lv' := []) [] rfl ?_
    exact wX6_free_17 F R s1 h
  · refine g_iload_n F (j := 2) dX6_free_8 rfl rfl ?_
    refine g_iconst F (v := 0) dX6_free_9 (by decide) ?_
    refine g_iconst F (v := 2) dX6_free_10 (by decide) ?_
    refine g_si F (As := [.int a2, .int 0, .int 2]) (rest := []) (fun _ q => mX6_in N F.inj  q) mw_X6_in ml_X6_60 rfl ⟨Nat.le_of_ble_eq_true rfl, Nat.le_of_ble_eq_true rfl⟩ rfl (Nat.le_of_ble_eq_true rfl) dX6_free_11 h (fun v2 s2 h => ?_)
    refine g_ifne F (tgt := 20) dX6_free_14 (by decide) h (fun h => ?_) (fun h => ?_)
    · refine g_sub (lv' := []) [] rfl ?_
      exact wX6_free_17 F R s2 h
    · refine g_iload_n F (j := 2) dX6_free_20 rfl rfl ?_
      refine g_ifne F (tgt := 32) dX6_free_21 (by decide) h (fun h => ?_) (fun h => ?_)
      · refine g_aload_n F (a := 0) (j := 0) dX6_free_24 rfl rfl ?_
        refine g_iload_n F (j := 1) dX6_free_25 rfl rfl ?_
        refine g_vi F (k := 0) (As := [.int a1]) (rest := []) (fun _ q => mX6_freeA N F.inj  q) mw_X6_freeA ml_X6_92 rfl ⟨Nat.le_of_ble_eq_true rfl, Nat.le_of_ble_eq_true rfl⟩ pm0 cl6 rfl (Nat.le_of_ble_eq_true rfl) dX6_free_26 h (fun v3 s3 h => ?_)
        refine g_goto F (tgt := 50) dX6_free_29 (by decide) ?_
        refine g_sub (lv' := []) [] rfl ?_
        exact wX6_free_50 F R v3 s3 h
      · refine g_iload_n F (j := 2) dX6_free_32 rfl rfl ?_
        refine g_iconst F (v := 1) dX6_free_33 (by decide) ?_
        refine g_icmp_ne F (tgt := 45) dX6_free_34 (by decide) h (fun h => ?_) (fun h => ?_)
        · refine g_aload_n F (a := 0) (j := 0) dX6_free_37 rfl rfl ?_
          refine g_iload_n F (j := 1) dX6_free_38 rfl rfl ?_
          refine g_vi F (k := 0) (As := [.int a1]) (rest := []) (fun _ q => mX6_freeB N F.inj  q) mw_X6_freeB ml_X6_96 rfl ⟨Nat.le_of_ble_eq_true rfl, Nat.le_of_ble_eq_true rfl⟩ pm0 cl6 rfl (Nat.le_of_ble_eq_true rfl) dX6_free_39 h (fun v4 s4 h => ?_)
          refine g_goto F (tgt := 50) dX6_free_42 (by decide) ?_
          refine g_sub (lv' := []) [] rfl ?_
          exact wX6_free_50 F R v4 s4 h
        · refine g_aload_n F (a := 0) (j := 0) dX6_free_45 rfl rfl ?_
          refine g_iload_n F (j := 1) dX6_free_46 rfl rfl ?_
          refine g_vi F (k := 0) (As := [.int a1]) (rest := []) (fun _ q => mX6_many N F.inj  q) mw_X6_many ml_X6_106 rfl ⟨Nat.le_of_ble_eq_true rfl, Nat.le_of_ble_eq_true rfl⟩ pm0 cl6 rfl (Nat.le_of_ble_eq_true rfl) dX6_free_47 h (fun v5 s5 h => ?_)
          refine g_sub (lv' := []) [] rfl ?_
          exact wX6_free_50 F R v5 s5 h
theorem mX6_free {l : Launch} {w : Wd} (N : Nat) (hi : inj false w)  {res : Int32 × SS} {a1 a2 : Int32} {s0 : SS} (h : fX6_free N a1 a2 s0 = some res) : MI false l yX6_free cX6_free 3 (some .int) { frames := 2, cells := 0, slots := 0, locals := 43 } w [rf w 0, .int a1, .int a2] s0 res := by
  refine mk_i (by decide) hi (Nat.le_of_ble_eq_true rfl) (fun X hX hL F R => ?_)
  subst hX; subst hL
  exact wX6_free_e F R a1 a2 s0 h
set_option maxRecDepth 20000 in
theorem wX2_aim_e {X : Cx} (F : Fx true X cX2_aim RX2 5 0 0) {res : SS} (R : RV true X cX2_aim 5 res) {N : Nat} : ∀ (a1 : Int32) (a2 : Int32) (a3 : Int32) (a4 : Int32) (s0 : SS), fX2_aim N a1 a2 a3 a4 s0 = some res → G true X 5 0 [(0, rf X.2.2 19), (1, .int a1), (2, .int a2), (3, .int a3), (4, .int a4)] [] s0 := by
  intro a1 a2 a3 a4 s0 h
  unfold fX2_aim at h
  refine g_aload_n F (a := 19) (j := 0) dX2_aim_0 rfl rfl ?_
  refine g_iload_n F (j := 1) dX2_aim_1 rfl rfl ?_
  refine pt_X2_29 F (k := 19) pc19 (Nat.le_of_ble_eq_true rfl) rfl dX2_aim_2 h (fun s1 h => ?_)
  refine g_aload_n F (a := 19) (j := 0) dX2_aim_5 rfl rfl ?_
  refine g_iload_n F (j := 2) dX2_aim_6 rfl rfl ?_
  refine pt_X2_32 F (k := 19) pc19 (Nat.le_of_ble_eq_true rfl) rfl dX2_aim_7 h (fun s2 h => ?_)
  refine g_aload_n F (a := 19) (j := 0) dX2_aim_10 rfl rfl ?_
  refine g_iload_n F (j := 3) dX2_aim_11 rfl rfl ?_
  refine pt_X2_35 F (k := 19) pc19 (Nat.le_of_ble_eq_true rfl) rfl dX2_aim_12 h (fun s3 h => ?_)
  refine g_aload_n F (a := 19) (j := 0) dX2_aim_15 rfl rfl ?_
  refine g_iload F (j := 4) dX2_aim_16 rfl ?_
  refine pt_X2_38 F (k := 19) pc19 (Nat.le_of_ble_eq_true rfl) rfl dX2_aim_18 h (fun s4 h => ?_)
  exact R _ _ _ dX2_aim_21 h
theorem mX2_aim {l : Launch} {w : Wd} (N : Nat) (hi : inj true w)  {res : SS} {a1 a2 a3 a4 : Int32} {s0 : SS} (h : fX2_aim N a1 a2 a3 a4 s0 = some res) : MV true l yX2_aim cX2_aim 5 none { frames := 0, cells := 0, slots := 0, locals := 0 } w [rf w 19, .int a1, .int a2, .int a3, .int a4] s0 res := by
  refine mk_v (by decide) hi (Nat.le_of_ble_eq_true rfl) (fun X hX hL F R => ?_)
  subst hX; subst hL
  exact wX2_aim_e F R a1 a2 a3 a4 s0 h
set_option maxRecDepth 20000 in
theorem wX1_clear_23 {X : Cx} (F : Fx true X cX1_clear RX1 2 0 0) {res : SS} (R : RV true X cX1_clear 2 res) {N : Nat} {r : Nat} (hr : isRow X.2.2 r) {k23 : Int32 → SS → Option (SS)} (hk23 : ∀ (x1 : Int32) (σ : SS), k23 x1 σ = some res → G true X 2 23 [(0, rf X.2.2 r), (1, .int x1)] [] σ) : ∀ (x1 : Int32) (s0 : SS), fX1_clear_23 N r k23 x1 s0 = some res → G true X 2 23 [(0, rf X.2.2 r), (1, .int x1)] [] s0 := by
  intro x1 s0 h
  unfold fX1_clear_23 at h
  refine g_iload_n F (j := 1) dX1_clear_23 rfl rfl ?_
  refine g_iconst F (v := 5) dX1_clear_24 (by decide) ?_
  refine g_icmp_ge F (tgt := 62) dX1_clear_25 (by decide) h (fun h => ?_) (fun h => ?_)
  · refine g_aload_n F (a := r) (j := 0) dX1_clear_62 rfl rfl ?_
    refine g_iconst F (v := 0) dX1_clear_63 (by decide) ?_
    refine pt_X1_27 F (k := r) hr.1 (Nat.le_of_ble_eq_true rfl) rfl dX1_clear_64 h (fun s1 h => ?_)
    exact R _ _ _ dX1_clear_67 h
  · refine g_aload_n F (a := r) (j := 0) dX1_clear_28 rfl rfl ?_
    refine gt_X1_15 F (k := r) hr.1 dX1_clear_29 (v := rf X.2.2 (r + 2)) rfl ?_
    refine g_iload_n F (j := 1) dX1_clear_32 rfl rfl ?_
    refine g_iconst F (v := 0) dX1_clear_33 (by decide) ?_
    refine g_iast F (k := (r + 2)) hr.2.2.1 dX1_clear_34 h (fun s2 h => ?_)
    refine g_aload_n F (a := r) (j := 0) dX1_clear_35 rfl rfl ?_
    refine gt_X1_18 F (k := r) hr.1 dX1_clear_36 (v := rf X.2.2 (r + 3)) rfl ?_
    refine g_iload_n F (j := 1) dX1_clear_39 rfl rfl ?_
    refine g_iconst F (v := 0) dX1_clear_40 (by decide) ?_
    refine g_iast F (k := (r + 3)) hr.2.2.2.1 dX1_clear_41 h (fun s3 h => ?_)
    refine g_aload_n F (a := r) (j := 0) dX1_clear_42 rfl rfl ?_
    refine gt_X1_21 F (k := r) hr.1 dX1_clear_43 (v := rf X.2.2 (r + 4)) rfl ?_
    refine g_iload_n F (j := 1) dX1_clear_46 rfl rfl ?_
    refine g_iconst F (v := 0) dX1_clear_47 (by decide) ?_
    refine g_iast F (k := (r + 4)) hr.2.2.2.2.1 dX1_clear_48 h (fun s4 h => ?_)
    refine g_aload_n F (a := r) (j := 0) dX1_clear_49 rfl rfl ?_
    refine gt_X1_24 F (k := r) hr.1 dX1_clear_50 (v := rf X.2.2 (r + 5)) rfl ?_
    refine g_iload_n F (j := 1) dX1_clear_53 rfl rfl ?_
    refine g_iconst F (v := 0) dX1_clear_54 (by decide) ?_
    refine g_iast F (k := (r + 5)) hr.2.2.2.2.2 dX1_clear_55 h (fun s5 h => ?_)
    refine g_iinc F (j := 1) (v := x1 + 1) dX1_clear_56 rfl rfl (by decide) (lv' := [(0, rf X.2.2 r), (1, .int (x1 + 1))]) [1, 0] rfl ?_
    refine g_goto F (tgt := 23) dX1_clear_59 (by decide) ?_
    exact hk23 (x1 + 1) s5 h
theorem wX1_clear_23_lp {X : Cx} (F : Fx true X cX1_clear RX1 2 0 0) {res : SS} (R : RV true X cX1_clear 2 res) {N : Nat} {r : Nat} (hr : isRow X.2.2 r) : ∀ (n : Nat) (x1 : Int32) (s0 : SS), lp (fX1_clear_23 N r) (fun _ _ => none) n x1 s0 = some res → G true X 2 23 [(0, rf X.2.2 r), (1, .int x1)] [] s0 := by
  intro n
  induction n with
  | zero => intro x1 s0 h; cases (show (none : Option (SS)) = some res from h)
  | succ n ih => intro x1 s0 h; exact wX1_clear_23 F R hr ih x1 s0 h
set_option maxRecDepth 20000 in
theorem wX1_clear_2 {X : Cx} (F : Fx true X cX1_clear RX1 2 0 0) {res : SS} (R : RV true X cX1_clear 2 res) {N : Nat} {r : Nat} (hr : isRow X.2.2 r) {k2 : Int32 → SS → Option (SS)} (hk2 : ∀ (x1 : Int32) (σ : SS), k2 x1 σ = some res → G true X 2 2 [(0, rf X.2.2 r), (1, .int x1)] [] σ) : ∀ (x1 : Int32) (s0 : SS), fX1_clear_2 N r k2 x1 s0 = some res → G true X 2 2 [(0, rf X.2.2 r), (1, .int x1)] [] s0 := by
  intro x1 s0 h
  unfold fX1_clear_2 at h
  refine g_iload_n F (j := 1) dX1_clear_2 rfl rfl ?_
  refine g_bipush F (v := 8) dX1_clear_3 (by decide) ?_
  refine g_icmp_ge F (tgt := 21) dX1_clear_5 (by decide) h (fun h => ?_) (fun h => ?_)
  · refine g_iconst F (v := 0) dX1_clear_21 (by decide) ?_
    refine g_istore_n F dX1_clear_22 rfl (by decide) (lv' := [(0, rf X.2.2 r), (1, .int 0)]) [1, 0] rfl ?_
    exact wX1_clear_23_lp F R hr N 0 s0 h
  · refine g_aload_n F (a := r) (j := 0) dX1_clear_8 rfl rfl ?_
    refine gt_X1_9 F (k := r) hr.1 dX1_clear_9 (v := rf X.2.2 (r + 1)) rfl ?_
    refine g_iload_n F (j := 1) dX1_clear_12 rfl rfl ?_
    refine g_iconst F (v := (-1)) dX1_clear_13 (by decide) ?_
    refine g_iast F (k := (r + 1)) hr.2.1 dX1_clear_14 h (fun s1 h => ?_)
    refine g_iinc F (j := 1) (v := x1 + 1) dX1_clear_15 rfl rfl (by decide) (lv' := [(0, rf X.2.2 r), (1, .int (x1 + 1))]) [1, 0] rfl ?_
    refine g_goto F (tgt := 2) dX1_clear_18 (by decide) ?_
    exact hk2 (x1 + 1) s1 h
theorem wX1_clear_2_lp {X : Cx} (F : Fx true X cX1_clear RX1 2 0 0) {res : SS} (R : RV true X cX1_clear 2 res) {N : Nat} {r : Nat} (hr : isRow X.2.2 r) : ∀ (n : Nat) (x1 : Int32) (s0 : SS), lp (fX1_clear_2 N r) (fun _ _ => none) n x1 s0 = some res → G true X 2 2 [(0, rf X.2.2 r), (1, .int x1)] [] s0 := by
  intro n
  induction n with
  | zero => intro x1 s0 h; cases (show (none : Option (SS)) = some res from h)
  | succ n ih => intro x1 s0 h; exact wX1_clear_2 F R hr ih x1 s0 h
set_option maxRecDepth 20000 in
theorem wX1_clear_e {X : Cx} (F : Fx true X cX1_clear RX1 2 0 0) {res : SS} (R : RV true X cX1_clear 2 res) {N : Nat} {r : Nat} (hr : isRow X.2.2 r) : ∀  (s0 : SS), fX1_clear N r s0 = some res → G true X 2 0 [(0, rf X.2.2 r)] [] s0 := by
  intro  s0 h
  unfold fX1_clear at h
  refine g_iconst F (v := 0) dX1_clear_0 (by decide) ?_
  refine g_istore_n F dX1_clear_1 rfl (by decide) (lv' := [(0, rf X.2.2 r), (1, .int 0)]) [1, 0] rfl ?_
  exact wX1_clear_2_lp F R hr N 0 s0 h
theorem mX1_clear {l : Launch} {w : Wd} (N : Nat) (hi : inj true w) {r : Nat} (hr : isRow w r) {res : SS} {s0 : SS} (h : fX1_clear N r s0 = some res) : MV true l yX1_clear cX1_clear 2 none { frames := 0, cells := 0, slots := 0, locals := 0 } w [rf w r] s0 res := by
  refine mk_v (by decide) hi (Nat.le_of_ble_eq_true rfl) (fun X hX hL F R => ?_)
  subst hX; subst hL
  exact wX1_clear_e F R hr s0 h
set_option maxRecDepth 20000 in
theorem wX2_goalHolds_52 {X : Cx} (F : Fx true X cX2_goalHolds RX2 1 1 21) {res : Int32 × SS} (R : RZ true X cX2_goalHolds 1 res) {N : Nat} : ∀ (t0 : Int32) (s0 : SS), fX2_goalHolds_52 N t0 s0 = some res → G true X 1 52 [] [.int t0] s0 := by
  intro t0 s0 h
  unfold fX2_goalHolds_52 at h
  exact R _ _ _ _ dX2_goalHolds_52 h
set_option maxRecDepth 20000 in
theorem wX2_goalHolds_94 {X : Cx} (F : Fx true X cX2_goalHolds RX2 1 1 21) {res : Int32 × SS} (R : RZ true X cX2_goalHolds 1 res) {N : Nat} : ∀ (t0 : Int32) (s0 : SS), fX2_goalHolds_94 N t0 s0 = some res → G true X 1 94 [] [.int t0] s0 := by
  intro t0 s0 h
  unfold fX2_goalHolds_94 at h
  exact R _ _ _ _ dX2_goalHolds_94 h
set_option maxRecDepth 20000 in
theorem wX2_goalHolds_93 {X : Cx} (F : Fx true X cX2_goalHolds RX2 1 1 21) {res : Int32 × SS} (R : RZ true X cX2_goalHolds 1 res) {N : Nat} : ∀  (s0 : SS), fX2_goalHolds_93 N s0 = some res → G true X 1 93 [] [] s0 := by
  intro  s0 h
  unfold fX2_goalHolds_93 at h
  refine g_iconst F (v := 0) dX2_goalHolds_93 (by decide) ?_
  exact wX2_goalHolds_94 F R 0 s0 h
set_option maxRecDepth 20000 in
theorem wX2_goalHolds_114 {X : Cx} (F : Fx true X cX2_goalHolds RX2 1 1 21) {res : Int32 × SS} (R : RZ true X cX2_goalHolds 1 res) {N : Nat} : ∀ (t0 : Int32) (s0 : SS), fX2_goalHolds_114 N t0 s0 = some res → G true X 1 114 [] [.int t0] s0 := by
  intro t0 s0 h
  unfold fX2_goalHolds_114 at h
  exact R _ _ _ _ dX2_goalHolds_114 h
set_option maxRecDepth 20000 in
theorem wX2_goalHolds_e {X : Cx} (F : Fx true X cX2_goalHolds RX2 1 1 21) {res : Int32 × SS} (R : RZ true X cX2_goalHolds 1 res) {N : Nat} : ∀  (s0 : SS), fX2_goalHolds N s0 = some res → G true X 1 0 [(0, rf X.2.2 19)] [] s0 := by
  intro  s0 h
  unfold fX2_goalHolds at h
  refine g_aload_n F (a := 19) (j := 0) dX2_goalHolds_0 rfl rfl ?_
  refine gt_X2_29 F (k := 19) pc19 dX2_goalHolds_1 (v := .int (s0 19 8)) rfl ?_
  generalize ex : (s0 19 8) = xx at h ⊢
  by_cases c0 : xx = 0
  · rw [if_pos c0] at h
    refine g_tabIn F (tgt := 32) (off := 28) dX2_goalHolds_4 (by rw [c0]; decide) (by rw [c0]; decide) (by rw [c0]; rfl) (by decide) ?_
    refine g_aload_n F (a := 19) (j := 0) dX2_goalHolds_32 rfl rfl ?_
    refine gt_X2_57 F (k := 19) pc19 dX2_goalHolds_33 (v := rf X.2.2 21) rfl ?_
    refine gt_X2_113 F (k := 21) pc21 dX2_goalHolds_36 (v := rf X.2.2 25) rfl ?_
    refine g_aload_n F (a := 19) (j := 0) dX2_goalHolds_39 rfl rfl ?_
    refine gt_X2_32 F (k := 19) pc19 dX2_goalHolds_40 (v := .int (s0 19 9)) rfl ?_
    refine g_iald F (k := 25) pc25 dX2_goalHolds_43 h (fun h => ?_)
    refine g_ifne F (tgt := 51) dX2_goalHolds_44 (by decide) h (fun h => ?_) (fun h => ?_)
    · refine g_iconst F (v := 1) dX2_goalHolds_47 (by decide) ?_
      refine g_goto F (tgt := 52) dX2_goalHolds_48 (by decide) ?_
      refine g_sub (lv' := []) [] rfl ?_
      exact wX2_goalHolds_52 F R 1 s0 h
    · refine g_iconst F (v := 0) dX2_goalHolds_51 (by decide) ?_
      refine g_sub (lv' := []) [] rfl ?_
      exact wX2_goalHolds_52 F R 0 s0 h
  rw [if_neg c0] at h
  by_cases c1 : xx = 1
  · rw [if_pos c1] at h
    refine g_tabIn F (tgt := 53) (off := 49) dX2_goalHolds_4 (by rw [c1]; decide) (by rw [c1]; decide) (by rw [c1]; rfl) (by decide) ?_
    refine g_aload_n F (a := 19) (j := 0) dX2_goalHolds_53 rfl rfl ?_
    refine gt_X2_57 F (k := 19) pc19 dX2_goalHolds_54 (v := rf X.2.2 21) rfl ?_
    refine g_aload_n F (a := 19) (j := 0) dX2_goalHolds_57 rfl rfl ?_
    refine gt_X2_32 F (k := 19) pc19 dX2_goalHolds_58 (v := .int (s0 19 9)) rfl ?_
    refine g_vi F (k := 21) (As := [.int (s0 19 9)]) (rest := []) (fun _ q => mX1_freeA N F.inj row21 q) mw_X1_freeA ml_X2_116 rfl ⟨Nat.le_of_ble_eq_true rfl, Nat.le_of_ble_eq_true rfl⟩ pc21 cl1 rfl (Nat.le_of_ble_eq_true rfl) dX2_goalHolds_61 h (fun v1 s1 h => ?_)
    refine g_aload_n F (a := 19) (j := 0) dX2_goalHolds_64 rfl rfl ?_
    refine gt_X2_35 F (k := 19) pc19 dX2_goalHolds_65 (v := .int (s1 19 10)) rfl ?_
    refine g_icmp_lt F (tgt := 93) dX2_goalHolds_68 (by decide) h (fun h => ?_) (fun h => ?_)
    · refine g_sub (lv' := []) [] rfl ?_
      exact wX2_goalHolds_93 F R s1 h
    · refine g_aload_n F (a := 19) (j := 0) dX2_goalHolds_71 rfl rfl ?_
      refine gt_X2_57 F (k := 19) pc19 dX2_goalHolds_72 (v := rf X.2.2 21) rfl ?_
      refine g_aload_n F (a := 19) (j := 0) dX2_goalHolds_75 rfl rfl ?_
      refine gt_X2_32 F (k := 19) pc19 dX2_goalHolds_76 (v := .int (s1 19 9)) rfl ?_
      refine g_vi F (k := 21) (As := [.int (s1 19 9)]) (rest := []) (fun _ q => mX1_freeB N F.inj row21 q) mw_X1_freeB ml_X2_119 rfl ⟨Nat.le_of_ble_eq_true rfl, Nat.le_of_ble_eq_true rfl⟩ pc21 cl1 rfl (Nat.le_of_ble_eq_true rfl) dX2_goalHolds_79 h (fun v2 s2 h => ?_)
      refine g_aload_n F (a := 19) (j := 0) dX2_goalHolds_82 rfl rfl ?_
      refine gt_X2_38 F (k := 19) pc19 dX2_goalHolds_83 (v := .int (s2 19 11)) rfl ?_
      refine g_icmp_lt F (tgt := 93) dX2_goalHolds_86 (by decide) h (fun h => ?_) (fun h => ?_)
      · refine g_sub (lv' := []) [] rfl ?_
        exact wX2_goalHolds_93 F R s2 h
      · refine g_iconst F (v := 1) dX2_goalHolds_89 (by decide) ?_
        refine g_goto F (tgt := 94) dX2_goalHolds_90 (by decide) ?_
        refine g_sub (lv' := []) [] rfl ?_
        exact wX2_goalHolds_94 F R 1 s2 h
  rw [if_neg c1] at h
  by_cases c2 : xx = 2
  · rw [if_pos c2] at h
    refine g_tabIn F (tgt := 95) (off := 91) dX2_goalHolds_4 (by rw [c2]; decide) (by rw [c2]; decide) (by rw [c2]; rfl) (by decide) ?_
    refine g_aload_n F (a := 19) (j := 0) dX2_goalHolds_95 rfl rfl ?_
    refine gt_X2_57 F (k := 19) pc19 dX2_goalHolds_96 (v := rf X.2.2 21) rfl ?_
    refine gt_X2_122 F (k := 21) pc21 dX2_goalHolds_99 (v := .int (s0 21 6)) rfl ?_
    refine g_aload_n F (a := 19) (j := 0) dX2_goalHolds_102 rfl rfl ?_
    refine gt_X2_35 F (k := 19) pc19 dX2_goalHolds_103 (v := .int (s0 19 10)) rfl ?_
    refine g_icmp_gt F (tgt := 113) dX2_goalHolds_106 (by decide) h (fun h => ?_) (fun h => ?_)
    · refine g_iconst F (v := 0) dX2_goalHolds_113 (by decide) ?_
      refine g_sub (lv' := []) [] rfl ?_
      exact wX2_goalHolds_114 F R 0 s0 h
    · refine g_iconst F (v := 1) dX2_goalHolds_109 (by decide) ?_
      refine g_goto F (tgt := 114) dX2_goalHolds_110 (by decide) ?_
      refine g_sub (lv' := []) [] rfl ?_
      exact wX2_goalHolds_114 F R 1 s0 h
  rw [if_neg c2] at h
  refine g_tabOut F (tgt := 115) dX2_goalHolds_4 (tab_out_3 c0 c1 c2) (by decide) ?_
  refine g_iconst F (v := 1) dX2_goalHolds_115 (by decide) ?_
  exact R _ _ _ _ dX2_goalHolds_116 h
theorem mX2_goalHolds {l : Launch} {w : Wd} (N : Nat) (hi : inj true w)  {res : Int32 × SS} {s0 : SS} (h : fX2_goalHolds N s0 = some res) : MI true l yX2_goalHolds cX2_goalHolds 1 (some .boolean) { frames := 1, cells := 0, slots := 0, locals := 21 } w [rf w 19] s0 res := by
  refine mk_z (by decide) hi (Nat.le_of_ble_eq_true rfl) (fun X hX hL F R => ?_)
  subst hX; subst hL
  exact wX2_goalHolds_e F R  s0 h
set_option maxRecDepth 20000 in
theorem wX3_endsBy_25 {X : Cx} (F : Fx true X cX3_endsBy RX3 3 0 0) {res : Int32 × SS} (R : RZ true X cX3_endsBy 3 res) {N : Nat} : ∀ (t0 : Int32) (s0 : SS), fX3_endsBy_25 N t0 s0 = some res → G true X 3 25 [] [.int t0] s0 := by
  intro t0 s0 h
  unfold fX3_endsBy_25 at h
  exact R _ _ _ _ dX3_endsBy_25 h
set_option maxRecDepth 20000 in
theorem wX3_endsBy_24 {X : Cx} (F : Fx true X cX3_endsBy RX3 3 0 0) {res : Int32 × SS} (R : RZ true X cX3_endsBy 3 res) {N : Nat} : ∀  (s0 : SS), fX3_endsBy_24 N s0 = some res → G true X 3 24 [] [] s0 := by
  intro  s0 h
  unfold fX3_endsBy_24 at h
  refine g_iconst F (v := 0) dX3_endsBy_24 (by decide) ?_
  exact wX3_endsBy_25 F R 0 s0 h
set_option maxRecDepth 20000 in
theorem wX3_endsBy_e {X : Cx} (F : Fx true X cX3_endsBy RX3 3 0 0) {res : Int32 × SS} (R : RZ true X cX3_endsBy 3 res) {N : Nat} : ∀ (a1 : Int32) (a2 : Int32) (s0 : SS), fX3_endsBy N a1 a2 s0 = some res → G true X 3 0 [(0, rf X.2.2 1), (1, .int a1), (2, .int a2)] [] s0 := by
  intro a1 a2 s0 h
  unfold fX3_endsBy at h
  refine g_aload_n F (a := 1) (j := 0) dX3_endsBy_0 rfl rfl ?_
  refine gt_X3_31 F (k := 1) pc1 dX3_endsBy_1 (v := rf X.2.2 6) rfl ?_
  refine g_iload_n F (j := 1) dX3_endsBy_4 rfl rfl ?_
  refine g_iald F (k := 6) pc6 dX3_endsBy_5 h (fun h => ?_)
  refine g_iconst F (v := 4) dX3_endsBy_6 (by decide) ?_
  refine g_icmp_ne F (tgt := 24) dX3_endsBy_7 (by decide) h (fun h => ?_) (fun h => ?_)
  · refine g_aload_n F (a := 1) (j := 0) dX3_endsBy_10 rfl rfl ?_
    refine gt_X3_40 F (k := 1) pc1 dX3_endsBy_11 (v := rf X.2.2 9) rfl ?_
    refine g_iload_n F (j := 1) dX3_endsBy_14 rfl rfl ?_
    refine g_iald F (k := 9) pc9 dX3_endsBy_15 h (fun h => ?_)
    refine g_iload_n F (j := 2) dX3_endsBy_16 rfl rfl ?_
    refine g_icmp_gt F (tgt := 24) dX3_endsBy_17 (by decide) h (fun h => ?_) (fun h => ?_)
    · refine g_sub (lv' := []) [] rfl ?_
      exact wX3_endsBy_24 F R s0 h
    · refine g_iconst F (v := 1) dX3_endsBy_20 (by decide) ?_
      refine g_goto F (tgt := 25) dX3_endsBy_21 (by decide) ?_
      refine g_sub (lv' := []) [] rfl ?_
      exact wX3_endsBy_25 F R 1 s0 h
  · refine g_sub (lv' := []) [] rfl ?_
    exact wX3_endsBy_24 F R s0 h
theorem mX3_endsBy {l : Launch} {w : Wd} (N : Nat) (hi : inj true w)  {res : Int32 × SS} {a1 a2 : Int32} {s0 : SS} (h : fX3_endsBy N a1 a2 s0 = some res) : MI true l yX3_endsBy cX3_endsBy 3 (some .boolean) { frames := 0, cells := 0, slots := 0, locals := 0 } w [rf w 1, .int a1, .int a2] s0 res := by
  refine mk_z (by decide) hi (Nat.le_of_ble_eq_true rfl) (fun X hX hL F R => ?_)
  subst hX; subst hL
  exact wX3_endsBy_e F R a1 a2 s0 h
set_option maxRecDepth 20000 in
theorem wX2_nextWork_41 {X : Cx} (F : Fx true X cX2_nextWork RX2 3 1 22) {res : Int32 × SS} (R : RI true X cX2_nextWork 3 res) {N : Nat} {k2 : Int32 → SS → Option (Int32 × SS)} (hk2 : ∀ (x2 : Int32) (σ : SS), k2 x2 σ = some res → G true X 3 2 [(0, rf X.2.2 19), (2, .int x2)] [] σ) : ∀ (x2 : Int32) (s0 : SS), fX2_nextWork_41 N k2 x2 s0 = some res → G true X 3 41 [(0, rf X.2.2 19), (2, .int x2)] [] s0 := by
  intro x2 s0 h
  unfold fX2_nextWork_41 at h
  refine g_iinc F (j := 1) (v := x2 + 1) dX2_nextWork_41 rfl rfl (by decide) (lv' := [(0, rf X.2.2 19), (2, .int (x2 + 1))]) [1, 0] rfl ?_
  refine g_goto F (tgt := 2) dX2_nextWork_44 (by decide) ?_
  exact hk2 (x2 + 1) s0 h
set_option maxRecDepth 20000 in
theorem wX2_nextWork_47 {X : Cx} (F : Fx true X cX2_nextWork RX2 3 1 22) {res : Int32 × SS} (R : RI true X cX2_nextWork 3 res) {N : Nat} : ∀ (x2 : Int32) (s0 : SS), fX2_nextWork_47 N x2 s0 = some res → G true X 3 47 [(2, .int x2)] [] s0 := by
  intro x2 s0 h
  unfold fX2_nextWork_47 at h
  refine g_iload_n F (j := 0) dX2_nextWork_47 rfl rfl ?_
  exact R _ _ _ _ dX2_nextWork_48 h
set_option maxRecDepth 20000 in
theorem wX2_nextWork_2 {X : Cx} (F : Fx true X cX2_nextWork RX2 3 1 22) {res : Int32 × SS} (R : RI true X cX2_nextWork 3 res) {N : Nat} {k2 : Int32 → SS → Option (Int32 × SS)} (hk2 : ∀ (x2 : Int32) (σ : SS), k2 x2 σ = some res → G true X 3 2 [(0, rf X.2.2 19), (2, .int x2)] [] σ) : ∀ (x2 : Int32) (s0 : SS), fX2_nextWork_2 N k2 x2 s0 = some res → G true X 3 2 [(0, rf X.2.2 19), (2, .int x2)] [] s0 := by
  intro x2 s0 h
  unfold fX2_nextWork_2 at h
  refine g_iload_n F (j := 1) dX2_nextWork_2 rfl rfl ?_
  refine g_aload_n F (a := 19) (j := 0) dX2_nextWork_3 rfl rfl ?_
  refine gt_X2_44 F (k := 19) pc19 dX2_nextWork_4 (v := rf X.2.2 1) rfl ?_
  refine gt_X2_75 F (k := 1) pc1 dX2_nextWork_7 (v := .int (s0 1 1)) rfl ?_
  refine g_icmp_ge F (tgt := 47) dX2_nextWork_10 (by decide) h (fun h => ?_) (fun h => ?_)
  · refine g_sub (lv' := [(2, .int x2)]) [1] rfl ?_
    exact wX2_nextWork_47 F R x2 s0 h
  · refine g_aload_n F (a := 19) (j := 0) dX2_nextWork_13 rfl rfl ?_
    refine gt_X2_48 F (k := 19) pc19 dX2_nextWork_14 (v := rf X.2.2 13) rfl ?_
    refine gt_X2_90 F (k := 13) pc13 dX2_nextWork_17 (v := rf X.2.2 14) rfl ?_
    refine g_iload_n F (j := 1) dX2_nextWork_20 rfl rfl ?_
    refine g_iald F (k := 14) pc14 dX2_nextWork_21 h (fun h => ?_)
    refine g_iconst F (v := (-1)) dX2_nextWork_22 (by decide) ?_
    refine g_icmp_eq F (tgt := 41) dX2_nextWork_23 (by decide) h (fun h => ?_) (fun h => ?_)
    · exact wX2_nextWork_41 F R hk2 x2 s0 h
    · refine g_aload_n F (a := 19) (j := 0) dX2_nextWork_26 rfl rfl ?_
      refine gt_X2_44 F (k := 19) pc19 dX2_nextWork_27 (v := rf X.2.2 1) rfl ?_
      refine g_iload_n F (j := 1) dX2_nextWork_30 rfl rfl ?_
      refine g_aload_n F (a := 19) (j := 0) dX2_nextWork_31 rfl rfl ?_
      refine gt_X2_41 F (k := 19) pc19 dX2_nextWork_32 (v := .int (s0 19 12)) rfl ?_
      refine g_vi F (k := 1) (As := [.int x2, .int (s0 19 12)]) (rest := []) (fun _ q => mX3_endsBy N F.inj  q) mw_X3_endsBy ml_X2_109 rfl ⟨Nat.le_of_ble_eq_true rfl, Nat.le_of_ble_eq_true rfl⟩ pc1 cl3 rfl (Nat.le_of_ble_eq_true rfl) dX2_nextWork_35 h (fun v1 s1 h => ?_)
      refine g_ifeq F (tgt := 47) dX2_nextWork_38 (by decide) h (fun h => ?_) (fun h => ?_)
      · refine g_sub (lv' := [(2, .int x2)]) [1] rfl ?_
        exact wX2_nextWork_47 F R x2 s1 h
      · exact wX2_nextWork_41 F R hk2 x2 s1 h
theorem wX2_nextWork_2_lp {X : Cx} (F : Fx true X cX2_nextWork RX2 3 1 22) {res : Int32 × SS} (R : RI true X cX2_nextWork 3 res) {N : Nat} : ∀ (n : Nat) (x2 : Int32) (s0 : SS), lp (fX2_nextWork_2 N) (fun _ _ => none) n x2 s0 = some res → G true X 3 2 [(0, rf X.2.2 19), (2, .int x2)] [] s0 := by
  intro n
  induction n with
  | zero => intro x2 s0 h; cases (show (none : Option (Int32 × SS)) = some res from h)
  | succ n ih => intro x2 s0 h; exact wX2_nextWork_2 F R ih x2 s0 h
set_option maxRecDepth 20000 in
theorem wX2_nextWork_e {X : Cx} (F : Fx true X cX2_nextWork RX2 3 1 22) {res : Int32 × SS} (R : RI true X cX2_nextWork 3 res) {N : Nat} : ∀ (a1 : Int32) (s0 : SS), fX2_nextWork N a1 s0 = some res → G true X 3 0 [(0, rf X.2.2 19), (1, .int a1)] [] s0 := by
  intro a1 s0 h
  unfold fX2_nextWork at h
  refine g_iload_n F (j := 1) dX2_nextWork_0 rfl rfl ?_
  refine g_istore_n F dX2_nextWork_1 rfl (by decide) (lv' := [(0, rf X.2.2 19), (2, .int a1)]) [1, 0] rfl ?_
  exact wX2_nextWork_2_lp F R N a1 s0 h
theorem mX2_nextWork {l : Launch} {w : Wd} (N : Nat) (hi : inj true w)  {res : Int32 × SS} {a1 : Int32} {s0 : SS} (h : fX2_nextWork N a1 s0 = some res) : MI true l yX2_nextWork cX2_nextWork 3 (some .int) { frames := 1, cells := 0, slots := 0, locals := 22 } w [rf w 19, .int a1] s0 res := by
  refine mk_i (by decide) hi (Nat.le_of_ble_eq_true rfl) (fun X hX hL F R => ?_)
  subst hX; subst hL
  exact wX2_nextWork_e F R a1 s0 h
set_option maxRecDepth 20000 in
theorem wX2_keep_72 {X : Cx} (F : Fx true X cX2_keep RX2 2 1 40) {res : SS} (R : RV true X cX2_keep 2 res) {N : Nat} : ∀  (s0 : SS), fX2_keep_72 N s0 = some res → G true X 2 72 [] [] s0 := by
  intro  s0 h
  unfold fX2_keep_72 at h
  exact R _ _ _ dX2_keep_72 h
set_option maxRecDepth 20000 in
theorem wX2_keep_61 {X : Cx} (F : Fx true X cX2_keep RX2 2 1 40) {res : SS} (R : RV true X cX2_keep 2 res) {N : Nat} : ∀  (s0 : SS), fX2_keep_61 N s0 = some res → G true X 2 61 [(0, rf X.2.2 19)] [] s0 := by
  intro  s0 h
  unfold fX2_keep_61 at h
  refine g_aload_n F (a := 19) (j := 0) dX2_keep_61 rfl rfl ?_
  refine g_aload_n F (a := 19) (j := 0) dX2_keep_62 rfl rfl ?_
  refine gt_X2_57 F (k := 19) pc19 dX2_keep_63 (v := rf X.2.2 21) rfl ?_
  refine gt_X2_122 F (k := 21) pc21 dX2_keep_66 (v := .int (s0 21 6)) rfl ?_
  refine pt_X2_26 F (k := 19) pc19 (Nat.le_of_ble_eq_true rfl) rfl dX2_keep_69 h (fun s1 h => ?_)
  refine g_sub (lv' := []) [] rfl ?_
  exact wX2_keep_72 F R s1 h
set_option maxRecDepth 20000 in
theorem wX2_keep_39 {X : Cx} (F : Fx true X cX2_keep RX2 2 1 40) {res : SS} (R : RV true X cX2_keep 2 res) {N : Nat} : ∀  (s0 : SS), fX2_keep_39 N s0 = some res → G true X 2 39 [(0, rf X.2.2 19)] [] s0 := by
  intro  s0 h
  unfold fX2_keep_39 at h
  refine g_aload_n F (a := 19) (j := 0) dX2_keep_39 rfl rfl ?_
  refine gt_X2_26 F (k := 19) pc19 dX2_keep_40 (v := .int (s0 19 7)) rfl ?_
  refine g_iconst F (v := (-1)) dX2_keep_43 (by decide) ?_
  refine g_icmp_eq F (tgt := 61) dX2_keep_44 (by decide) h (fun h => ?_) (fun h => ?_)
  · exact wX2_keep_61 F R s0 h
  · refine g_aload_n F (a := 19) (j := 0) dX2_keep_47 rfl rfl ?_
    refine gt_X2_57 F (k := 19) pc19 dX2_keep_48 (v := rf X.2.2 21) rfl ?_
    refine gt_X2_122 F (k := 21) pc21 dX2_keep_51 (v := .int (s0 21 6)) rfl ?_
    refine g_aload_n F (a := 19) (j := 0) dX2_keep_54 rfl rfl ?_
    refine gt_X2_26 F (k := 19) pc19 dX2_keep_55 (v := .int (s0 19 7)) rfl ?_
    refine g_icmp_ge F (tgt := 72) dX2_keep_58 (by decide) h (fun h => ?_) (fun h => ?_)
    · refine g_sub (lv' := []) [] rfl ?_
      exact wX2_keep_72 F R s0 h
    · exact wX2_keep_61 F R s0 h
set_option maxRecDepth 20000 in
theorem wX2_keep_16 {X : Cx} (F : Fx true X cX2_keep RX2 2 1 40) {res : SS} (R : RV true X cX2_keep 2 res) {N : Nat} : ∀ (x1 : Int32) (s0 : SS), fX2_keep_16 N x1 s0 = some res → G true X 2 16 [(0, rf X.2.2 19), (1, .int x1)] [] s0 := by
  intro x1 s0 h
  unfold fX2_keep_16 at h
  refine g_aload_n F (a := 19) (j := 0) dX2_keep_16 rfl rfl ?_
  refine g_iload_n F (j := 1) dX2_keep_17 rfl rfl ?_
  refine pt_X2_23 F (k := 19) pc19 (Nat.le_of_ble_eq_true rfl) rfl dX2_keep_18 h (fun s1 h => ?_)
  refine g_aload_n F (a := 19) (j := 0) dX2_keep_21 rfl rfl ?_
  refine gt_X2_57 F (k := 19) pc19 dX2_keep_22 (v := rf X.2.2 21) rfl ?_
  refine gt_X2_90 F (k := 21) pc21 dX2_keep_25 (v := rf X.2.2 22) rfl ?_
  refine g_iconst F (v := 0) dX2_keep_28 (by decide) ?_
  refine g_aload_n F (a := 19) (j := 0) dX2_keep_29 rfl rfl ?_
  refine gt_X2_9 F (k := 19) pc19 dX2_keep_30 (v := rf X.2.2 20) rfl ?_
  refine g_iconst F (v := 0) dX2_keep_33 (by decide) ?_
  refine g_bipush F (v := 8) dX2_keep_34 (by decide) ?_
  refine g_acp F (k0 := 22) (k1 := 20) pc22 pc20 (nn := 8) (by decide) (by decide) (by decide) (by decide) (by decide +kernel) acp_X2 dX2_keep_36 h (fun s2 h => ?_)
  refine g_sub (lv' := [(0, rf X.2.2 19)]) [0] rfl ?_
  exact wX2_keep_39 F R s2 h
set_option maxRecDepth 20000 in
theorem wX2_keep_e {X : Cx} (F : Fx true X cX2_keep RX2 2 1 40) {res : SS} (R : RV true X cX2_keep 2 res) {N : Nat} : ∀ (a1 : Int32) (s0 : SS), fX2_keep N a1 s0 = some res → G true X 2 0 [(0, rf X.2.2 19), (1, .int a1)] [] s0 := by
  intro a1 s0 h
  unfold fX2_keep at h
  refine g_aload_n F (a := 19) (j := 0) dX2_keep_0 rfl rfl ?_
  refine gt_X2_23 F (k := 19) pc19 dX2_keep_1 (v := .int (s0 19 6)) rfl ?_
  refine g_iconst F (v := (-1)) dX2_keep_4 (by decide) ?_
  refine g_icmp_eq F (tgt := 16) dX2_keep_5 (by decide) h (fun h => ?_) (fun h => ?_)
  · exact wX2_keep_16 F R a1 s0 h
  · refine g_iload_n F (j := 1) dX2_keep_8 rfl rfl ?_
    refine g_aload_n F (a := 19) (j := 0) dX2_keep_9 rfl rfl ?_
    refine gt_X2_23 F (k := 19) pc19 dX2_keep_10 (v := .int (s0 19 6)) rfl ?_
    refine g_icmp_ge F (tgt := 39) dX2_keep_13 (by decide) h (fun h => ?_) (fun h => ?_)
    · refine g_sub (lv' := [(0, rf X.2.2 19)]) [0] rfl ?_
      exact wX2_keep_39 F R s0 h
    · exact wX2_keep_16 F R a1 s0 h
theorem mX2_keep {l : Launch} {w : Wd} (N : Nat) (hi : inj true w)  {res : SS} {a1 : Int32} {s0 : SS} (h : fX2_keep N a1 s0 = some res) : MV true l yX2_keep cX2_keep 2 none { frames := 1, cells := 0, slots := 0, locals := 40 } w [rf w 19, .int a1] s0 res := by
  refine mk_v (by decide) hi (Nat.le_of_ble_eq_true rfl) (fun X hX hL F R => ?_)
  subst hX; subst hL
  exact wX2_keep_e F R a1 s0 h
set_option maxRecDepth 20000 in
theorem wX2_countTry_e {X : Cx} (F : Fx true X cX2_countTry RX2 1 0 0) {res : Int32 × SS} (R : RZ true X cX2_countTry 1 res) {N : Nat} : ∀  (s0 : SS), fX2_countTry N s0 = some res → G true X 1 0 [(0, rf X.2.2 19)] [] s0 := by
  intro  s0 h
  unfold fX2_countTry at h
  refine g_aload_n F (a := 19) (j := 0) dX2_countTry_0 rfl rfl ?_
  refine gt_X2_15 F (k := 19) pc19 dX2_countTry_1 (v := .int (s0 19 4)) rfl ?_
  refine g_ldc F (inr_17 _ (List.mem_of_getElem? (i := 8) rfl)) dX2_countTry_4 ?_
  refine g_icmp_lt F (tgt := 16) dX2_countTry_6 (by decide) h (fun h => ?_) (fun h => ?_)
  · refine g_aload_n F (a := 19) (j := 0) dX2_countTry_16 rfl rfl ?_
    refine g_dupr F dX2_countTry_17 ?_
    refine gt_X2_15 F (k := 19) pc19 dX2_countTry_18 (v := .int (s0 19 4)) rfl ?_
    refine g_iconst F (v := 1) dX2_countTry_21 (by decide) ?_
    refine g_iadd F dX2_countTry_22 ?_
    refine pt_X2_15 F (k := 19) pc19 (Nat.le_of_ble_eq_true rfl) rfl dX2_countTry_23 h (fun s1 h => ?_)
    refine g_iconst F (v := 1) dX2_countTry_26 (by decide) ?_
    exact R _ _ _ _ dX2_countTry_27 h
  · refine g_aload_n F (a := 19) (j := 0) dX2_countTry_9 rfl rfl ?_
    refine g_iconst F (v := 1) dX2_countTry_10 (by decide) ?_
    refine pt_X2_19 F (k := 19) pc19 (Nat.le_of_ble_eq_true rfl) rfl dX2_countTry_11 (by decide) h (fun s2 h => ?_)
    refine g_iconst F (v := 0) dX2_countTry_14 (by decide) ?_
    exact R _ _ _ _ dX2_countTry_15 h
theorem mX2_countTry {l : Launch} {w : Wd} (N : Nat) (hi : inj true w)  {res : Int32 × SS} {s0 : SS} (h : fX2_countTry N s0 = some res) : MI true l yX2_countTry cX2_countTry 1 (some .boolean) { frames := 0, cells := 0, slots := 0, locals := 0 } w [rf w 19] s0 res := by
  refine mk_z (by decide) hi (Nat.le_of_ble_eq_true rfl) (fun X hX hL F R => ?_)
  subst hX; subst hL
  exact wX2_countTry_e F R  s0 h
set_option maxRecDepth 20000 in
theorem wX2_giveFrom_176 {X : Cx} {d : Nat} (F : Fx true X cX2_giveFrom RX2 7 (2 + (d + 1)) (61 + 26 * (d + 1))) {res : SS} (R : RV true X cX2_giveFrom 7 res) {N : Nat} {self : Int32 → Int32 → SS → Option (SS)} (hself : ∀ z1 z2 σ res, self z1 z2 σ = some res → MV true X.1.2.1 yX2_giveFrom cX2_giveFrom 7 none { frames := 2 + d, cells := 0, slots := 0, locals := 61 + 26 * d } X.2.2 [rf X.2.2 19, .int z1, .int z2] σ res) {k46 : Int32 → Int32 → Int32 → Int32 → SS → Option (SS)} (hk46 : ∀ (x2 : Int32) (x3 : Int32) (x4 : Int32) (x5 : Int32) (σ : SS), k46 x2 x3 x4 x5 σ = some res → G true X 7 46 [(0, rf X.2.2 19), (2, .int x2), (3, .int x3), (4, .int x4), (5, .int x5)] [] σ) : ∀ (x2 : Int32) (x3 : Int32) (x4 : Int32) (x5 : Int32) (s0 : SS), fX2_giveFrom_176 N self k46 x2 x3 x4 x5 s0 = some res → G true X 7 176 [(0, rf X.2.2 19), (2, .int x2), (3, .int x3), (4, .int x4), (5, .int x5)] [] s0 := by
  intro x2 x3 x4 x5 s0 h
  unfold fX2_giveFrom_176 at h
  refine g_iinc F (j := 4) (v := x5 + 1) dX2_giveFrom_176 rfl rfl (by decide) (lv' := [(0, rf X.2.2 19), (2, .int x2), (3, .int x3), (4, .int x4), (5, .int (x5 + 1))]) [1, 2, 3, 4, 0] rfl ?_
  refine g_goto F (tgt := 46) dX2_giveFrom_179 (by decide) ?_
  exact hk46 x2 x3 x4 (x5 + 1) s0 h
set_option maxRecDepth 20000 in
theorem wX2_giveFrom_168 {X : Cx} {d : Nat} (F : Fx true X cX2_giveFrom RX2 7 (2 + (d + 1)) (61 + 26 * (d + 1))) {res : SS} (R : RV true X cX2_giveFrom 7 res) {N : Nat} {self : Int32 → Int32 → SS → Option (SS)} (hself : ∀ z1 z2 σ res, self z1 z2 σ = some res → MV true X.1.2.1 yX2_giveFrom cX2_giveFrom 7 none { frames := 2 + d, cells := 0, slots := 0, locals := 61 + 26 * d } X.2.2 [rf X.2.2 19, .int z1, .int z2] σ res) {k46 : Int32 → Int32 → Int32 → Int32 → SS → Option (SS)} (hk46 : ∀ (x2 : Int32) (x3 : Int32) (x4 : Int32) (x5 : Int32) (σ : SS), k46 x2 x3 x4 x5 σ = some res → G true X 7 46 [(0, rf X.2.2 19), (2, .int x2), (3, .int x3), (4, .int x4), (5, .int x5)] [] σ) : ∀ (x2 : Int32) (x3 : Int32) (x4 : Int32) (x5 : Int32) (s0 : SS), fX2_giveFrom_168 N self k46 x2 x3 x4 x5 s0 = some res → G true X 7 168 [(0, rf X.2.2 19), (2, .int x2), (3, .int x3), (4, .int x4), (5, .int x5)] [] s0 := by
  intro x2 x3 x4 x5 s0 h
  unfold fX2_giveFrom_168 at h
  refine g_aload_n F (a := 19) (j := 0) dX2_giveFrom_168 rfl rfl ?_
  refine gt_X2_57 F (k := 19) pc19 dX2_giveFrom_169 (v := rf X.2.2 21) rfl ?_
  refine g_iload_n F (j := 2) dX2_giveFrom_172 rfl rfl ?_
  refine g_vv F (k := 21) (As := [.int x3]) (rest := []) (fun _ q => mX1_remove N F.inj row21 q) mw_X1_remove ml_X2_106 rfl ⟨by omega, by omega⟩ pc21 cl1 rfl (Nat.le_of_ble_eq_true rfl) dX2_giveFrom_173 h (fun s1 h => ?_)
  exact wX2_giveFrom_176 F R hself hk46 x2 x3 x4 x5 s1 h
set_option maxRecDepth 20000 in
theorem wX2_giveFrom_165 {X : Cx} {d : Nat} (F : Fx true X cX2_giveFrom RX2 7 (2 + (d + 1)) (61 + 26 * (d + 1))) {res : SS} (R : RV true X cX2_giveFrom 7 res) {N : Nat} {self : Int32 → Int32 → SS → Option (SS)} (hself : ∀ z1 z2 σ res, self z1 z2 σ = some res → MV true X.1.2.1 yX2_giveFrom cX2_giveFrom 7 none { frames := 2 + d, cells := 0, slots := 0, locals := 61 + 26 * d } X.2.2 [rf X.2.2 19, .int z1, .int z2] σ res) {k46 : Int32 → Int32 → Int32 → Int32 → SS → Option (SS)} (hk46 : ∀ (x2 : Int32) (x3 : Int32) (x4 : Int32) (x5 : Int32) (σ : SS), k46 x2 x3 x4 x5 σ = some res → G true X 7 46 [(0, rf X.2.2 19), (2, .int x2), (3, .int x3), (4, .int x4), (5, .int x5)] [] σ) : ∀ (x2 : Int32) (x3 : Int32) (x4 : Int32) (x5 : Int32) (t0 : Int32) (t1 : Int32) (s0 : SS), fX2_giveFrom_165 N self k46 x2 x3 x4 x5 t0 t1 s0 = some res → G true X 7 165 [(0, rf X.2.2 19), (2, .int x2), (3, .int x3), (4, .int x4), (5, .int x5)] [.int t0, .int t1, rf X.2.2 19] s0 := by
  intro x2 x3 x4 x5 t0 t1 s0 h
  unfold fX2_giveFrom_165 at h
  refine g_vv F (k := 19) (As := [.int t1, .int t0]) (rest := []) (fun _ q => hself _ _ _ _ q) mw_X2_giveFrom ml_X2_67 rfl ⟨by omega, by omega⟩ pc19 cl2 rfl (Nat.le_of_ble_eq_true rfl) dX2_giveFrom_165 h (fun s1 h => ?_)
  exact wX2_giveFrom_168 F R hself hk46 x2 x3 x4 x5 s1 h
set_option maxRecDepth 20000 in
theorem wX2_giveFrom_164 {X : Cx} {d : Nat} (F : Fx true X cX2_giveFrom RX2 7 (2 + (d + 1)) (61 + 26 * (d + 1))) {res : SS} (R : RV true X cX2_giveFrom 7 res) {N : Nat} {self : Int32 → Int32 → SS → Option (SS)} (hself : ∀ z1 z2 σ res, self z1 z2 σ = some res → MV true X.1.2.1 yX2_giveFrom cX2_giveFrom 7 none { frames := 2 + d, cells := 0, slots := 0, locals := 61 + 26 * d } X.2.2 [rf X.2.2 19, .int z1, .int z2] σ res) {k46 : Int32 → Int32 → Int32 → Int32 → SS → Option (SS)} (hk46 : ∀ (x2 : Int32) (x3 : Int32) (x4 : Int32) (x5 : Int32) (σ : SS), k46 x2 x3 x4 x5 σ = some res → G true X 7 46 [(0, rf X.2.2 19), (2, .int x2), (3, .int x3), (4, .int x4), (5, .int x5)] [] σ) : ∀ (x2 : Int32) (x3 : Int32) (x4 : Int32) (x5 : Int32) (t0 : Int32) (s0 : SS), fX2_giveFrom_164 N self k46 x2 x3 x4 x5 t0 s0 = some res → G true X 7 164 [(0, rf X.2.2 19), (2, .int x2), (3, .int x3), (4, .int x4), (5, .int x5)] [.int t0, rf X.2.2 19] s0 := by
  intro x2 x3 x4 x5 t0 s0 h
  unfold fX2_giveFrom_164 at h
  refine g_iload_n F (j := 1) dX2_giveFrom_164 rfl rfl ?_
  exact wX2_giveFrom_165 F R hself hk46 x2 x3 x4 x5 x2 t0 s0 h
set_option maxRecDepth 20000 in
theorem wX2_giveFrom_104 {X : Cx} {d : Nat} (F : Fx true X cX2_giveFrom RX2 7 (2 + (d + 1)) (61 + 26 * (d + 1))) {res : SS} (R : RV true X cX2_giveFrom 7 res) {N : Nat} {self : Int32 → Int32 → SS → Option (SS)} (hself : ∀ z1 z2 σ res, self z1 z2 σ = some res → MV true X.1.2.1 yX2_giveFrom cX2_giveFrom 7 none { frames := 2 + d, cells := 0, slots := 0, locals := 61 + 26 * d } X.2.2 [rf X.2.2 19, .int z1, .int z2] σ res) {k46 : Int32 → Int32 → Int32 → Int32 → SS → Option (SS)} (hk46 : ∀ (x2 : Int32) (x3 : Int32) (x4 : Int32) (x5 : Int32) (σ : SS), k46 x2 x3 x4 x5 σ = some res → G true X 7 46 [(0, rf X.2.2 19), (2, .int x2), (3, .int x3), (4, .int x4), (5, .int x5)] [] σ) : ∀ (x2 : Int32) (x3 : Int32) (x4 : Int32) (x5 : Int32) (x6 : Int32) (s0 : SS), fX2_giveFrom_104 N self k46 x2 x3 x4 x5 x6 s0 = some res → G true X 7 104 [(0, rf X.2.2 19), (2, .int x2), (3, .int x3), (4, .int x4), (5, .int x5), (6, .int x6)] [] s0 := by
  intro x2 x3 x4 x5 x6 s0 h
  unfold fX2_giveFrom_104 at h
  refine g_aload_n F (a := 19) (j := 0) dX2_giveFrom_104 rfl rfl ?_
  refine gt_X2_57 F (k := 19) pc19 dX2_giveFrom_105 (v := rf X.2.2 21) rfl ?_
  refine g_iload_n F (j := 2) dX2_giveFrom_108 rfl rfl ?_
  refine g_iload F (j := 4) dX2_giveFrom_109 rfl ?_
  refine g_vi F (k := 21) (As := [.int x3, .int x5]) (rest := []) (fun _ q => mX1_takes N F.inj row21 q) mw_X1_takes ml_X2_96 rfl ⟨by omega, by omega⟩ pc21 cl1 rfl (Nat.le_of_ble_eq_true rfl) dX2_giveFrom_111 h (fun v1 s1 h => ?_)
  refine g_ifne F (tgt := 120) dX2_giveFrom_114 (by decide) h (fun h => ?_) (fun h => ?_)
  · refine g_goto F (tgt := 176) dX2_giveFrom_117 (by decide) ?_
    refine g_sub (lv' := [(0, rf X.2.2 19), (2, .int x2), (3, .int x3), (4, .int x4), (5, .int x5)]) [0, 1, 2, 3, 4] rfl ?_
    exact wX2_giveFrom_176 F R hself hk46 x2 x3 x4 x5 s1 h
  · refine g_aload_n F (a := 19) (j := 0) dX2_giveFrom_120 rfl rfl ?_
    refine gt_X2_57 F (k := 19) pc19 dX2_giveFrom_121 (v := rf X.2.2 21) rfl ?_
    refine g_iload_n F (j := 2) dX2_giveFrom_124 rfl rfl ?_
    refine g_iload F (j := 4) dX2_giveFrom_125 rfl ?_
    refine g_vv F (k := 21) (As := [.int x3, .int x5]) (rest := []) (fun _ q => mX1_put N F.inj row21 q) mw_X1_put ml_X2_100 rfl ⟨by omega, by omega⟩ pc21 cl1 rfl (Nat.le_of_ble_eq_true rfl) dX2_giveFrom_127 h (fun s2 h => ?_)
    refine g_aload_n F (a := 19) (j := 0) dX2_giveFrom_130 rfl rfl ?_
    refine g_vi F (k := 19) (As := []) (rest := []) (fun _ q => mX2_goalHolds N F.inj  q) mw_X2_goalHolds ml_X2_63 rfl ⟨by omega, by omega⟩ pc19 cl2 rfl (Nat.le_of_ble_eq_true rfl) dX2_giveFrom_131 h (fun v3 s3 h => ?_)
    refine g_ifeq F (tgt := 168) dX2_giveFrom_134 (by decide) h (fun h => ?_) (fun h => ?_)
    · refine g_sub (lv' := [(0, rf X.2.2 19), (2, .int x2), (3, .int x3), (4, .int x4), (5, .int x5)]) [0, 1, 2, 3, 4] rfl ?_
      exact wX2_giveFrom_168 F R hself hk46 x2 x3 x4 x5 s3 h
    · refine g_aload_n F (a := 19) (j := 0) dX2_giveFrom_137 rfl rfl ?_
      refine g_vi F (k := 19) (As := []) (rest := []) (fun _ q => mX2_countTry N F.inj  q) mw_X2_countTry ml_X2_103 rfl ⟨by omega, by omega⟩ pc19 cl2 rfl (Nat.le_of_ble_eq_true rfl) dX2_giveFrom_138 h (fun v4 s4 h => ?_)
      refine g_ifeq F (tgt := 168) dX2_giveFrom_141 (by decide) h (fun h => ?_) (fun h => ?_)
      · refine g_sub (lv' := [(0, rf X.2.2 19), (2, .int x2), (3, .int x3), (4, .int x4), (5, .int x5)]) [0, 1, 2, 3, 4] rfl ?_
        exact wX2_giveFrom_168 F R hself hk46 x2 x3 x4 x5 s4 h
      · refine g_aload_n F (a := 19) (j := 0) dX2_giveFrom_144 rfl rfl ?_
        refine g_iload_n F (j := 2) dX2_giveFrom_145 rfl rfl ?_
        refine g_iconst F (v := 1) dX2_giveFrom_146 (by decide) ?_
        refine g_iadd F dX2_giveFrom_147 ?_
        refine g_iload F (j := 3) dX2_giveFrom_148 rfl ?_
        refine g_ifeq F (tgt := 164) dX2_giveFrom_150 (by decide) h (fun h => ?_) (fun h => ?_)
        · refine g_sub (lv' := [(0, rf X.2.2 19), (2, .int x2), (3, .int x3), (4, .int x4), (5, .int x5)]) [0, 1, 2, 3, 4] rfl ?_
          exact wX2_giveFrom_164 F R hself hk46 x2 x3 x4 x5 (x3 + 1) s4 h
        · refine g_iload F (j := 5) dX2_giveFrom_153 rfl ?_
          refine g_ifeq F (tgt := 164) dX2_giveFrom_155 (by decide) h (fun h => ?_) (fun h => ?_)
          · refine g_sub (lv' := [(0, rf X.2.2 19), (2, .int x2), (3, .int x3), (4, .int x4), (5, .int x5)]) [0, 1, 2, 3, 4] rfl ?_
            exact wX2_giveFrom_164 F R hself hk46 x2 x3 x4 x5 (x3 + 1) s4 h
          · refine g_iload_n F (j := 1) dX2_giveFrom_158 rfl rfl ?_
            refine g_iconst F (v := 1) dX2_giveFrom_159 (by decide) ?_
            refine g_iadd F dX2_giveFrom_160 ?_
            refine g_goto F (tgt := 165) dX2_giveFrom_161 (by decide) ?_
            refine g_sub (lv' := [(0, rf X.2.2 19), (2, .int x2), (3, .int x3), (4, .int x4), (5, .int x5)]) [0, 1, 2, 3, 4] rfl ?_
            exact wX2_giveFrom_165 F R hself hk46 x2 x3 x4 x5 (x2 + 1) (x3 + 1) s4 h
set_option maxRecDepth 20000 in
theorem wX2_giveFrom_84 {X : Cx} {d : Nat} (F : Fx true X cX2_giveFrom RX2 7 (2 + (d + 1)) (61 + 26 * (d + 1))) {res : SS} (R : RV true X cX2_giveFrom 7 res) {N : Nat} {self : Int32 → Int32 → SS → Option (SS)} (hself : ∀ z1 z2 σ res, self z1 z2 σ = some res → MV true X.1.2.1 yX2_giveFrom cX2_giveFrom 7 none { frames := 2 + d, cells := 0, slots := 0, locals := 61 + 26 * d } X.2.2 [rf X.2.2 19, .int z1, .int z2] σ res) {k46 : Int32 → Int32 → Int32 → Int32 → SS → Option (SS)} (hk46 : ∀ (x2 : Int32) (x3 : Int32) (x4 : Int32) (x5 : Int32) (σ : SS), k46 x2 x3 x4 x5 σ = some res → G true X 7 46 [(0, rf X.2.2 19), (2, .int x2), (3, .int x3), (4, .int x4), (5, .int x5)] [] σ) : ∀ (x2 : Int32) (x3 : Int32) (x4 : Int32) (x5 : Int32) (t0 : Int32) (s0 : SS), fX2_giveFrom_84 N self k46 x2 x3 x4 x5 t0 s0 = some res → G true X 7 84 [(0, rf X.2.2 19), (2, .int x2), (3, .int x3), (4, .int x4), (5, .int x5)] [.int t0] s0 := by
  intro x2 x3 x4 x5 t0 s0 h
  unfold fX2_giveFrom_84 at h
  refine g_istore F dX2_giveFrom_84 (by decide) (lv' := [(0, rf X.2.2 19), (2, .int x2), (3, .int x3), (4, .int x4), (5, .int x5), (6, .int t0)]) [1, 2, 3, 4, 5, 0] rfl ?_
  refine g_aload_n F (a := 19) (j := 0) dX2_giveFrom_86 rfl rfl ?_
  refine gt_X2_44 F (k := 19) pc19 dX2_giveFrom_87 (v := rf X.2.2 1) rfl ?_
  refine gt_X2_93 F (k := 1) pc1 dX2_giveFrom_90 (v := rf X.2.2 6) rfl ?_
  refine g_iload_n F (j := 2) dX2_giveFrom_93 rfl rfl ?_
  refine g_iald F (k := 6) pc6 dX2_giveFrom_94 h (fun h => ?_)
  refine g_iconst F (v := 3) dX2_giveFrom_95 (by decide) ?_
  refine g_icmp_ne F (tgt := 104) dX2_giveFrom_96 (by decide) h (fun h => ?_) (fun h => ?_)
  · refine g_iload F (j := 5) dX2_giveFrom_99 rfl ?_
    refine g_ifne F (tgt := 176) dX2_giveFrom_101 (by decide) h (fun h => ?_) (fun h => ?_)
    · exact wX2_giveFrom_104 F R hself hk46 x2 x3 x4 x5 t0 s0 h
    · refine g_sub (lv' := [(0, rf X.2.2 19), (2, .int x2), (3, .int x3), (4, .int x4), (5, .int x5)]) [0, 1, 2, 3, 4] rfl ?_
      exact wX2_giveFrom_176 F R hself hk46 x2 x3 x4 x5 s0 h
  · exact wX2_giveFrom_104 F R hself hk46 x2 x3 x4 x5 t0 s0 h
set_option maxRecDepth 20000 in
theorem wX2_giveFrom_182 {X : Cx} {d : Nat} (F : Fx true X cX2_giveFrom RX2 7 (2 + (d + 1)) (61 + 26 * (d + 1))) {res : SS} (R : RV true X cX2_giveFrom 7 res) {N : Nat} {self : Int32 → Int32 → SS → Option (SS)} (hself : ∀ z1 z2 σ res, self z1 z2 σ = some res → MV true X.1.2.1 yX2_giveFrom cX2_giveFrom 7 none { frames := 2 + d, cells := 0, slots := 0, locals := 61 + 26 * d } X.2.2 [rf X.2.2 19, .int z1, .int z2] σ res) : ∀  (s0 : SS), fX2_giveFrom_182 N self s0 = some res → G true X 7 182 [] [] s0 := by
  intro  s0 h
  unfold fX2_giveFrom_182 at h
  exact R _ _ _ dX2_giveFrom_182 h
set_option maxRecDepth 20000 in
theorem wX2_giveFrom_46 {X : Cx} {d : Nat} (F : Fx true X cX2_giveFrom RX2 7 (2 + (d + 1)) (61 + 26 * (d + 1))) {res : SS} (R : RV true X cX2_giveFrom 7 res) {N : Nat} {self : Int32 → Int32 → SS → Option (SS)} (hself : ∀ z1 z2 σ res, self z1 z2 σ = some res → MV true X.1.2.1 yX2_giveFrom cX2_giveFrom 7 none { frames := 2 + d, cells := 0, slots := 0, locals := 61 + 26 * d } X.2.2 [rf X.2.2 19, .int z1, .int z2] σ res) {k46 : Int32 → Int32 → Int32 → Int32 → SS → Option (SS)} (hk46 : ∀ (x2 : Int32) (x3 : Int32) (x4 : Int32) (x5 : Int32) (σ : SS), k46 x2 x3 x4 x5 σ = some res → G true X 7 46 [(0, rf X.2.2 19), (2, .int x2), (3, .int x3), (4, .int x4), (5, .int x5)] [] σ) : ∀ (x2 : Int32) (x3 : Int32) (x4 : Int32) (x5 : Int32) (s0 : SS), fX2_giveFrom_46 N self k46 x2 x3 x4 x5 s0 = some res → G true X 7 46 [(0, rf X.2.2 19), (2, .int x2), (3, .int x3), (4, .int x4), (5, .int x5)] [] s0 := by
  intro x2 x3 x4 x5 s0 h
  unfold fX2_giveFrom_46 at h
  refine g_iload F (j := 4) dX2_giveFrom_46 rfl ?_
  refine g_aload_n F (a := 19) (j := 0) dX2_giveFrom_48 rfl rfl ?_
  refine gt_X2_44 F (k := 19) pc19 dX2_giveFrom_49 (v := rf X.2.2 1) rfl ?_
  refine gt_X2_87 F (k := 1) pc1 dX2_giveFrom_52 (v := .int (s0 1 0)) rfl ?_
  refine g_icmp_ge F (tgt := 182) dX2_giveFrom_55 (by decide) h (fun h => ?_) (fun h => ?_)
  · refine g_sub (lv' := []) [] rfl ?_
    exact wX2_giveFrom_182 F R hself s0 h
  · refine g_aload_n F (a := 19) (j := 0) dX2_giveFrom_58 rfl rfl ?_
    refine gt_X2_19 F (k := 19) pc19 dX2_giveFrom_59 (v := .int (s0 19 5)) rfl ?_
    refine g_ifne F (tgt := 182) dX2_giveFrom_62 (by decide) h (fun h => ?_) (fun h => ?_)
    · refine g_iload F (j := 4) dX2_giveFrom_65 rfl ?_
      refine g_aload_n F (a := 19) (j := 0) dX2_giveFrom_67 rfl rfl ?_
      refine gt_X2_48 F (k := 19) pc19 dX2_giveFrom_68 (v := rf X.2.2 13) rfl ?_
      refine gt_X2_90 F (k := 13) pc13 dX2_giveFrom_71 (v := rf X.2.2 14) rfl ?_
      refine g_iload_n F (j := 2) dX2_giveFrom_74 rfl rfl ?_
      refine g_iald F (k := 14) pc14 dX2_giveFrom_75 h (fun h => ?_)
      refine g_icmp_eq F (tgt := 83) dX2_giveFrom_76 (by decide) h (fun h => ?_) (fun h => ?_)
      · refine g_iconst F (v := 0) dX2_giveFrom_83 (by decide) ?_
        exact wX2_giveFrom_84 F R hself hk46 x2 x3 x4 x5 0 s0 h
      · refine g_iconst F (v := 1) dX2_giveFrom_79 (by decide) ?_
        refine g_goto F (tgt := 84) dX2_giveFrom_80 (by decide) ?_
        exact wX2_giveFrom_84 F R hself hk46 x2 x3 x4 x5 1 s0 h
    · refine g_sub (lv' := []) [] rfl ?_
      exact wX2_giveFrom_182 F R hself s0 h
theorem wX2_giveFrom_46_lp {X : Cx} {d : Nat} (F : Fx true X cX2_giveFrom RX2 7 (2 + (d + 1)) (61 + 26 * (d + 1))) {res : SS} (R : RV true X cX2_giveFrom 7 res) {N : Nat} {self : Int32 → Int32 → SS → Option (SS)} (hself : ∀ z1 z2 σ res, self z1 z2 σ = some res → MV true X.1.2.1 yX2_giveFrom cX2_giveFrom 7 none { frames := 2 + d, cells := 0, slots := 0, locals := 61 + 26 * d } X.2.2 [rf X.2.2 19, .int z1, .int z2] σ res) : ∀ (n : Nat) (x2 : Int32) (x3 : Int32) (x4 : Int32) (x5 : Int32) (s0 : SS), lp (fX2_giveFrom_46 N self) (fun _ _ _ _ _ => none) n x2 x3 x4 x5 s0 = some res → G true X 7 46 [(0, rf X.2.2 19), (2, .int x2), (3, .int x3), (4, .int x4), (5, .int x5)] [] s0 := by
  intro n
  induction n with
  | zero => intro x2 x3 x4 x5 s0 h; cases (show (none : Option (SS)) = some res from h)
  | succ n ih => intro x2 x3 x4 x5 s0 h; exact wX2_giveFrom_46 F R hself ih x2 x3 x4 x5 s0 h
set_option maxRecDepth 20000 in
theorem wX2_giveFrom_41 {X : Cx} {d : Nat} (F : Fx true X cX2_giveFrom RX2 7 (2 + (d + 1)) (61 + 26 * (d + 1))) {res : SS} (R : RV true X cX2_giveFrom 7 res) {N : Nat} {self : Int32 → Int32 → SS → Option (SS)} (hself : ∀ z1 z2 σ res, self z1 z2 σ = some res → MV true X.1.2.1 yX2_giveFrom cX2_giveFrom 7 none { frames := 2 + d, cells := 0, slots := 0, locals := 61 + 26 * d } X.2.2 [rf X.2.2 19, .int z1, .int z2] σ res) : ∀ (x2 : Int32) (x3 : Int32) (t0 : Int32) (s0 : SS), fX2_giveFrom_41 N self x2 x3 t0 s0 = some res → G true X 7 41 [(0, rf X.2.2 19), (2, .int x2), (3, .int x3)] [.int t0] s0 := by
  intro x2 x3 t0 s0 h
  unfold fX2_giveFrom_41 at h
  refine g_istore F dX2_giveFrom_41 (by decide) (lv' := [(0, rf X.2.2 19), (2, .int x2), (3, .int x3), (4, .int t0)]) [1, 2, 3, 0] rfl ?_
  refine g_iconst F (v := 0) dX2_giveFrom_43 (by decide) ?_
  refine g_istore F dX2_giveFrom_44 (by decide) (lv' := [(0, rf X.2.2 19), (2, .int x2), (3, .int x3), (4, .int t0), (5, .int 0)]) [1, 2, 3, 4, 0] rfl ?_
  exact wX2_giveFrom_46_lp F R hself N x2 x3 t0 0 s0 h
set_option maxRecDepth 20000 in
theorem wX2_giveFrom_e {X : Cx} {d : Nat} (F : Fx true X cX2_giveFrom RX2 7 (2 + (d + 1)) (61 + 26 * (d + 1))) {res : SS} (R : RV true X cX2_giveFrom 7 res) {N : Nat} {self : Int32 → Int32 → SS → Option (SS)} (hself : ∀ z1 z2 σ res, self z1 z2 σ = some res → MV true X.1.2.1 yX2_giveFrom cX2_giveFrom 7 none { frames := 2 + d, cells := 0, slots := 0, locals := 61 + 26 * d } X.2.2 [rf X.2.2 19, .int z1, .int z2] σ res) : ∀ (a1 : Int32) (a2 : Int32) (s0 : SS), fX2_giveFrom_e N self a1 a2 s0 = some res → G true X 7 0 [(0, rf X.2.2 19), (1, .int a1), (2, .int a2)] [] s0 := by
  intro a1 a2 s0 h
  unfold fX2_giveFrom_e at h
  refine g_aload_n F (a := 19) (j := 0) dX2_giveFrom_0 rfl rfl ?_
  refine g_iload_n F (j := 1) dX2_giveFrom_1 rfl rfl ?_
  refine g_vi F (k := 19) (As := [.int a1]) (rest := []) (fun _ q => mX2_nextWork N F.inj  q) mw_X2_nextWork ml_X2_71 rfl ⟨by omega, by omega⟩ pc19 cl2 rfl (Nat.le_of_ble_eq_true rfl) dX2_giveFrom_2 h (fun v1 s1 h => ?_)
  refine g_istore_n F dX2_giveFrom_5 rfl (by decide) (lv' := [(0, rf X.2.2 19), (2, .int a2), (3, .int v1)]) [1, 3, 0] rfl ?_
  refine g_iload_n F (j := 2) dX2_giveFrom_6 rfl rfl ?_
  refine g_aload_n F (a := 19) (j := 0) dX2_giveFrom_7 rfl rfl ?_
  refine gt_X2_44 F (k := 19) pc19 dX2_giveFrom_8 (v := rf X.2.2 1) rfl ?_
  refine gt_X2_75 F (k := 1) pc1 dX2_giveFrom_11 (v := .int (s1 1 1)) rfl ?_
  refine g_icmp_lt F (tgt := 23) dX2_giveFrom_14 (by decide) h (fun h => ?_) (fun h => ?_)
  · refine g_aload_n F (a := 19) (j := 0) dX2_giveFrom_23 rfl rfl ?_
    refine gt_X2_44 F (k := 19) pc19 dX2_giveFrom_24 (v := rf X.2.2 1) rfl ?_
    refine gt_X2_84 F (k := 1) pc1 dX2_giveFrom_27 (v := rf X.2.2 10) rfl ?_
    refine g_iload_n F (j := 2) dX2_giveFrom_30 rfl rfl ?_
    refine g_iald F (k := 10) pc10 dX2_giveFrom_31 h (fun h => ?_)
    refine g_iload_n F (j := 2) dX2_giveFrom_32 rfl rfl ?_
    refine g_icmp_ne F (tgt := 40) dX2_giveFrom_33 (by decide) h (fun h => ?_) (fun h => ?_)
    · refine g_iconst F (v := 1) dX2_giveFrom_36 (by decide) ?_
      refine g_goto F (tgt := 41) dX2_giveFrom_37 (by decide) ?_
      exact wX2_giveFrom_41 F R hself a2 v1 1 s1 h
    · refine g_iconst F (v := 0) dX2_giveFrom_40 (by decide) ?_
      exact wX2_giveFrom_41 F R hself a2 v1 0 s1 h
  · refine g_aload_n F (a := 19) (j := 0) dX2_giveFrom_17 rfl rfl ?_
    refine g_iload_n F (j := 1) dX2_giveFrom_18 rfl rfl ?_
    refine g_vv F (k := 19) (As := [.int a2]) (rest := []) (fun _ q => mX2_keep N F.inj  q) mw_X2_keep ml_X2_80 rfl ⟨by omega, by omega⟩ pc19 cl2 rfl (Nat.le_of_ble_eq_true rfl) dX2_giveFrom_19 h (fun s2 h => ?_)
    exact R _ _ _ dX2_giveFrom_22 h
theorem mX2_giveFrom {l : Launch} {w : Wd} (N : Nat) : ∀ (d : Nat) (hi : inj true w) {res : SS} {a1 a2 : Int32} {s0 : SS} (h : fX2_giveFrom N d a1 a2 s0 = some res), MV true l yX2_giveFrom cX2_giveFrom 7 none { frames := 2 + d, cells := 0, slots := 0, locals := 61 + 26 * d } w [rf w 19, .int a1, .int a2] s0 res := by
  intro d
  induction d with
  | zero => intro hi res a1 a2 s0 h; cases (show (none : Option (SS)) = some res from h)
  | succ d ih =>
    intro hi res a1 a2 s0 h
    refine mk_v (by decide) hi (Nat.le_of_ble_eq_true rfl) (fun X hX hL F R => ?_)
    subst hX; subst hL
    exact wX2_giveFrom_e (d := d) F R (self := fX2_giveFrom N d) (fun _ _ _ _ q => ih hi q) a1 a2 s0 h
set_option maxRecDepth 20000 in
theorem wX2_run_45 {X : Cx} (F : Fx true X cX2_run RX2 2 13 347) {res : SS} (R : RV true X cX2_run 2 res) {N : Nat} : ∀  (s0 : SS), fX2_run_45 N s0 = some res → G true X 2 45 [] [] s0 := by
  intro  s0 h
  unfold fX2_run_45 at h
  exact R _ _ _ dX2_run_45 h
set_option maxRecDepth 20000 in
theorem wX2_run_e {X : Cx} (F : Fx true X cX2_run RX2 2 13 347) {res : SS} (R : RV true X cX2_run 2 res) {N : Nat} : ∀ (a1 : Int32) (s0 : SS), fX2_run N a1 s0 = some res → G true X 2 0 [(0, rf X.2.2 19), (1, .int a1)] [] s0 := by
  intro a1 s0 h
  unfold fX2_run at h
  refine g_aload_n F (a := 19) (j := 0) dX2_run_0 rfl rfl ?_
  refine g_iload_n F (j := 1) dX2_run_1 rfl rfl ?_
  refine pt_X2_41 F (k := 19) pc19 (Nat.le_of_ble_eq_true rfl) rfl dX2_run_2 h (fun s1 h => ?_)
  refine g_aload_n F (a := 19) (j := 0) dX2_run_5 rfl rfl ?_
  refine g_iconst F (v := 0) dX2_run_6 (by decide) ?_
  refine pt_X2_15 F (k := 19) pc19 (Nat.le_of_ble_eq_true rfl) rfl dX2_run_7 h (fun s2 h => ?_)
  refine g_aload_n F (a := 19) (j := 0) dX2_run_10 rfl rfl ?_
  refine g_iconst F (v := 0) dX2_run_11 (by decide) ?_
  refine pt_X2_19 F (k := 19) pc19 (Nat.le_of_ble_eq_true rfl) rfl dX2_run_12 (by decide) h (fun s3 h => ?_)
  refine g_aload_n F (a := 19) (j := 0) dX2_run_15 rfl rfl ?_
  refine g_iconst F (v := (-1)) dX2_run_16 (by decide) ?_
  refine pt_X2_23 F (k := 19) pc19 (Nat.le_of_ble_eq_true rfl) rfl dX2_run_17 h (fun s4 h => ?_)
  refine g_aload_n F (a := 19) (j := 0) dX2_run_20 rfl rfl ?_
  refine g_iconst F (v := (-1)) dX2_run_21 (by decide) ?_
  refine pt_X2_26 F (k := 19) pc19 (Nat.le_of_ble_eq_true rfl) rfl dX2_run_22 h (fun s5 h => ?_)
  refine g_aload_n F (a := 19) (j := 0) dX2_run_25 rfl rfl ?_
  refine gt_X2_57 F (k := 19) pc19 dX2_run_26 (v := rf X.2.2 21) rfl ?_
  refine g_vv F (k := 21) (As := []) (rest := []) (fun _ q => mX1_clear N F.inj row21 q) mw_X1_clear ml_X2_60 rfl ⟨Nat.le_of_ble_eq_true rfl, Nat.le_of_ble_eq_true rfl⟩ pc21 cl1 rfl (Nat.le_of_ble_eq_true rfl) dX2_run_29 h (fun s6 h => ?_)
  refine g_aload_n F (a := 19) (j := 0) dX2_run_32 rfl rfl ?_
  refine g_vi F (k := 19) (As := []) (rest := []) (fun _ q => mX2_goalHolds N F.inj  q) mw_X2_goalHolds ml_X2_63 rfl ⟨Nat.le_of_ble_eq_true rfl, Nat.le_of_ble_eq_true rfl⟩ pc19 cl2 rfl (Nat.le_of_ble_eq_true rfl) dX2_run_33 h (fun v7 s7 h => ?_)
  refine g_ifeq F (tgt := 45) dX2_run_36 (by decide) h (fun h => ?_) (fun h => ?_)
  · refine g_sub (lv' := []) [] rfl ?_
    exact wX2_run_45 F R s7 h
  · refine g_aload_n F (a := 19) (j := 0) dX2_run_39 rfl rfl ?_
    refine g_iconst F (v := 0) dX2_run_40 (by decide) ?_
    refine g_iconst F (v := 0) dX2_run_41 (by decide) ?_
    refine g_vv F (k := 19) (As := [.int 0, .int 0]) (rest := []) (fun _ q => mX2_giveFrom N 10 F.inj  q) mw_X2_giveFrom ml_X2_67 rfl ⟨Nat.le_of_ble_eq_true rfl, Nat.le_of_ble_eq_true rfl⟩ pc19 cl2 rfl (Nat.le_of_ble_eq_true rfl) dX2_run_42 h (fun s8 h => ?_)
    refine g_sub (lv' := []) [] rfl ?_
    exact wX2_run_45 F R s8 h
theorem mX2_run {l : Launch} {w : Wd} (N : Nat) (hi : inj true w)  {res : SS} {a1 : Int32} {s0 : SS} (h : fX2_run N a1 s0 = some res) : MV true l yX2_run cX2_run 2 none { frames := 13, cells := 0, slots := 0, locals := 347 } w [rf w 19, .int a1] s0 res := by
  refine mk_v (by decide) hi (Nat.le_of_ble_eq_true rfl) (fun X hX hL F R => ?_)
  subst hX; subst hL
  exact wX2_run_e F R a1 s0 h
set_option maxRecDepth 20000 in
theorem wX5_fewest_55 {X : Cx} (F : Fx true X cX5_fewest RX5 1 14 368) {res : Int32 × SS} (R : RI true X cX5_fewest 1 res) {N : Nat} : ∀ (t0 : Int32) (s0 : SS), fX5_fewest_55 N t0 s0 = some res → G true X 1 55 [] [.int t0] s0 := by
  intro t0 s0 h
  unfold fX5_fewest_55 at h
  exact R _ _ _ _ dX5_fewest_55 h
set_option maxRecDepth 20000 in
theorem wX5_fewest_e {X : Cx} (F : Fx true X cX5_fewest RX5 1 14 368) {res : Int32 × SS} (R : RI true X cX5_fewest 1 res) {N : Nat} : ∀  (s0 : SS), fX5_fewest N s0 = some res → G true X 1 0 [(0, rf X.2.2 0)] [] s0 := by
  intro  s0 h
  unfold fX5_fewest at h
  refine g_aload_n F (a := 0) (j := 0) dX5_fewest_0 rfl rfl ?_
  refine gt_X5_30 F (k := 0) pc0 dX5_fewest_1 (v := rf X.2.2 19) rfl ?_
  refine g_iconst F (v := 3) dX5_fewest_4 (by decide) ?_
  refine g_iconst F (v := (-1)) dX5_fewest_5 (by decide) ?_
  refine g_iconst F (v := 0) dX5_fewest_6 (by decide) ?_
  refine g_iconst F (v := 0) dX5_fewest_7 (by decide) ?_
  refine g_vv F (k := 19) (As := [.int 3, .int (-1), .int 0, .int 0]) (rest := []) (fun _ q => mX2_aim N F.inj  q) mw_X2_aim ml_X5_143 rfl ⟨Nat.le_of_ble_eq_true rfl, Nat.le_of_ble_eq_true rfl⟩ pc19 cl2 rfl (Nat.le_of_ble_eq_true rfl) dX5_fewest_8 h (fun s1 h => ?_)
  refine g_aload_n F (a := 0) (j := 0) dX5_fewest_11 rfl rfl ?_
  refine gt_X5_30 F (k := 0) pc0 dX5_fewest_12 (v := rf X.2.2 19) rfl ?_
  refine g_aload_n F (a := 0) (j := 0) dX5_fewest_15 rfl rfl ?_
  refine gt_X5_62 F (k := 0) pc0 dX5_fewest_16 (v := .int (s1 0 8)) rfl ?_
  refine g_vv F (k := 19) (As := [.int (s1 0 8)]) (rest := []) (fun _ q => mX2_run N F.inj  q) mw_X2_run ml_X5_147 rfl ⟨Nat.le_of_ble_eq_true rfl, Nat.le_of_ble_eq_true rfl⟩ pc19 cl2 rfl (Nat.le_of_ble_eq_true rfl) dX5_fewest_19 h (fun s2 h => ?_)
  refine g_aload_n F (a := 0) (j := 0) dX5_fewest_22 rfl rfl ?_
  refine g_aload_n F (a := 0) (j := 0) dX5_fewest_23 rfl rfl ?_
  refine gt_X5_30 F (k := 0) pc0 dX5_fewest_24 (v := rf X.2.2 19) rfl ?_
  refine gt_X5_151 F (k := 19) pc19 dX5_fewest_27 (v := .int (s2 19 4)) rfl ?_
  refine pt_X5_65 F (k := 0) pc0 (Nat.le_of_ble_eq_true rfl) rfl dX5_fewest_30 h (fun s3 h => ?_)
  refine g_aload_n F (a := 0) (j := 0) dX5_fewest_33 rfl rfl ?_
  refine gt_X5_30 F (k := 0) pc0 dX5_fewest_34 (v := rf X.2.2 19) rfl ?_
  refine gt_X5_154 F (k := 19) pc19 dX5_fewest_37 (v := .int (s3 19 5)) rfl ?_
  refine g_ifeq F (tgt := 48) dX5_fewest_40 (by decide) h (fun h => ?_) (fun h => ?_)
  · refine g_aload_n F (a := 0) (j := 0) dX5_fewest_48 rfl rfl ?_
    refine gt_X5_30 F (k := 0) pc0 dX5_fewest_49 (v := rf X.2.2 19) rfl ?_
    refine gt_X5_157 F (k := 19) pc19 dX5_fewest_52 (v := .int (s3 19 7)) rfl ?_
    refine g_sub (lv' := []) [] rfl ?_
    exact wX5_fewest_55 F R (s3 19 7) s3 h
  · refine g_bipush F (v := (-5)) dX5_fewest_43 (by decide) ?_
    refine g_goto F (tgt := 55) dX5_fewest_45 (by decide) ?_
    refine g_sub (lv' := []) [] rfl ?_
    exact wX5_fewest_55 F R (-5) s3 h
theorem mX5_fewest {l : Launch} {w : Wd} (N : Nat) (hi : inj true w)  {res : Int32 × SS} {s0 : SS} (h : fX5_fewest N s0 = some res) : MI true l yX5_fewest cX5_fewest 1 (some .int) { frames := 14, cells := 0, slots := 0, locals := 368 } w [rf w 0] s0 res := by
  refine mk_i (by decide) hi (Nat.le_of_ble_eq_true rfl) (fun X hX hL F R => ?_)
  subst hX; subst hL
  exact wX5_fewest_e F R  s0 h
set_option maxRecDepth 20000 in
theorem wX6_next_34 {X : Cx} (F : Fx false X cX6_next RX6 4 1 22) {res : Int32 × SS} (R : RI false X cX6_next 4 res) {N : Nat} : ∀ (x3 : Int32) (s0 : SS), fX6_next_34 N x3 s0 = some res → G false X 4 34 [(3, .int x3)] [] s0 := by
  intro x3 s0 h
  unfold fX6_next_34 at h
  refine g_iload_n F (j := 0) dX6_next_34 rfl rfl ?_
  exact R _ _ _ _ dX6_next_35 h
set_option maxRecDepth 20000 in
theorem wX6_next_4 {X : Cx} (F : Fx false X cX6_next RX6 4 1 22) {res : Int32 × SS} (R : RI false X cX6_next 4 res) {N : Nat} {k4 : Int32 → Int32 → SS → Option (Int32 × SS)} (hk4 : ∀ (x2 : Int32) (x3 : Int32) (σ : SS), k4 x2 x3 σ = some res → G false X 4 4 [(0, rf X.2.2 0), (2, .int x2), (3, .int x3)] [] σ) : ∀ (x2 : Int32) (x3 : Int32) (s0 : SS), fX6_next_4 N k4 x2 x3 s0 = some res → G false X 4 4 [(0, rf X.2.2 0), (2, .int x2), (3, .int x3)] [] s0 := by
  intro x2 x3 s0 h
  unfold fX6_next_4 at h
  refine g_iload_n F (j := 2) dX6_next_4 rfl rfl ?_
  refine g_iconst F (v := 0) dX6_next_5 (by decide) ?_
  refine g_aload_n F (a := 0) (j := 0) dX6_next_6 rfl rfl ?_
  refine gt_X6_67 F (k := 0) pm0 dX6_next_7 (v := .int (s0 0 3)) rfl ?_
  refine g_iconst F (v := 1) dX6_next_10 (by decide) ?_
  refine g_isub F dX6_next_11 ?_
  refine g_si F (As := [.int x3, .int 0, .int ((s0 0 3) - 1)]) (rest := []) (fun _ q => mX6_in N F.inj  q) mw_X6_in ml_X6_60 rfl ⟨Nat.le_of_ble_eq_true rfl, Nat.le_of_ble_eq_true rfl⟩ rfl (Nat.le_of_ble_eq_true rfl) dX6_next_12 h (fun v1 s1 h => ?_)
  refine g_ifeq F (tgt := 34) dX6_next_15 (by decide) h (fun h => ?_) (fun h => ?_)
  · refine g_sub (lv' := [(3, .int x3)]) [2] rfl ?_
    exact wX6_next_34 F R x3 s1 h
  · refine g_aload_n F (a := 0) (j := 0) dX6_next_18 rfl rfl ?_
    refine gt_X6_31 F (k := 0) pm0 dX6_next_19 (v := rf X.2.2 8) rfl ?_
    refine g_iload_n F (j := 2) dX6_next_22 rfl rfl ?_
    refine g_zald F (k := 8) pm8 dX6_next_23 h (fun h => ?_)
    refine g_ifeq F (tgt := 34) dX6_next_24 (by decide) h (fun h => ?_) (fun h => ?_)
    · refine g_sub (lv' := [(3, .int x3)]) [2] rfl ?_
      exact wX6_next_34 F R x3 s1 h
    · refine g_iload_n F (j := 2) dX6_next_27 rfl rfl ?_
      refine g_iload_n F (j := 1) dX6_next_28 rfl rfl ?_
      refine g_iadd F dX6_next_29 ?_
      refine g_istore_n F dX6_next_30 rfl (by decide) (lv' := [(0, rf X.2.2 0), (2, .int x2), (3, .int (x3 + x2))]) [1, 2, 0] rfl ?_
      refine g_goto F (tgt := 4) dX6_next_31 (by decide) ?_
      exact hk4 x2 (x3 + x2) s1 h
theorem wX6_next_4_lp {X : Cx} (F : Fx false X cX6_next RX6 4 1 22) {res : Int32 × SS} (R : RI false X cX6_next 4 res) {N : Nat} : ∀ (n : Nat) (x2 : Int32) (x3 : Int32) (s0 : SS), lp (fX6_next_4 N) (fun _ _ _ => none) n x2 x3 s0 = some res → G false X 4 4 [(0, rf X.2.2 0), (2, .int x2), (3, .int x3)] [] s0 := by
  intro n
  induction n with
  | zero => intro x2 x3 s0 h; cases (show (none : Option (Int32 × SS)) = some res from h)
  | succ n ih => intro x2 x3 s0 h; exact wX6_next_4 F R ih x2 x3 s0 h
set_option maxRecDepth 20000 in
theorem wX6_next_e {X : Cx} (F : Fx false X cX6_next RX6 4 1 22) {res : Int32 × SS} (R : RI false X cX6_next 4 res) {N : Nat} : ∀ (a1 : Int32) (a2 : Int32) (s0 : SS), fX6_next N a1 a2 s0 = some res → G false X 4 0 [(0, rf X.2.2 0), (1, .int a1), (2, .int a2)] [] s0 := by
  intro a1 a2 s0 h
  unfold fX6_next at h
  refine g_iload_n F (j := 1) dX6_next_0 rfl rfl ?_
  refine g_iload_n F (j := 2) dX6_next_1 rfl rfl ?_
  refine g_iadd F dX6_next_2 ?_
  refine g_istore_n F dX6_next_3 rfl (by decide) (lv' := [(0, rf X.2.2 0), (2, .int a2), (3, .int (a1 + a2))]) [1, 3, 0] rfl ?_
  exact wX6_next_4_lp F R N a2 (a1 + a2) s0 h
theorem mX6_next {l : Launch} {w : Wd} (N : Nat) (hi : inj false w)  {res : Int32 × SS} {a1 a2 : Int32} {s0 : SS} (h : fX6_next N a1 a2 s0 = some res) : MI false l yX6_next cX6_next 4 (some .int) { frames := 1, cells := 0, slots := 0, locals := 22 } w [rf w 0, .int a1, .int a2] s0 res := by
  refine mk_i (by decide) hi (Nat.le_of_ble_eq_true rfl) (fun X hX hL F R => ?_)
  subst hX; subst hL
  exact wX6_next_e F R a1 a2 s0 h
