set_option maxRecDepth 20000 in
theorem wX5_lacksOrder_26 {X : Cx} (F : Fx true X cX5_lacksOrder RX5 1 16 399) {res : Int32 × SS} (R : RZ true X cX5_lacksOrder 1 res) {N : Nat} : ∀ (t0 : Int32) (s0 : SS), fX5_lacksOrder_26 N t0 s0 = some res → G true X 1 26 [] [.int t0] s0 := by
  intro t0 s0 h
  unfold fX5_lacksOrder_26 at h
  exact R _ _ _ _ dX5_lacksOrder_26 h
set_option maxRecDepth 20000 in
theorem wX5_lacksOrder_25 {X : Cx} (F : Fx true X cX5_lacksOrder RX5 1 16 399) {res : Int32 × SS} (R : RZ true X cX5_lacksOrder 1 res) {N : Nat} : ∀  (s0 : SS), fX5_lacksOrder_25 N s0 = some res → G true X 1 25 [] [] s0 := by
  intro  s0 h
  unfold fX5_lacksOrder_25 at h
  refine g_iconst F (v := 0) dX5_lacksOrder_25 (by decide) ?_
  exact wX5_lacksOrder_26 F R 0 s0 h
set_option maxRecDepth 20000 in
theorem wX5_lacksOrder_e {X : Cx} (F : Fx true X cX5_lacksOrder RX5 1 16 399) {res : Int32 × SS} (R : RZ true X cX5_lacksOrder 1 res) {N : Nat} : ∀  (s0 : SS), fX5_lacksOrder N s0 = some res → G true X 1 0 [(0, rf X.2.2 0)] [] s0 := by
  intro  s0 h
  unfold fX5_lacksOrder at h
  refine g_aload_n F (a := 0) (j := 0) dX5_lacksOrder_0 rfl rfl ?_
  refine gt_X5_54 F (k := 0) pc0 dX5_lacksOrder_1 (v := .int (s0 0 6)) rfl ?_
  refine g_ifeq F (tgt := 25) dX5_lacksOrder_4 (by decide) h (fun h => ?_) (fun h => ?_)
  · refine g_sub (lv' := []) [] rfl ?_
    exact wX5_lacksOrder_25 F R s0 h
  · refine g_aload_n F (a := 0) (j := 0) dX5_lacksOrder_7 rfl rfl ?_
    refine gt_X5_37 F (k := 0) pc0 dX5_lacksOrder_8 (v := rf X.2.2 27) rfl ?_
    refine g_aload_n F (a := 0) (j := 0) dX5_lacksOrder_11 rfl rfl ?_
    refine gt_X5_50 F (k := 0) pc0 dX5_lacksOrder_12 (v := rf X.2.2 40) rfl ?_
    refine g_vi F (k := 27) (As := [rf X.2.2 40]) (rest := []) (fun _ q => mX0_findOrder N F.inj pc40 q) mw_X0_findOrder ml_X5_180 rfl ⟨Nat.le_of_ble_eq_true rfl, Nat.le_of_ble_eq_true rfl⟩ pc27 cl0 rfl (Nat.le_of_ble_eq_true rfl) dX5_lacksOrder_15 h (fun v1 s1 h => ?_)
    refine g_ifne F (tgt := 25) dX5_lacksOrder_18 (by decide) h (fun h => ?_) (fun h => ?_)
    · refine g_iconst F (v := 1) dX5_lacksOrder_21 (by decide) ?_
      refine g_goto F (tgt := 26) dX5_lacksOrder_22 (by decide) ?_
      refine g_sub (lv' := []) [] rfl ?_
      exact wX5_lacksOrder_26 F R 1 s1 h
    · refine g_sub (lv' := []) [] rfl ?_
      exact wX5_lacksOrder_25 F R s1 h
theorem mX5_lacksOrder {l : Launch} {w : Wd} (N : Nat) (hi : inj true w)  {res : Int32 × SS} {s0 : SS} (h : fX5_lacksOrder N s0 = some res) : MI true l yX5_lacksOrder cX5_lacksOrder 1 (some .boolean) { frames := 16, cells := 0, slots := 0, locals := 399 } w [rf w 0] s0 res := by
  refine mk_z (by decide) hi (Nat.le_of_ble_eq_true rfl) (fun X hX hL F R => ?_)
  subst hX; subst hL
  exact wX5_lacksOrder_e F R  s0 h
set_option maxRecDepth 20000 in
theorem wX0_hasThird_44 {X : Cx} (F : Fx true X cX0_hasThird RX0 6 15 378) {res : Int32 × SS} (R : RZ true X cX0_hasThird 6 res) {N : Nat} {q : Nat} (hq : IsI true X.2.2 q 8) {k15 : Int32 → Int32 → Int32 → Int32 → SS → Option (Int32 × SS)} (hk15 : ∀ (x2 : Int32) (x3 : Int32) (x4 : Int32) (x5 : Int32) (σ : SS), k15 x2 x3 x4 x5 σ = some res → G true X 6 15 [(0, rf X.2.2 27), (2, .int x2), (3, .int x3), (4, .int x4), (5, .int x5)] [] σ) : ∀ (x2 : Int32) (x3 : Int32) (x4 : Int32) (x5 : Int32) (s0 : SS), fX0_hasThird_44 N q k15 x2 x3 x4 x5 s0 = some res → G true X 6 44 [(0, rf X.2.2 27), (2, .int x2), (3, .int x3), (4, .int x4), (5, .int x5)] [] s0 := by
  intro x2 x3 x4 x5 s0 h
  unfold fX0_hasThird_44 at h
  refine g_iinc F (j := 4) (v := x5 + 1) dX0_hasThird_44 rfl rfl (by decide) (lv' := [(0, rf X.2.2 27), (2, .int x2), (3, .int x3), (4, .int x4), (5, .int (x5 + 1))]) [1, 2, 3, 4, 0] rfl ?_
  refine g_goto F (tgt := 15) dX0_hasThird_47 (by decide) ?_
  exact hk15 x2 x3 x4 (x5 + 1) s0 h
set_option maxRecDepth 20000 in
theorem wX0_hasThird_15 {X : Cx} (F : Fx true X cX0_hasThird RX0 6 15 378) {res : Int32 × SS} (R : RZ true X cX0_hasThird 6 res) {N : Nat} {q : Nat} (hq : IsI true X.2.2 q 8) {k15 : Int32 → Int32 → Int32 → Int32 → SS → Option (Int32 × SS)} (hk15 : ∀ (x2 : Int32) (x3 : Int32) (x4 : Int32) (x5 : Int32) (σ : SS), k15 x2 x3 x4 x5 σ = some res → G true X 6 15 [(0, rf X.2.2 27), (2, .int x2), (3, .int x3), (4, .int x4), (5, .int x5)] [] σ) : ∀ (x2 : Int32) (x3 : Int32) (x4 : Int32) (x5 : Int32) (s0 : SS), fX0_hasThird_15 N q k15 x2 x3 x4 x5 s0 = some res → G true X 6 15 [(0, rf X.2.2 27), (2, .int x2), (3, .int x3), (4, .int x4), (5, .int x5)] [] s0 := by
  intro x2 x3 x4 x5 s0 h
  unfold fX0_hasThird_15 at h
  refine g_iload F (j := 4) dX0_hasThird_15 rfl ?_
  refine g_iload F (j := 3) dX0_hasThird_17 rfl ?_
  refine g_icmp_ge F (tgt := 50) dX0_hasThird_19 (by decide) h (fun h => ?_) (fun h => ?_)
  · refine g_aload_n F (a := 27) (j := 0) dX0_hasThird_50 rfl rfl ?_
    refine g_iload_n F (j := 1) dX0_hasThird_51 rfl rfl ?_
    refine g_iload_n F (j := 2) dX0_hasThird_52 rfl rfl ?_
    refine g_vv F (k := 27) (As := [.int x2, .int x3]) (rest := []) (fun _ q => mX0_addJob N F.inj  q) mw_X0_addJob ml_X0_83 rfl ⟨Nat.le_of_ble_eq_true rfl, Nat.le_of_ble_eq_true rfl⟩ pc27 cl0 rfl (Nat.le_of_ble_eq_true rfl) dX0_hasThird_53 h (fun s1 h => ?_)
    refine g_aload_n F (a := 27) (j := 0) dX0_hasThird_56 rfl rfl ?_
    refine g_vi F (k := 27) (As := []) (rest := []) (fun _ q => mX0_seekAnew N F.inj  q) mw_X0_seekAnew ml_X0_52 rfl ⟨Nat.le_of_ble_eq_true rfl, Nat.le_of_ble_eq_true rfl⟩ pc27 cl0 rfl (Nat.le_of_ble_eq_true rfl) dX0_hasThird_57 h (fun v2 s2 h => ?_)
    exact R _ _ _ _ dX0_hasThird_60 h
  · refine g_aload_n F (a := 27) (j := 0) dX0_hasThird_22 rfl rfl ?_
    refine gt_X0_19 F (k := 27) pc27 dX0_hasThird_23 (v := rf X.2.2 29) rfl ?_
    refine g_iload F (j := 4) dX0_hasThird_26 rfl ?_
    refine g_iald F (k := 29) pc29 dX0_hasThird_28 h (fun h => ?_)
    refine g_iload_n F (j := 1) dX0_hasThird_29 rfl rfl ?_
    refine g_icmp_ne F (tgt := 44) dX0_hasThird_30 (by decide) h (fun h => ?_) (fun h => ?_)
    · refine g_aload_n F (a := 27) (j := 0) dX0_hasThird_33 rfl rfl ?_
      refine gt_X0_25 F (k := 27) pc27 dX0_hasThird_34 (v := rf X.2.2 31) rfl ?_
      refine g_iload F (j := 4) dX0_hasThird_37 rfl ?_
      refine g_iconst F (v := 1) dX0_hasThird_39 (by decide) ?_
      refine g_iload F (j := 3) dX0_hasThird_40 rfl ?_
      refine g_ishl F dX0_hasThird_42 ?_
      refine g_iast F (k := 31) pc31 dX0_hasThird_43 h (fun s3 h => ?_)
      exact wX0_hasThird_44 F R hq hk15 x2 x3 x4 x5 s3 h
    · exact wX0_hasThird_44 F R hq hk15 x2 x3 x4 x5 s0 h
theorem wX0_hasThird_15_lp {X : Cx} (F : Fx true X cX0_hasThird RX0 6 15 378) {res : Int32 × SS} (R : RZ true X cX0_hasThird 6 res) {N : Nat} {q : Nat} (hq : IsI true X.2.2 q 8) : ∀ (n : Nat) (x2 : Int32) (x3 : Int32) (x4 : Int32) (x5 : Int32) (s0 : SS), lp (fX0_hasThird_15 N q) (fun _ _ _ _ _ => none) n x2 x3 x4 x5 s0 = some res → G true X 6 15 [(0, rf X.2.2 27), (2, .int x2), (3, .int x3), (4, .int x4), (5, .int x5)] [] s0 := by
  intro n
  induction n with
  | zero => intro x2 x3 x4 x5 s0 h; cases (show (none : Option (Int32 × SS)) = some res from h)
  | succ n ih => intro x2 x3 x4 x5 s0 h; exact wX0_hasThird_15 F R hq ih x2 x3 x4 x5 s0 h
set_option maxRecDepth 20000 in
theorem wX0_hasThird_e {X : Cx} (F : Fx true X cX0_hasThird RX0 6 15 378) {res : Int32 × SS} (R : RZ true X cX0_hasThird 6 res) {N : Nat} {q : Nat} (hq : IsI true X.2.2 q 8) : ∀ (a2 : Int32) (a3 : Int32) (s0 : SS), fX0_hasThird N q a2 a3 s0 = some res → G true X 6 0 [(0, rf X.2.2 27), (1, rf X.2.2 q), (2, .int a2), (3, .int a3)] [] s0 := by
  intro a2 a3 s0 h
  unfold fX0_hasThird at h
  refine g_aload_n F (a := 27) (j := 0) dX0_hasThird_0 rfl rfl ?_
  refine g_aload_n F (a := q) (j := 1) dX0_hasThird_1 rfl rfl ?_
  refine g_iconst F (v := (-1)) dX0_hasThird_2 (by decide) ?_
  refine g_vv F (k := 27) (As := [rf X.2.2 q, .int (-1)]) (rest := []) (fun _ q => mX0_gather N F.inj hq q) mw_X0_gather ml_X0_48 rfl ⟨Nat.le_of_ble_eq_true rfl, Nat.le_of_ble_eq_true rfl⟩ pc27 cl0 rfl (Nat.le_of_ble_eq_true rfl) dX0_hasThird_3 h (fun s1 h => ?_)
  refine g_aload_n F (a := 27) (j := 0) dX0_hasThird_6 rfl rfl ?_
  refine gt_X0_9 F (k := 27) pc27 dX0_hasThird_7 (v := .int (s1 27 3)) rfl ?_
  refine g_istore F dX0_hasThird_10 (by decide) (lv' := [(0, rf X.2.2 27), (2, .int a2), (3, .int a3), (4, .int (s1 27 3))]) [1, 3, 4, 0] rfl ?_
  refine g_iconst F (v := 0) dX0_hasThird_12 (by decide) ?_
  refine g_istore F dX0_hasThird_13 (by decide) (lv' := [(0, rf X.2.2 27), (2, .int a2), (3, .int a3), (4, .int (s1 27 3)), (5, .int 0)]) [1, 2, 3, 4, 0] rfl ?_
  exact wX0_hasThird_15_lp F R hq N a2 a3 (s1 27 3) 0 s1 h
theorem mX0_hasThird {l : Launch} {w : Wd} (N : Nat) (hi : inj true w) {q : Nat} (hq : IsI true w q 8) {res : Int32 × SS} {a2 a3 : Int32} {s0 : SS} (h : fX0_hasThird N q a2 a3 s0 = some res) : MI true l yX0_hasThird cX0_hasThird 6 (some .boolean) { frames := 15, cells := 0, slots := 0, locals := 378 } w [rf w 27, rf w q, .int a2, .int a3] s0 res := by
  refine mk_z (by decide) hi (Nat.le_of_ble_eq_true rfl) (fun X hX hL F R => ?_)
  subst hX; subst hL
  exact wX0_hasThird_e F R hq a2 a3 s0 h
set_option maxRecDepth 20000 in
theorem wX0_firstThird_75 {X : Cx} (F : Fx true X cX0_firstThird RX0 4 16 403) {res : Int32 × SS} (R : RI true X cX0_firstThird 4 res) {N : Nat} {q : Nat} (hq : IsI true X.2.2 q 8) {k2 : Int32 → SS → Option (Int32 × SS)} {k15 : Int32 → Int32 → SS → Option (Int32 × SS)} (hk2 : ∀ (x2 : Int32) (σ : SS), k2 x2 σ = some res → G true X 4 2 [(0, rf X.2.2 27), (1, rf X.2.2 q), (2, .int x2)] [] σ) (hk15 : ∀ (x2 : Int32) (x3 : Int32) (σ : SS), k15 x2 x3 σ = some res → G true X 4 15 [(0, rf X.2.2 27), (1, rf X.2.2 q), (2, .int x2), (3, .int x3)] [] σ) : ∀ (x2 : Int32) (x3 : Int32) (s0 : SS), fX0_firstThird_75 N q k2 k15 x2 x3 s0 = some res → G true X 4 75 [(0, rf X.2.2 27), (1, rf X.2.2 q), (2, .int x2), (3, .int x3)] [] s0 := by
  intro x2 x3 s0 h
  unfold fX0_firstThird_75 at h
  refine g_iinc F (j := 3) (v := x3 + 1) dX0_firstThird_75 rfl rfl (by decide) (lv' := [(0, rf X.2.2 27), (1, rf X.2.2 q), (2, .int x2), (3, .int (x3 + 1))]) [1, 2, 3, 0] rfl ?_
  refine g_goto F (tgt := 15) dX0_firstThird_78 (by decide) ?_
  exact hk15 x2 (x3 + 1) s0 h
set_option maxRecDepth 20000 in
theorem wX0_firstThird_81 {X : Cx} (F : Fx true X cX0_firstThird RX0 4 16 403) {res : Int32 × SS} (R : RI true X cX0_firstThird 4 res) {N : Nat} {q : Nat} (hq : IsI true X.2.2 q 8) {k2 : Int32 → SS → Option (Int32 × SS)} (hk2 : ∀ (x2 : Int32) (σ : SS), k2 x2 σ = some res → G true X 4 2 [(0, rf X.2.2 27), (1, rf X.2.2 q), (2, .int x2)] [] σ) : ∀ (x2 : Int32) (s0 : SS), fX0_firstThird_81 N q k2 x2 s0 = some res → G true X 4 81 [(0, rf X.2.2 27), (1, rf X.2.2 q), (2, .int x2)] [] s0 := by
  intro x2 s0 h
  unfold fX0_firstThird_81 at h
  refine g_iinc F (j := 2) (v := x2 + 1) dX0_firstThird_81 rfl rfl (by decide) (lv' := [(0, rf X.2.2 27), (1, rf X.2.2 q), (2, .int (x2 + 1))]) [1, 2, 0] rfl ?_
  refine g_goto F (tgt := 2) dX0_firstThird_84 (by decide) ?_
  exact hk2 (x2 + 1) s0 h
set_option maxRecDepth 20000 in
theorem wX0_firstThird_15 {X : Cx} (F : Fx true X cX0_firstThird RX0 4 16 403) {res : Int32 × SS} (R : RI true X cX0_firstThird 4 res) {N : Nat} {q : Nat} (hq : IsI true X.2.2 q 8) {k2 : Int32 → SS → Option (Int32 × SS)} {k15 : Int32 → Int32 → SS → Option (Int32 × SS)} (hk2 : ∀ (x2 : Int32) (σ : SS), k2 x2 σ = some res → G true X 4 2 [(0, rf X.2.2 27), (1, rf X.2.2 q), (2, .int x2)] [] σ) (hk15 : ∀ (x2 : Int32) (x3 : Int32) (σ : SS), k15 x2 x3 σ = some res → G true X 4 15 [(0, rf X.2.2 27), (1, rf X.2.2 q), (2, .int x2), (3, .int x3)] [] σ) : ∀ (x2 : Int32) (x3 : Int32) (s0 : SS), fX0_firstThird_15 N q k2 k15 x2 x3 s0 = some res → G true X 4 15 [(0, rf X.2.2 27), (1, rf X.2.2 q), (2, .int x2), (3, .int x3)] [] s0 := by
  intro x2 x3 s0 h
  unfold fX0_firstThird_15 at h
  refine g_iload_n F (j := 3) dX0_firstThird_15 rfl rfl ?_
  refine g_aload_n F (a := 27) (j := 0) dX0_firstThird_16 rfl rfl ?_
  refine gt_X0_32 F (k := 27) pc27 dX0_firstThird_17 (v := rf X.2.2 1) rfl ?_
  refine gt_X0_61 F (k := 1) pc1 dX0_firstThird_20 (v := .int (s0 1 0)) rfl ?_
  refine g_icmp_ge F (tgt := 81) dX0_firstThird_23 (by decide) h (fun h => ?_) (fun h => ?_)
  · refine g_sub (lv' := [(0, rf X.2.2 27), (1, rf X.2.2 q), (2, .int x2)]) [0, 1, 2] rfl ?_
    exact wX0_firstThird_81 F R hq hk2 x2 s0 h
  · refine g_aload_n F (a := 27) (j := 0) dX0_firstThird_26 rfl rfl ?_
    refine gt_X0_36 F (k := 27) pc27 dX0_firstThird_27 (v := rf X.2.2 13) rfl ?_
    refine g_iload_n F (j := 2) dX0_firstThird_30 rfl rfl ?_
    refine g_aload_n F (a := q) (j := 1) dX0_firstThird_31 rfl rfl ?_
    refine g_vi F (k := 13) (As := [.int x2, rf X.2.2 q]) (rest := []) (fun _ q => mX1_isMovedIn N F.inj row13 hq q) mw_X1_isMovedIn ml_X0_64 rfl ⟨Nat.le_of_ble_eq_true rfl, Nat.le_of_ble_eq_true rfl⟩ pc13 cl1 rfl (Nat.le_of_ble_eq_true rfl) dX0_firstThird_32 h (fun v1 s1 h => ?_)
    refine g_ifeq F (tgt := 81) dX0_firstThird_35 (by decide) h (fun h => ?_) (fun h => ?_)
    · refine g_sub (lv' := [(0, rf X.2.2 27), (1, rf X.2.2 q), (2, .int x2)]) [0, 1, 2] rfl ?_
      exact wX0_firstThird_81 F R hq hk2 x2 s1 h
    · refine g_iload_n F (j := 3) dX0_firstThird_38 rfl rfl ?_
      refine g_aload_n F (a := 27) (j := 0) dX0_firstThird_39 rfl rfl ?_
      refine gt_X0_36 F (k := 27) pc27 dX0_firstThird_40 (v := rf X.2.2 13) rfl ?_
      refine gt_X0_68 F (k := 13) pc13 dX0_firstThird_43 (v := rf X.2.2 14) rfl ?_
      refine g_iload_n F (j := 2) dX0_firstThird_46 rfl rfl ?_
      refine g_iald F (k := 14) pc14 dX0_firstThird_47 h (fun h => ?_)
      refine g_icmp_eq F (tgt := 75) dX0_firstThird_48 (by decide) h (fun h => ?_) (fun h => ?_)
      · exact wX0_firstThird_75 F R hq hk2 hk15 x2 x3 s1 h
      · refine g_iload_n F (j := 3) dX0_firstThird_51 rfl rfl ?_
        refine g_aload_n F (a := q) (j := 1) dX0_firstThird_52 rfl rfl ?_
        refine g_iload_n F (j := 2) dX0_firstThird_53 rfl rfl ?_
        refine g_iald F (k := q) hq dX0_firstThird_54 h (fun h => ?_)
        refine g_icmp_eq F (tgt := 75) dX0_firstThird_55 (by decide) h (fun h => ?_) (fun h => ?_)
        · exact wX0_firstThird_75 F R hq hk2 hk15 x2 x3 s1 h
        · refine g_aload_n F (a := 27) (j := 0) dX0_firstThird_58 rfl rfl ?_
          refine g_aload_n F (a := q) (j := 1) dX0_firstThird_59 rfl rfl ?_
          refine g_iload_n F (j := 2) dX0_firstThird_60 rfl rfl ?_
          refine g_iload_n F (j := 3) dX0_firstThird_61 rfl rfl ?_
          refine g_vi F (k := 27) (As := [rf X.2.2 q, .int x2, .int x3]) (rest := []) (fun _ q => mX0_hasThird N F.inj hq q) mw_X0_hasThird ml_X0_71 rfl ⟨Nat.le_of_ble_eq_true rfl, Nat.le_of_ble_eq_true rfl⟩ pc27 cl0 rfl (Nat.le_of_ble_eq_true rfl) dX0_firstThird_62 h (fun v2 s2 h => ?_)
          refine g_ifeq F (tgt := 75) dX0_firstThird_65 (by decide) h (fun h => ?_) (fun h => ?_)
          · exact wX0_firstThird_75 F R hq hk2 hk15 x2 x3 s2 h
          · refine g_iload_n F (j := 2) dX0_firstThird_68 rfl rfl ?_
            refine g_bipush F (v := 8) dX0_firstThird_69 (by decide) ?_
            refine g_imul F dX0_firstThird_71 ?_
            refine g_iload_n F (j := 3) dX0_firstThird_72 rfl rfl ?_
            refine g_iadd F dX0_firstThird_73 ?_
            exact R _ _ _ _ dX0_firstThird_74 h
theorem wX0_firstThird_15_lp {X : Cx} (F : Fx true X cX0_firstThird RX0 4 16 403) {res : Int32 × SS} (R : RI true X cX0_firstThird 4 res) {N : Nat} {q : Nat} (hq : IsI true X.2.2 q 8) {k2 : Int32 → SS → Option (Int32 × SS)} (hk2 : ∀ (x2 : Int32) (σ : SS), k2 x2 σ = some res → G true X 4 2 [(0, rf X.2.2 27), (1, rf X.2.2 q), (2, .int x2)] [] σ) : ∀ (n : Nat) (x2 : Int32) (x3 : Int32) (s0 : SS), lp (fX0_firstThird_15 N q k2) (fun _ _ _ => none) n x2 x3 s0 = some res → G true X 4 15 [(0, rf X.2.2 27), (1, rf X.2.2 q), (2, .int x2), (3, .int x3)] [] s0 := by
  intro n
  induction n with
  | zero => intro x2 x3 s0 h; cases (show (none : Option (Int32 × SS)) = some res from h)
  | succ n ih => intro x2 x3 s0 h; exact wX0_firstThird_15 F R hq hk2 ih x2 x3 s0 h
set_option maxRecDepth 20000 in
theorem wX0_firstThird_2 {X : Cx} (F : Fx true X cX0_firstThird RX0 4 16 403) {res : Int32 × SS} (R : RI true X cX0_firstThird 4 res) {N : Nat} {q : Nat} (hq : IsI true X.2.2 q 8) {k2 : Int32 → SS → Option (Int32 × SS)} (hk2 : ∀ (x2 : Int32) (σ : SS), k2 x2 σ = some res → G true X 4 2 [(0, rf X.2.2 27), (1, rf X.2.2 q), (2, .int x2)] [] σ) : ∀ (x2 : Int32) (s0 : SS), fX0_firstThird_2 N q k2 x2 s0 = some res → G true X 4 2 [(0, rf X.2.2 27), (1, rf X.2.2 q), (2, .int x2)] [] s0 := by
  intro x2 s0 h
  unfold fX0_firstThird_2 at h
  refine g_iload_n F (j := 2) dX0_firstThird_2 rfl rfl ?_
  refine g_aload_n F (a := 27) (j := 0) dX0_firstThird_3 rfl rfl ?_
  refine gt_X0_32 F (k := 27) pc27 dX0_firstThird_4 (v := rf X.2.2 1) rfl ?_
  refine gt_X0_56 F (k := 1) pc1 dX0_firstThird_7 (v := .int (s0 1 1)) rfl ?_
  refine g_icmp_ge F (tgt := 87) dX0_firstThird_10 (by decide) h (fun h => ?_) (fun h => ?_)
  · refine g_iconst F (v := (-1)) dX0_firstThird_87 (by decide) ?_
    exact R _ _ _ _ dX0_firstThird_88 h
  · refine g_iconst F (v := 0) dX0_firstThird_13 (by decide) ?_
    refine g_istore_n F dX0_firstThird_14 rfl (by decide) (lv' := [(0, rf X.2.2 27), (1, rf X.2.2 q), (2, .int x2), (3, .int 0)]) [1, 2, 3, 0] rfl ?_
    exact wX0_firstThird_15_lp F R hq hk2 N x2 0 s0 h
theorem wX0_firstThird_2_lp {X : Cx} (F : Fx true X cX0_firstThird RX0 4 16 403) {res : Int32 × SS} (R : RI true X cX0_firstThird 4 res) {N : Nat} {q : Nat} (hq : IsI true X.2.2 q 8) : ∀ (n : Nat) (x2 : Int32) (s0 : SS), lp (fX0_firstThird_2 N q) (fun _ _ => none) n x2 s0 = some res → G true X 4 2 [(0, rf X.2.2 27), (1, rf X.2.2 q), (2, .int x2)] [] s0 := by
  intro n
  induction n with
  | zero => intro x2 s0 h; cases (show (none : Option (Int32 × SS)) = some res from h)
  | succ n ih => intro x2 s0 h; exact wX0_firstThird_2 F R hq ih x2 s0 h
set_option maxRecDepth 20000 in
theorem wX0_firstThird_e {X : Cx} (F : Fx true X cX0_firstThird RX0 4 16 403) {res : Int32 × SS} (R : RI true X cX0_firstThird 4 res) {N : Nat} {q : Nat} (hq : IsI true X.2.2 q 8) : ∀  (s0 : SS), fX0_firstThird N q s0 = some res → G true X 4 0 [(0, rf X.2.2 27), (1, rf X.2.2 q)] [] s0 := by
  intro  s0 h
  unfold fX0_firstThird at h
  refine g_iconst F (v := 0) dX0_firstThird_0 (by decide) ?_
  refine g_istore_n F dX0_firstThird_1 rfl (by decide) (lv' := [(0, rf X.2.2 27), (1, rf X.2.2 q), (2, .int 0)]) [1, 2, 0] rfl ?_
  exact wX0_firstThird_2_lp F R hq N 0 s0 h
theorem mX0_firstThird {l : Launch} {w : Wd} (N : Nat) (hi : inj true w) {q : Nat} (hq : IsI true w q 8) {res : Int32 × SS} {s0 : SS} (h : fX0_firstThird N q s0 = some res) : MI true l yX0_firstThird cX0_firstThird 4 (some .int) { frames := 16, cells := 0, slots := 0, locals := 403 } w [rf w 27, rf w q] s0 res := by
  refine mk_i (by decide) hi (Nat.le_of_ble_eq_true rfl) (fun X hX hL F R => ?_)
  subst hX; subst hL
  exact wX0_firstThird_e F R hq s0 h
set_option maxRecDepth 20000 in
theorem wX5_third_23 {X : Cx} (F : Fx true X cX5_third RX5 1 17 426) {res : Int32 × SS} (R : RI true X cX5_third 1 res) {N : Nat} : ∀ (t0 : Int32) (s0 : SS), fX5_third_23 N t0 s0 = some res → G true X 1 23 [] [.int t0] s0 := by
  intro t0 s0 h
  unfold fX5_third_23 at h
  exact R _ _ _ _ dX5_third_23 h
set_option maxRecDepth 20000 in
theorem wX5_third_e {X : Cx} (F : Fx true X cX5_third RX5 1 17 426) {res : Int32 × SS} (R : RI true X cX5_third 1 res) {N : Nat} : ∀  (s0 : SS), fX5_third N s0 = some res → G true X 1 0 [(0, rf X.2.2 0)] [] s0 := by
  intro  s0 h
  unfold fX5_third at h
  refine g_aload_n F (a := 0) (j := 0) dX5_third_0 rfl rfl ?_
  refine g_vi F (k := 0) (As := []) (rest := []) (fun _ q => mX5_lacksOrder N F.inj  q) mw_X5_lacksOrder ml_X5_190 rfl ⟨Nat.le_of_ble_eq_true rfl, Nat.le_of_ble_eq_true rfl⟩ pc0 cl5 rfl (Nat.le_of_ble_eq_true rfl) dX5_third_1 h (fun v1 s1 h => ?_)
  refine g_ifeq F (tgt := 21) dX5_third_4 (by decide) h (fun h => ?_) (fun h => ?_)
  · refine g_bipush F (v := (-3)) dX5_third_21 (by decide) ?_
    refine g_sub (lv' := []) [] rfl ?_
    exact wX5_third_23 F R (-3) s1 h
  · refine g_aload_n F (a := 0) (j := 0) dX5_third_7 rfl rfl ?_
    refine gt_X5_37 F (k := 0) pc0 dX5_third_8 (v := rf X.2.2 27) rfl ?_
    refine g_aload_n F (a := 0) (j := 0) dX5_third_11 rfl rfl ?_
    refine gt_X5_50 F (k := 0) pc0 dX5_third_12 (v := rf X.2.2 40) rfl ?_
    refine g_vi F (k := 27) (As := [rf X.2.2 40]) (rest := []) (fun _ q => mX0_firstThird N F.inj pc40 q) mw_X0_firstThird ml_X5_194 rfl ⟨Nat.le_of_ble_eq_true rfl, Nat.le_of_ble_eq_true rfl⟩ pc27 cl0 rfl (Nat.le_of_ble_eq_true rfl) dX5_third_15 h (fun v2 s2 h => ?_)
    refine g_goto F (tgt := 23) dX5_third_18 (by decide) ?_
    refine g_sub (lv' := []) [] rfl ?_
    exact wX5_third_23 F R v2 s2 h
theorem mX5_third {l : Launch} {w : Wd} (N : Nat) (hi : inj true w)  {res : Int32 × SS} {s0 : SS} (h : fX5_third N s0 = some res) : MI true l yX5_third cX5_third 1 (some .int) { frames := 17, cells := 0, slots := 0, locals := 426 } w [rf w 0] s0 res := by
  refine mk_i (by decide) hi (Nat.le_of_ble_eq_true rfl) (fun X hX hL F R => ?_)
  subst hX; subst hL
  exact wX5_third_e F R  s0 h
