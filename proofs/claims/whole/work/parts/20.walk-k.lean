set_option maxRecDepth 20000 in
theorem wX0_leastStop_74 {X : Cx} (F : Fx true X cX0_leastStop RX0 5 16 400) {res : Int32 × SS} (R : RI true X cX0_leastStop 5 res) {N : Nat} {q : Nat} (hq : IsI true X.2.2 q 8) {k4 : Int32 → Int32 → SS → Option (Int32 × SS)} (hk4 : ∀ (x2 : Int32) (x3 : Int32) (σ : SS), k4 x2 x3 σ = some res → G true X 5 4 [(0, rf X.2.2 27), (1, rf X.2.2 q), (2, .int x2), (3, .int x3)] [] σ) : ∀ (x2 : Int32) (x3 : Int32) (s0 : SS), fX0_leastStop_74 N q k4 x2 x3 s0 = some res → G true X 5 74 [(0, rf X.2.2 27), (1, rf X.2.2 q), (2, .int x2), (3, .int x3)] [] s0 := by
  intro x2 x3 s0 h
  unfold fX0_leastStop_74 at h
  refine g_iinc F (j := 3) (v := x3 + 1) dX0_leastStop_74 rfl rfl (by decide) (lv' := [(0, rf X.2.2 27), (1, rf X.2.2 q), (2, .int x2), (3, .int (x3 + 1))]) [1, 2, 3, 0] rfl ?_
  refine g_goto F (tgt := 4) dX0_leastStop_77 (by decide) ?_
  exact hk4 x2 (x3 + 1) s0 h
set_option maxRecDepth 20000 in
theorem wX0_leastStop_44 {X : Cx} (F : Fx true X cX0_leastStop RX0 5 16 400) {res : Int32 × SS} (R : RI true X cX0_leastStop 5 res) {N : Nat} {q : Nat} (hq : IsI true X.2.2 q 8) {k4 : Int32 → Int32 → SS → Option (Int32 × SS)} (hk4 : ∀ (x2 : Int32) (x3 : Int32) (σ : SS), k4 x2 x3 σ = some res → G true X 5 4 [(0, rf X.2.2 27), (1, rf X.2.2 q), (2, .int x2), (3, .int x3)] [] σ) : ∀ (x2 : Int32) (x3 : Int32) (t0 : Int32) (s0 : SS), fX0_leastStop_44 N q k4 x2 x3 t0 s0 = some res → G true X 5 44 [(0, rf X.2.2 27), (1, rf X.2.2 q), (2, .int x2), (3, .int x3)] [.int t0] s0 := by
  intro x2 x3 t0 s0 h
  unfold fX0_leastStop_44 at h
  refine g_istore F dX0_leastStop_44 (by decide) (lv' := [(0, rf X.2.2 27), (1, rf X.2.2 q), (2, .int x2), (3, .int x3), (4, .int t0)]) [1, 2, 3, 4, 0] rfl ?_
  refine g_iload F (j := 4) dX0_leastStop_46 rfl ?_
  refine g_ifeq F (tgt := 74) dX0_leastStop_48 (by decide) h (fun h => ?_) (fun h => ?_)
  · refine g_sub (lv' := [(0, rf X.2.2 27), (1, rf X.2.2 q), (2, .int x2), (3, .int x3)]) [0, 1, 2, 3] rfl ?_
    exact wX0_leastStop_74 F R hq hk4 x2 x3 s0 h
  · refine g_aload_n F (a := 27) (j := 0) dX0_leastStop_51 rfl rfl ?_
    refine gt_X0_36 F (k := 27) pc27 dX0_leastStop_52 (v := rf X.2.2 13) rfl ?_
    refine g_iload_n F (j := 3) dX0_leastStop_55 rfl rfl ?_
    refine g_aload_n F (a := q) (j := 1) dX0_leastStop_56 rfl rfl ?_
    refine g_vi F (k := 13) (As := [.int x3, rf X.2.2 q]) (rest := []) (fun _ q => mX1_isMovedIn N F.inj row13 hq q) mw_X1_isMovedIn ml_X0_64 rfl ⟨Nat.le_of_ble_eq_true rfl, Nat.le_of_ble_eq_true rfl⟩ pc13 cl1 rfl (Nat.le_of_ble_eq_true rfl) dX0_leastStop_57 h (fun v1 s1 h => ?_)
    refine g_ifeq F (tgt := 74) dX0_leastStop_60 (by decide) h (fun h => ?_) (fun h => ?_)
    · refine g_sub (lv' := [(0, rf X.2.2 27), (1, rf X.2.2 q), (2, .int x2), (3, .int x3)]) [0, 1, 2, 3] rfl ?_
      exact wX0_leastStop_74 F R hq hk4 x2 x3 s1 h
    · refine g_aload_n F (a := 27) (j := 0) dX0_leastStop_63 rfl rfl ?_
      refine g_aload_n F (a := q) (j := 1) dX0_leastStop_64 rfl rfl ?_
      refine g_iload_n F (j := 3) dX0_leastStop_65 rfl rfl ?_
      refine g_vi F (k := 27) (As := [rf X.2.2 q, .int x3]) (rest := []) (fun _ q => mX0_hasStop N F.inj hq q) mw_X0_hasStop ml_X0_79 rfl ⟨Nat.le_of_ble_eq_true rfl, Nat.le_of_ble_eq_true rfl⟩ pc27 cl0 rfl (Nat.le_of_ble_eq_true rfl) dX0_leastStop_66 h (fun v2 s2 h => ?_)
      refine g_ifeq F (tgt := 74) dX0_leastStop_69 (by decide) h (fun h => ?_) (fun h => ?_)
      · refine g_sub (lv' := [(0, rf X.2.2 27), (1, rf X.2.2 q), (2, .int x2), (3, .int x3)]) [0, 1, 2, 3] rfl ?_
        exact wX0_leastStop_74 F R hq hk4 x2 x3 s2 h
      · refine g_iload_n F (j := 3) dX0_leastStop_72 rfl rfl ?_
        refine g_istore_n F dX0_leastStop_73 rfl (by decide) (lv' := [(0, rf X.2.2 27), (1, rf X.2.2 q), (2, .int x3), (3, .int x3)]) [1, 2, 0, 3] rfl ?_
        exact wX0_leastStop_74 F R hq hk4 x3 x3 s2 h
set_option maxRecDepth 20000 in
theorem wX0_leastStop_39 {X : Cx} (F : Fx true X cX0_leastStop RX0 5 16 400) {res : Int32 × SS} (R : RI true X cX0_leastStop 5 res) {N : Nat} {q : Nat} (hq : IsI true X.2.2 q 8) {k4 : Int32 → Int32 → SS → Option (Int32 × SS)} (hk4 : ∀ (x2 : Int32) (x3 : Int32) (σ : SS), k4 x2 x3 σ = some res → G true X 5 4 [(0, rf X.2.2 27), (1, rf X.2.2 q), (2, .int x2), (3, .int x3)] [] σ) : ∀ (x2 : Int32) (x3 : Int32) (s0 : SS), fX0_leastStop_39 N q k4 x2 x3 s0 = some res → G true X 5 39 [(0, rf X.2.2 27), (1, rf X.2.2 q), (2, .int x2), (3, .int x3)] [] s0 := by
  intro x2 x3 s0 h
  unfold fX0_leastStop_39 at h
  refine g_iconst F (v := 1) dX0_leastStop_39 (by decide) ?_
  refine g_goto F (tgt := 44) dX0_leastStop_40 (by decide) ?_
  exact wX0_leastStop_44 F R hq hk4 x2 x3 1 s0 h
set_option maxRecDepth 20000 in
theorem wX0_leastStop_4 {X : Cx} (F : Fx true X cX0_leastStop RX0 5 16 400) {res : Int32 × SS} (R : RI true X cX0_leastStop 5 res) {N : Nat} {q : Nat} (hq : IsI true X.2.2 q 8) {k4 : Int32 → Int32 → SS → Option (Int32 × SS)} (hk4 : ∀ (x2 : Int32) (x3 : Int32) (σ : SS), k4 x2 x3 σ = some res → G true X 5 4 [(0, rf X.2.2 27), (1, rf X.2.2 q), (2, .int x2), (3, .int x3)] [] σ) : ∀ (x2 : Int32) (x3 : Int32) (s0 : SS), fX0_leastStop_4 N q k4 x2 x3 s0 = some res → G true X 5 4 [(0, rf X.2.2 27), (1, rf X.2.2 q), (2, .int x2), (3, .int x3)] [] s0 := by
  intro x2 x3 s0 h
  unfold fX0_leastStop_4 at h
  refine g_iload_n F (j := 3) dX0_leastStop_4 rfl rfl ?_
  refine g_aload_n F (a := 27) (j := 0) dX0_leastStop_5 rfl rfl ?_
  refine gt_X0_32 F (k := 27) pc27 dX0_leastStop_6 (v := rf X.2.2 1) rfl ?_
  refine gt_X0_56 F (k := 1) pc1 dX0_leastStop_9 (v := .int (s0 1 1)) rfl ?_
  refine g_icmp_ge F (tgt := 80) dX0_leastStop_12 (by decide) h (fun h => ?_) (fun h => ?_)
  · refine g_iload_n F (j := 2) dX0_leastStop_80 rfl rfl ?_
    exact R _ _ _ _ dX0_leastStop_81 h
  · refine g_iload_n F (j := 2) dX0_leastStop_15 rfl rfl ?_
    refine g_iconst F (v := (-1)) dX0_leastStop_16 (by decide) ?_
    refine g_icmp_eq F (tgt := 39) dX0_leastStop_17 (by decide) h (fun h => ?_) (fun h => ?_)
    · exact wX0_leastStop_39 F R hq hk4 x2 x3 s0 h
    · refine g_aload_n F (a := 27) (j := 0) dX0_leastStop_20 rfl rfl ?_
      refine gt_X0_32 F (k := 27) pc27 dX0_leastStop_21 (v := rf X.2.2 1) rfl ?_
      refine g_iload_n F (j := 3) dX0_leastStop_24 rfl rfl ?_
      refine g_vi F (k := 1) (As := [.int x3]) (rest := []) (fun _ q => mX3_moveCost N F.inj  q) mw_X3_moveCost ml_X0_75 rfl ⟨Nat.le_of_ble_eq_true rfl, Nat.le_of_ble_eq_true rfl⟩ pc1 cl3 rfl (Nat.le_of_ble_eq_true rfl) dX0_leastStop_25 h (fun v1 s1 h => ?_)
      refine g_aload_n F (a := 27) (j := 0) dX0_leastStop_28 rfl rfl ?_
      refine gt_X0_32 F (k := 27) pc27 dX0_leastStop_29 (v := rf X.2.2 1) rfl ?_
      refine g_iload_n F (j := 2) dX0_leastStop_32 rfl rfl ?_
      refine g_vi F (k := 1) (As := [.int x2]) (rest := [.int v1]) (fun _ q => mX3_moveCost N F.inj  q) mw_X3_moveCost ml_X0_75 rfl ⟨Nat.le_of_ble_eq_true rfl, Nat.le_of_ble_eq_true rfl⟩ pc1 cl3 rfl (Nat.le_of_ble_eq_true rfl) dX0_leastStop_33 h (fun v2 s2 h => ?_)
      refine g_icmp_ge F (tgt := 43) dX0_leastStop_36 (by decide) h (fun h => ?_) (fun h => ?_)
      · refine g_iconst F (v := 0) dX0_leastStop_43 (by decide) ?_
        exact wX0_leastStop_44 F R hq hk4 x2 x3 0 s2 h
      · exact wX0_leastStop_39 F R hq hk4 x2 x3 s2 h
theorem wX0_leastStop_4_lp {X : Cx} (F : Fx true X cX0_leastStop RX0 5 16 400) {res : Int32 × SS} (R : RI true X cX0_leastStop 5 res) {N : Nat} {q : Nat} (hq : IsI true X.2.2 q 8) : ∀ (n : Nat) (x2 : Int32) (x3 : Int32) (s0 : SS), lp (fX0_leastStop_4 N q) (fun _ _ _ => none) n x2 x3 s0 = some res → G true X 5 4 [(0, rf X.2.2 27), (1, rf X.2.2 q), (2, .int x2), (3, .int x3)] [] s0 := by
  intro n
  induction n with
  | zero => intro x2 x3 s0 h; cases (show (none : Option (Int32 × SS)) = some res from h)
  | succ n ih => intro x2 x3 s0 h; exact wX0_leastStop_4 F R hq ih x2 x3 s0 h
set_option maxRecDepth 20000 in
theorem wX0_leastStop_e {X : Cx} (F : Fx true X cX0_leastStop RX0 5 16 400) {res : Int32 × SS} (R : RI true X cX0_leastStop 5 res) {N : Nat} {q : Nat} (hq : IsI true X.2.2 q 8) : ∀  (s0 : SS), fX0_leastStop N q s0 = some res → G true X 5 0 [(0, rf X.2.2 27), (1, rf X.2.2 q)] [] s0 := by
  intro  s0 h
  unfold fX0_leastStop at h
  refine g_iconst F (v := (-1)) dX0_leastStop_0 (by decide) ?_
  refine g_istore_n F dX0_leastStop_1 rfl (by decide) (lv' := [(0, rf X.2.2 27), (1, rf X.2.2 q), (2, .int (-1))]) [1, 2, 0] rfl ?_
  refine g_iconst F (v := 0) dX0_leastStop_2 (by decide) ?_
  refine g_istore_n F dX0_leastStop_3 rfl (by decide) (lv' := [(0, rf X.2.2 27), (1, rf X.2.2 q), (2, .int (-1)), (3, .int 0)]) [1, 2, 3, 0] rfl ?_
  exact wX0_leastStop_4_lp F R hq N (-1) 0 s0 h
theorem mX0_leastStop {l : Launch} {w : Wd} (N : Nat) (hi : inj true w) {q : Nat} (hq : IsI true w q 8) {res : Int32 × SS} {s0 : SS} (h : fX0_leastStop N q s0 = some res) : MI true l yX0_leastStop cX0_leastStop 5 (some .int) { frames := 16, cells := 0, slots := 0, locals := 400 } w [rf w 27, rf w q] s0 res := by
  refine mk_i (by decide) hi (Nat.le_of_ble_eq_true rfl) (fun X hX hL F R => ?_)
  subst hX; subst hL
  exact wX0_leastStop_e F R hq s0 h
set_option maxRecDepth 20000 in
theorem wX5_byStop_23 {X : Cx} (F : Fx true X cX5_byStop RX5 1 17 424) {res : Int32 × SS} (R : RI true X cX5_byStop 1 res) {N : Nat} : ∀ (t0 : Int32) (s0 : SS), fX5_byStop_23 N t0 s0 = some res → G true X 1 23 [] [.int t0] s0 := by
  intro t0 s0 h
  unfold fX5_byStop_23 at h
  exact R _ _ _ _ dX5_byStop_23 h
set_option maxRecDepth 20000 in
theorem wX5_byStop_e {X : Cx} (F : Fx true X cX5_byStop RX5 1 17 424) {res : Int32 × SS} (R : RI true X cX5_byStop 1 res) {N : Nat} : ∀  (s0 : SS), fX5_byStop N s0 = some res → G true X 1 0 [(0, rf X.2.2 0)] [] s0 := by
  intro  s0 h
  unfold fX5_byStop at h
  refine g_aload_n F (a := 0) (j := 0) dX5_byStop_0 rfl rfl ?_
  refine g_vi F (k := 0) (As := []) (rest := []) (fun _ q => mX5_lacksOrder N F.inj  q) mw_X5_lacksOrder ml_X5_190 rfl ⟨Nat.le_of_ble_eq_true rfl, Nat.le_of_ble_eq_true rfl⟩ pc0 cl5 rfl (Nat.le_of_ble_eq_true rfl) dX5_byStop_1 h (fun v1 s1 h => ?_)
  refine g_ifeq F (tgt := 21) dX5_byStop_4 (by decide) h (fun h => ?_) (fun h => ?_)
  · refine g_bipush F (v := (-3)) dX5_byStop_21 (by decide) ?_
    refine g_sub (lv' := []) [] rfl ?_
    exact wX5_byStop_23 F R (-3) s1 h
  · refine g_aload_n F (a := 0) (j := 0) dX5_byStop_7 rfl rfl ?_
    refine gt_X5_37 F (k := 0) pc0 dX5_byStop_8 (v := rf X.2.2 27) rfl ?_
    refine g_aload_n F (a := 0) (j := 0) dX5_byStop_11 rfl rfl ?_
    refine gt_X5_50 F (k := 0) pc0 dX5_byStop_12 (v := rf X.2.2 40) rfl ?_
    refine g_vi F (k := 27) (As := [rf X.2.2 40]) (rest := []) (fun _ q => mX0_leastStop N F.inj pc40 q) mw_X0_leastStop ml_X5_197 rfl ⟨Nat.le_of_ble_eq_true rfl, Nat.le_of_ble_eq_true rfl⟩ pc27 cl0 rfl (Nat.le_of_ble_eq_true rfl) dX5_byStop_15 h (fun v2 s2 h => ?_)
    refine g_goto F (tgt := 23) dX5_byStop_18 (by decide) ?_
    refine g_sub (lv' := []) [] rfl ?_
    exact wX5_byStop_23 F R v2 s2 h
theorem mX5_byStop {l : Launch} {w : Wd} (N : Nat) (hi : inj true w)  {res : Int32 × SS} {s0 : SS} (h : fX5_byStop N s0 = some res) : MI true l yX5_byStop cX5_byStop 1 (some .int) { frames := 17, cells := 0, slots := 0, locals := 424 } w [rf w 0] s0 res := by
  refine mk_i (by decide) hi (Nat.le_of_ble_eq_true rfl) (fun X hX hL F R => ?_)
  subst hX; subst hL
  exact wX5_byStop_e F R  s0 h
set_option maxRecDepth 20000 in
theorem wX6_byStop_15 {X : Cx} (F : Fx false X cX6_byStop RX6 3 6 140) {res : Int32 × SS} (R : RI false X cX6_byStop 3 res) {N : Nat} : ∀  (s0 : SS), fX6_byStop_15 N s0 = some res → G false X 3 15 [] [] s0 := by
  intro  s0 h
  unfold fX6_byStop_15 at h
  refine g_bipush F (v := (-3)) dX6_byStop_15 (by decide) ?_
  exact R _ _ _ _ dX6_byStop_17 h
set_option maxRecDepth 20000 in
theorem wX6_byStop_68 {X : Cx} (F : Fx false X cX6_byStop RX6 3 6 140) {res : Int32 × SS} (R : RI false X cX6_byStop 3 res) {N : Nat} {k22 : Int32 → Int32 → SS → Option (Int32 × SS)} (hk22 : ∀ (x1 : Int32) (x2 : Int32) (σ : SS), k22 x1 x2 σ = some res → G false X 3 22 [(0, rf X.2.2 0), (1, .int x1), (2, .int x2)] [] σ) : ∀ (x1 : Int32) (x2 : Int32) (s0 : SS), fX6_byStop_68 N k22 x1 x2 s0 = some res → G false X 3 68 [(0, rf X.2.2 0), (1, .int x1), (2, .int x2)] [] s0 := by
  intro x1 x2 s0 h
  unfold fX6_byStop_68 at h
  refine g_iinc F (j := 2) (v := x2 + 1) dX6_byStop_68 rfl rfl (by decide) (lv' := [(0, rf X.2.2 0), (1, .int x1), (2, .int (x2 + 1))]) [1, 2, 0] rfl ?_
  refine g_goto F (tgt := 22) dX6_byStop_71 (by decide) ?_
  exact hk22 x1 (x2 + 1) s0 h
set_option maxRecDepth 20000 in
theorem wX6_byStop_53 {X : Cx} (F : Fx false X cX6_byStop RX6 3 6 140) {res : Int32 × SS} (R : RI false X cX6_byStop 3 res) {N : Nat} {k22 : Int32 → Int32 → SS → Option (Int32 × SS)} (hk22 : ∀ (x1 : Int32) (x2 : Int32) (σ : SS), k22 x1 x2 σ = some res → G false X 3 22 [(0, rf X.2.2 0), (1, .int x1), (2, .int x2)] [] σ) : ∀ (x1 : Int32) (x2 : Int32) (s0 : SS), fX6_byStop_53 N k22 x1 x2 s0 = some res → G false X 3 53 [(0, rf X.2.2 0), (1, .int x1), (2, .int x2)] [] s0 := by
  intro x1 x2 s0 h
  unfold fX6_byStop_53 at h
  refine g_aload_n F (a := 0) (j := 0) dX6_byStop_53 rfl rfl ?_
  refine g_iload_n F (j := 2) dX6_byStop_54 rfl rfl ?_
  refine g_vi F (k := 0) (As := [.int x2]) (rest := []) (fun _ q => mX6_canAll N F.inj  q) mw_X6_canAll ml_X6_177 rfl ⟨Nat.le_of_ble_eq_true rfl, Nat.le_of_ble_eq_true rfl⟩ pm0 cl6 rfl (Nat.le_of_ble_eq_true rfl) dX6_byStop_55 h (fun v1 s1 h => ?_)
  refine g_ifeq F (tgt := 68) dX6_byStop_58 (by decide) h (fun h => ?_) (fun h => ?_)
  · exact wX6_byStop_68 F R hk22 x1 x2 s1 h
  · refine g_aload_n F (a := 0) (j := 0) dX6_byStop_61 rfl rfl ?_
    refine gt_X6_48 F (k := 0) pm0 dX6_byStop_62 (v := rf X.2.2 12) rfl ?_
    refine g_iload_n F (j := 2) dX6_byStop_65 rfl rfl ?_
    refine g_iald F (k := 12) pm12 dX6_byStop_66 h (fun h => ?_)
    refine g_istore_n F dX6_byStop_67 rfl (by decide) (lv' := [(0, rf X.2.2 0), (1, .int (s1 12 (Int32.toNatClampNeg x2))), (2, .int x2)]) [1, 0, 2] rfl ?_
    exact wX6_byStop_68 F R hk22 (s1 12 (Int32.toNatClampNeg x2)) x2 s1 h
set_option maxRecDepth 20000 in
theorem wX6_byStop_22 {X : Cx} (F : Fx false X cX6_byStop RX6 3 6 140) {res : Int32 × SS} (R : RI false X cX6_byStop 3 res) {N : Nat} {k22 : Int32 → Int32 → SS → Option (Int32 × SS)} (hk22 : ∀ (x1 : Int32) (x2 : Int32) (σ : SS), k22 x1 x2 σ = some res → G false X 3 22 [(0, rf X.2.2 0), (1, .int x1), (2, .int x2)] [] σ) : ∀ (x1 : Int32) (x2 : Int32) (s0 : SS), fX6_byStop_22 N k22 x1 x2 s0 = some res → G false X 3 22 [(0, rf X.2.2 0), (1, .int x1), (2, .int x2)] [] s0 := by
  intro x1 x2 s0 h
  unfold fX6_byStop_22 at h
  refine g_iload_n F (j := 2) dX6_byStop_22 rfl rfl ?_
  refine g_aload_n F (a := 0) (j := 0) dX6_byStop_23 rfl rfl ?_
  refine gt_X6_164 F (k := 0) pm0 dX6_byStop_24 (v := .int (s0 0 23)) rfl ?_
  refine g_icmp_ge F (tgt := 74) dX6_byStop_27 (by decide) h (fun h => ?_) (fun h => ?_)
  · refine g_iload_n F (j := 1) dX6_byStop_74 rfl rfl ?_
    exact R _ _ _ _ dX6_byStop_75 h
  · refine g_iload_n F (j := 1) dX6_byStop_30 rfl rfl ?_
    refine g_iconst F (v := (-1)) dX6_byStop_31 (by decide) ?_
    refine g_icmp_eq F (tgt := 53) dX6_byStop_32 (by decide) h (fun h => ?_) (fun h => ?_)
    · exact wX6_byStop_53 F R hk22 x1 x2 s0 h
    · refine g_aload_n F (a := 0) (j := 0) dX6_byStop_35 rfl rfl ?_
      refine g_aload_n F (a := 0) (j := 0) dX6_byStop_36 rfl rfl ?_
      refine gt_X6_48 F (k := 0) pm0 dX6_byStop_37 (v := rf X.2.2 12) rfl ?_
      refine g_iload_n F (j := 2) dX6_byStop_40 rfl rfl ?_
      refine g_iald F (k := 12) pm12 dX6_byStop_41 h (fun h => ?_)
      refine g_vi F (k := 0) (As := [.int (s0 12 (Int32.toNatClampNeg x2))]) (rest := []) (fun _ q => mX6_costOf N F.inj  q) mw_X6_costOf ml_X6_161 rfl ⟨Nat.le_of_ble_eq_true rfl, Nat.le_of_ble_eq_true rfl⟩ pm0 cl6 rfl (Nat.le_of_ble_eq_true rfl) dX6_byStop_42 h (fun v1 s1 h => ?_)
      refine g_aload_n F (a := 0) (j := 0) dX6_byStop_45 rfl rfl ?_
      refine g_iload_n F (j := 1) dX6_byStop_46 rfl rfl ?_
      refine g_vi F (k := 0) (As := [.int x1]) (rest := [.int v1]) (fun _ q => mX6_costOf N F.inj  q) mw_X6_costOf ml_X6_161 rfl ⟨Nat.le_of_ble_eq_true rfl, Nat.le_of_ble_eq_true rfl⟩ pm0 cl6 rfl (Nat.le_of_ble_eq_true rfl) dX6_byStop_47 h (fun v2 s2 h => ?_)
      refine g_icmp_ge F (tgt := 68) dX6_byStop_50 (by decide) h (fun h => ?_) (fun h => ?_)
      · exact wX6_byStop_68 F R hk22 x1 x2 s2 h
      · exact wX6_byStop_53 F R hk22 x1 x2 s2 h
theorem wX6_byStop_22_lp {X : Cx} (F : Fx false X cX6_byStop RX6 3 6 140) {res : Int32 × SS} (R : RI false X cX6_byStop 3 res) {N : Nat} : ∀ (n : Nat) (x1 : Int32) (x2 : Int32) (s0 : SS), lp (fX6_byStop_22 N) (fun _ _ _ => none) n x1 x2 s0 = some res → G false X 3 22 [(0, rf X.2.2 0), (1, .int x1), (2, .int x2)] [] s0 := by
  intro n
  induction n with
  | zero => intro x1 x2 s0 h; cases (show (none : Option (Int32 × SS)) = some res from h)
  | succ n ih => intro x1 x2 s0 h; exact wX6_byStop_22 F R ih x1 x2 s0 h
set_option maxRecDepth 20000 in
theorem wX6_byStop_e {X : Cx} (F : Fx false X cX6_byStop RX6 3 6 140) {res : Int32 × SS} (R : RI false X cX6_byStop 3 res) {N : Nat} : ∀  (s0 : SS), fX6_byStop N s0 = some res → G false X 3 0 [(0, rf X.2.2 0)] [] s0 := by
  intro  s0 h
  unfold fX6_byStop at h
  refine g_aload_n F (a := 0) (j := 0) dX6_byStop_0 rfl rfl ?_
  refine gt_X6_88 F (k := 0) pm0 dX6_byStop_1 (v := .int (s0 0 21)) rfl ?_
  refine g_ifeq F (tgt := 15) dX6_byStop_4 (by decide) h (fun h => ?_) (fun h => ?_)
  · refine g_sub (lv' := []) [] rfl ?_
    exact wX6_byStop_15 F R s0 h
  · refine g_aload_n F (a := 0) (j := 0) dX6_byStop_7 rfl rfl ?_
    refine g_vi F (k := 0) (As := []) (rest := []) (fun _ q => mX6_order N F.inj  q) mw_X6_order ml_X6_183 rfl ⟨Nat.le_of_ble_eq_true rfl, Nat.le_of_ble_eq_true rfl⟩ pm0 cl6 rfl (Nat.le_of_ble_eq_true rfl) dX6_byStop_8 h (fun v1 s1 h => ?_)
    refine g_iconst F (v := 1) dX6_byStop_11 (by decide) ?_
    refine g_icmp_ne F (tgt := 18) dX6_byStop_12 (by decide) h (fun h => ?_) (fun h => ?_)
    · refine g_sub (lv' := []) [] rfl ?_
      exact wX6_byStop_15 F R s1 h
    · refine g_iconst F (v := (-1)) dX6_byStop_18 (by decide) ?_
      refine g_istore_n F dX6_byStop_19 rfl (by decide) (lv' := [(0, rf X.2.2 0), (1, .int (-1))]) [1, 0] rfl ?_
      refine g_iconst F (v := 0) dX6_byStop_20 (by decide) ?_
      refine g_istore_n F dX6_byStop_21 rfl (by decide) (lv' := [(0, rf X.2.2 0), (1, .int (-1)), (2, .int 0)]) [1, 2, 0] rfl ?_
      exact wX6_byStop_22_lp F R N (-1) 0 s1 h
theorem mX6_byStop {l : Launch} {w : Wd} (N : Nat) (hi : inj false w)  {res : Int32 × SS} {s0 : SS} (h : fX6_byStop N s0 = some res) : MI false l yX6_byStop cX6_byStop 3 (some .int) { frames := 6, cells := 0, slots := 0, locals := 140 } w [rf w 0] s0 res := by
  refine mk_i (by decide) hi (Nat.le_of_ble_eq_true rfl) (fun X hX hL F R => ?_)
  subst hX; subst hL
  exact wX6_byStop_e F R  s0 h
set_option maxRecDepth 20000 in
theorem wX5_step_31 {X : Cx} (F : Fx true X cX5_step RX5 3 16 399) {res : Int32 × SS} (R : RI true X cX5_step 3 res) {N : Nat} : ∀  (s0 : SS), fX5_step_31 N s0 = some res → G true X 3 31 [] [] s0 := by
  intro  s0 h
  unfold fX5_step_31 at h
  refine g_bipush F (v := (-3)) dX5_step_31 (by decide) ?_
  exact R _ _ _ _ dX5_step_33 h
set_option maxRecDepth 20000 in
theorem wX5_step_59 {X : Cx} (F : Fx true X cX5_step RX5 3 16 399) {res : Int32 × SS} (R : RI true X cX5_step 3 res) {N : Nat} : ∀ (x2 : Int32) (s0 : SS), fX5_step_59 N x2 s0 = some res → G true X 3 59 [(2, .int x2)] [] s0 := by
  intro x2 s0 h
  unfold fX5_step_59 at h
  refine g_iload_n F (j := 0) dX5_step_59 rfl rfl ?_
  exact R _ _ _ _ dX5_step_60 h
set_option maxRecDepth 20000 in
theorem wX5_step_e {X : Cx} (F : Fx true X cX5_step RX5 3 16 399) {res : Int32 × SS} (R : RI true X cX5_step 3 res) {N : Nat} : ∀ (a1 : Int32) (s0 : SS), fX5_step N a1 s0 = some res → G true X 3 0 [(0, rf X.2.2 0), (1, .int a1)] [] s0 := by
  intro a1 s0 h
  unfold fX5_step at h
  refine g_aload_n F (a := 0) (j := 0) dX5_step_0 rfl rfl ?_
  refine gt_X5_54 F (k := 0) pc0 dX5_step_1 (v := .int (s0 0 6)) rfl ?_
  refine g_ifeq F (tgt := 31) dX5_step_4 (by decide) h (fun h => ?_) (fun h => ?_)
  · refine g_sub (lv' := []) [] rfl ?_
    exact wX5_step_31 F R s0 h
  · refine g_aload_n F (a := 0) (j := 0) dX5_step_7 rfl rfl ?_
    refine gt_X5_37 F (k := 0) pc0 dX5_step_8 (v := rf X.2.2 27) rfl ?_
    refine g_aload_n F (a := 0) (j := 0) dX5_step_11 rfl rfl ?_
    refine gt_X5_50 F (k := 0) pc0 dX5_step_12 (v := rf X.2.2 40) rfl ?_
    refine g_vi F (k := 27) (As := [rf X.2.2 40]) (rest := []) (fun _ q => mX0_findOrder N F.inj pc40 q) mw_X0_findOrder ml_X5_180 rfl ⟨Nat.le_of_ble_eq_true rfl, Nat.le_of_ble_eq_true rfl⟩ pc27 cl0 rfl (Nat.le_of_ble_eq_true rfl) dX5_step_15 h (fun v1 s1 h => ?_)
    refine g_ifeq F (tgt := 31) dX5_step_18 (by decide) h (fun h => ?_) (fun h => ?_)
    · refine g_sub (lv' := []) [] rfl ?_
      exact wX5_step_31 F R s1 h
    · refine g_aload_n F (a := 0) (j := 0) dX5_step_21 rfl rfl ?_
      refine gt_X5_37 F (k := 0) pc0 dX5_step_22 (v := rf X.2.2 27) rfl ?_
      refine gt_X5_184 F (k := 27) pc27 dX5_step_25 (v := .int (s1 27 3)) rfl ?_
      refine g_ifne F (tgt := 34) dX5_step_28 (by decide) h (fun h => ?_) (fun h => ?_)
      · refine g_sub (lv' := []) [] rfl ?_
        exact wX5_step_31 F R s1 h
      · refine g_aload_n F (a := 0) (j := 0) dX5_step_34 rfl rfl ?_
        refine gt_X5_37 F (k := 0) pc0 dX5_step_35 (v := rf X.2.2 27) rfl ?_
        refine gt_X5_187 F (k := 27) pc27 dX5_step_38 (v := rf X.2.2 28) rfl ?_
        refine g_iconst F (v := 0) dX5_step_41 (by decide) ?_
        refine g_iald F (k := 28) pc28 dX5_step_42 h (fun h => ?_)
        refine g_istore_n F dX5_step_43 rfl (by decide) (lv' := [(0, rf X.2.2 0), (1, .int a1), (2, .int (s1 28 (Int32.toNatClampNeg 0)))]) [1, 2, 0] rfl ?_
        refine g_iload_n F (j := 1) dX5_step_44 rfl rfl ?_
        refine g_ifne F (tgt := 59) dX5_step_45 (by decide) h (fun h => ?_) (fun h => ?_)
        · refine g_aload_n F (a := 0) (j := 0) dX5_step_48 rfl rfl ?_
          refine g_iload_n F (j := 2) dX5_step_49 rfl rfl ?_
          refine g_aload_n F (a := 0) (j := 0) dX5_step_50 rfl rfl ?_
          refine gt_X5_50 F (k := 0) pc0 dX5_step_51 (v := rf X.2.2 40) rfl ?_
          refine g_iload_n F (j := 2) dX5_step_54 rfl rfl ?_
          refine g_iald F (k := 40) pc40 dX5_step_55 h (fun h => ?_)
          refine g_vv F (k := 0) (As := [.int (s1 28 (Int32.toNatClampNeg 0)), .int (s1 40 (Int32.toNatClampNeg (s1 28 (Int32.toNatClampNeg 0))))]) (rest := []) (fun _ q => mX5_makeMove N F.inj  q) mw_X5_makeMove ml_X5_121 rfl ⟨Nat.le_of_ble_eq_true rfl, Nat.le_of_ble_eq_true rfl⟩ pc0 cl5 rfl (Nat.le_of_ble_eq_true rfl) dX5_step_56 h (fun s2 h => ?_)
          refine g_sub (lv' := [(2, .int (s1 28 (Int32.toNatClampNeg 0)))]) [2] rfl ?_
          exact wX5_step_59 F R (s1 28 (Int32.toNatClampNeg 0)) s2 h
        · refine g_sub (lv' := [(2, .int (s1 28 (Int32.toNatClampNeg 0)))]) [2] rfl ?_
          exact wX5_step_59 F R (s1 28 (Int32.toNatClampNeg 0)) s1 h
theorem mX5_step {l : Launch} {w : Wd} (N : Nat) (hi : inj true w)  {res : Int32 × SS} {a1 : Int32} {s0 : SS} (h : fX5_step N a1 s0 = some res) : MI true l yX5_step cX5_step 3 (some .int) { frames := 16, cells := 0, slots := 0, locals := 399 } w [rf w 0, .int a1] s0 res := by
  refine mk_i (by decide) hi (Nat.le_of_ble_eq_true rfl) (fun X hX hL F R => ?_)
  subst hX; subst hL
  exact wX5_step_e F R a1 s0 h
set_option maxRecDepth 20000 in
theorem wX6_step_21 {X : Cx} (F : Fx false X cX6_step RX6 3 6 140) {res : Int32 × SS} (R : RI false X cX6_step 3 res) {N : Nat} : ∀  (s0 : SS), fX6_step_21 N s0 = some res → G false X 3 21 [] [] s0 := by
  intro  s0 h
  unfold fX6_step_21 at h
  refine g_bipush F (v := (-3)) dX6_step_21 (by decide) ?_
  exact R _ _ _ _ dX6_step_23 h
set_option maxRecDepth 20000 in
theorem wX6_step_55 {X : Cx} (F : Fx false X cX6_step RX6 3 6 140) {res : Int32 × SS} (R : RI false X cX6_step 3 res) {N : Nat} : ∀ (x2 : Int32) (s0 : SS), fX6_step_55 N x2 s0 = some res → G false X 3 55 [(0, rf X.2.2 0), (2, .int x2)] [] s0 := by
  intro x2 s0 h
  unfold fX6_step_55 at h
  refine g_aload_n F (a := 0) (j := 0) dX6_step_55 rfl rfl ?_
  refine gt_X6_48 F (k := 0) pm0 dX6_step_56 (v := rf X.2.2 12) rfl ?_
  refine g_iload_n F (j := 1) dX6_step_59 rfl rfl ?_
  refine g_iald F (k := 12) pm12 dX6_step_60 h (fun h => ?_)
  exact R _ _ _ _ dX6_step_61 h
set_option maxRecDepth 20000 in
theorem wX6_step_e {X : Cx} (F : Fx false X cX6_step RX6 3 6 140) {res : Int32 × SS} (R : RI false X cX6_step 3 res) {N : Nat} : ∀ (a1 : Int32) (s0 : SS), fX6_step N a1 s0 = some res → G false X 3 0 [(0, rf X.2.2 0), (1, .int a1)] [] s0 := by
  intro a1 s0 h
  unfold fX6_step at h
  refine g_aload_n F (a := 0) (j := 0) dX6_step_0 rfl rfl ?_
  refine gt_X6_88 F (k := 0) pm0 dX6_step_1 (v := .int (s0 0 21)) rfl ?_
  refine g_ifeq F (tgt := 21) dX6_step_4 (by decide) h (fun h => ?_) (fun h => ?_)
  · refine g_sub (lv' := []) [] rfl ?_
    exact wX6_step_21 F R s0 h
  · refine g_aload_n F (a := 0) (j := 0) dX6_step_7 rfl rfl ?_
    refine g_vi F (k := 0) (As := []) (rest := []) (fun _ q => mX6_order N F.inj  q) mw_X6_order ml_X6_183 rfl ⟨Nat.le_of_ble_eq_true rfl, Nat.le_of_ble_eq_true rfl⟩ pm0 cl6 rfl (Nat.le_of_ble_eq_true rfl) dX6_step_8 h (fun v1 s1 h => ?_)
    refine g_ifeq F (tgt := 21) dX6_step_11 (by decide) h (fun h => ?_) (fun h => ?_)
    · refine g_sub (lv' := []) [] rfl ?_
      exact wX6_step_21 F R s1 h
    · refine g_aload_n F (a := 0) (j := 0) dX6_step_14 rfl rfl ?_
      refine gt_X6_164 F (k := 0) pm0 dX6_step_15 (v := .int (s1 0 23)) rfl ?_
      refine g_ifne F (tgt := 24) dX6_step_18 (by decide) h (fun h => ?_) (fun h => ?_)
      · refine g_sub (lv' := []) [] rfl ?_
        exact wX6_step_21 F R s1 h
      · refine g_aload_n F (a := 0) (j := 0) dX6_step_24 rfl rfl ?_
        refine g_iconst F (v := 0) dX6_step_25 (by decide) ?_
        refine g_vi F (k := 0) (As := [.int 0]) (rest := []) (fun _ q => mX6_firstOf N F.inj  q) mw_X6_firstOf ml_X6_180 rfl ⟨Nat.le_of_ble_eq_true rfl, Nat.le_of_ble_eq_true rfl⟩ pm0 cl6 rfl (Nat.le_of_ble_eq_true rfl) dX6_step_26 h (fun v2 s2 h => ?_)
        refine g_istore_n F dX6_step_29 rfl (by decide) (lv' := [(0, rf X.2.2 0), (1, .int a1), (2, .int v2)]) [1, 2, 0] rfl ?_
        refine g_iload_n F (j := 1) dX6_step_30 rfl rfl ?_
        refine g_ifne F (tgt := 55) dX6_step_31 (by decide) h (fun h => ?_) (fun h => ?_)
        · refine g_aload_n F (a := 0) (j := 0) dX6_step_34 rfl rfl ?_
          refine g_aload_n F (a := 0) (j := 0) dX6_step_35 rfl rfl ?_
          refine gt_X6_48 F (k := 0) pm0 dX6_step_36 (v := rf X.2.2 12) rfl ?_
          refine g_iload_n F (j := 2) dX6_step_39 rfl rfl ?_
          refine g_iald F (k := 12) pm12 dX6_step_40 h (fun h => ?_)
          refine g_aload_n F (a := 0) (j := 0) dX6_step_41 rfl rfl ?_
          refine gt_X6_45 F (k := 0) pm0 dX6_step_42 (v := rf X.2.2 11) rfl ?_
          refine g_aload_n F (a := 0) (j := 0) dX6_step_45 rfl rfl ?_
          refine gt_X6_48 F (k := 0) pm0 dX6_step_46 (v := rf X.2.2 12) rfl ?_
          refine g_iload_n F (j := 2) dX6_step_49 rfl rfl ?_
          refine g_iald F (k := 12) pm12 dX6_step_50 h (fun h => ?_)
          refine g_iald F (k := 11) pm11 dX6_step_51 h (fun h => ?_)
          refine g_vv F (k := 0) (As := [.int (s2 12 (Int32.toNatClampNeg v2)), .int (s2 11 (Int32.toNatClampNeg (s2 12 (Int32.toNatClampNeg v2))))]) (rest := []) (fun _ q => mX6_carry N F.inj  q) mw_X6_carry ml_X6_192 rfl ⟨Nat.le_of_ble_eq_true rfl, Nat.le_of_ble_eq_true rfl⟩ pm0 cl6 rfl (Nat.le_of_ble_eq_true rfl) dX6_step_52 h (fun s3 h => ?_)
          refine g_sub (lv' := [(0, rf X.2.2 0), (2, .int v2)]) [0, 2] rfl ?_
          exact wX6_step_55 F R v2 s3 h
        · refine g_sub (lv' := [(0, rf X.2.2 0), (2, .int v2)]) [0, 2] rfl ?_
          exact wX6_step_55 F R v2 s2 h
theorem mX6_step {l : Launch} {w : Wd} (N : Nat) (hi : inj false w)  {res : Int32 × SS} {a1 : Int32} {s0 : SS} (h : fX6_step N a1 s0 = some res) : MI false l yX6_step cX6_step 3 (some .int) { frames := 6, cells := 0, slots := 0, locals := 140 } w [rf w 0, .int a1] s0 res := by
  refine mk_i (by decide) hi (Nat.le_of_ble_eq_true rfl) (fun X hX hL F R => ?_)
  subst hX; subst hL
  exact wX6_step_e F R a1 s0 h
set_option maxRecDepth 20000 in
theorem wX5_tick_12 {X : Cx} (F : Fx true X cX5_tick RX5 4 1 22) {res : Int32 × SS} (R : RI true X cX5_tick 4 res) {N : Nat} : ∀  (s0 : SS), fX5_tick_12 N s0 = some res → G true X 4 12 [] [] s0 := by
  intro  s0 h
  unfold fX5_tick_12 at h
  refine g_bipush F (v := (-2)) dX5_tick_12 (by decide) ?_
  exact R _ _ _ _ dX5_tick_14 h
set_option maxRecDepth 20000 in
theorem wX5_tick_79 {X : Cx} (F : Fx true X cX5_tick RX5 4 1 22) {res : Int32 × SS} (R : RI true X cX5_tick 4 res) {N : Nat} {k29 : Int32 → Int32 → SS → Option (Int32 × SS)} (hk29 : ∀ (x2 : Int32) (x3 : Int32) (σ : SS), k29 x2 x3 σ = some res → G true X 4 29 [(0, rf X.2.2 0), (2, .int x2), (3, .int x3)] [] σ) : ∀ (x2 : Int32) (x3 : Int32) (s0 : SS), fX5_tick_79 N k29 x2 x3 s0 = some res → G true X 4 79 [(0, rf X.2.2 0), (2, .int x2), (3, .int x3)] [] s0 := by
  intro x2 x3 s0 h
  unfold fX5_tick_79 at h
  refine g_iinc F (j := 2) (v := x3 + 1) dX5_tick_79 rfl rfl (by decide) (lv' := [(0, rf X.2.2 0), (2, .int x2), (3, .int (x3 + 1))]) [1, 2, 0] rfl ?_
  refine g_goto F (tgt := 29) dX5_tick_82 (by decide) ?_
  exact hk29 x2 (x3 + 1) s0 h
set_option maxRecDepth 20000 in
theorem wX5_tick_94 {X : Cx} (F : Fx true X cX5_tick RX5 4 1 22) {res : Int32 × SS} (R : RI true X cX5_tick 4 res) {N : Nat} : ∀ (x2 : Int32) (s0 : SS), fX5_tick_94 N x2 s0 = some res → G true X 4 94 [(2, .int x2)] [] s0 := by
  intro x2 s0 h
  unfold fX5_tick_94 at h
  refine g_iload_n F (j := 0) dX5_tick_94 rfl rfl ?_
  exact R _ _ _ _ dX5_tick_95 h
set_option maxRecDepth 20000 in
theorem wX5_tick_29 {X : Cx} (F : Fx true X cX5_tick RX5 4 1 22) {res : Int32 × SS} (R : RI true X cX5_tick 4 res) {N : Nat} {k29 : Int32 → Int32 → SS → Option (Int32 × SS)} (hk29 : ∀ (x2 : Int32) (x3 : Int32) (σ : SS), k29 x2 x3 σ = some res → G true X 4 29 [(0, rf X.2.2 0), (2, .int x2), (3, .int x3)] [] σ) : ∀ (x2 : Int32) (x3 : Int32) (s0 : SS), fX5_tick_29 N k29 x2 x3 s0 = some res → G true X 4 29 [(0, rf X.2.2 0), (2, .int x2), (3, .int x3)] [] s0 := by
  intro x2 x3 s0 h
  unfold fX5_tick_29 at h
  refine g_iload_n F (j := 2) dX5_tick_29 rfl rfl ?_
  refine g_aload_n F (a := 0) (j := 0) dX5_tick_30 rfl rfl ?_
  refine gt_X5_10 F (k := 0) pc0 dX5_tick_31 (v := rf X.2.2 1) rfl ?_
  refine gt_X5_96 F (k := 1) pc1 dX5_tick_34 (v := .int (s0 1 1)) rfl ?_
  refine g_icmp_ge F (tgt := 85) dX5_tick_37 (by decide) h (fun h => ?_) (fun h => ?_)
  · refine g_iload_n F (j := 1) dX5_tick_85 rfl rfl ?_
    refine g_ifle F (tgt := 94) dX5_tick_86 (by decide) h (fun h => ?_) (fun h => ?_)
    · refine g_sub (lv' := [(2, .int x2)]) [1] rfl ?_
      exact wX5_tick_94 F R x2 s0 h
    · refine g_aload_n F (a := 0) (j := 0) dX5_tick_89 rfl rfl ?_
      refine g_iconst F (v := 0) dX5_tick_90 (by decide) ?_
      refine pt_X5_54 F (k := 0) pc0 (Nat.le_of_ble_eq_true rfl) rfl dX5_tick_91 (by decide) h (fun s1 h => ?_)
      refine g_sub (lv' := [(2, .int x2)]) [1] rfl ?_
      exact wX5_tick_94 F R x2 s1 h
  · refine g_aload_n F (a := 0) (j := 0) dX5_tick_40 rfl rfl ?_
    refine gt_X5_21 F (k := 0) pc0 dX5_tick_41 (v := rf X.2.2 13) rfl ?_
    refine gt_X5_115 F (k := 13) pc13 dX5_tick_44 (v := rf X.2.2 14) rfl ?_
    refine g_iload_n F (j := 2) dX5_tick_47 rfl rfl ?_
    refine g_iald F (k := 14) pc14 dX5_tick_48 h (fun h => ?_)
    refine g_iconst F (v := (-1)) dX5_tick_49 (by decide) ?_
    refine g_icmp_eq F (tgt := 79) dX5_tick_50 (by decide) h (fun h => ?_) (fun h => ?_)
    · exact wX5_tick_79 F R hk29 x2 x3 s0 h
    · refine g_aload_n F (a := 0) (j := 0) dX5_tick_53 rfl rfl ?_
      refine gt_X5_10 F (k := 0) pc0 dX5_tick_54 (v := rf X.2.2 1) rfl ?_
      refine g_iload_n F (j := 2) dX5_tick_57 rfl rfl ?_
      refine g_aload_n F (a := 0) (j := 0) dX5_tick_58 rfl rfl ?_
      refine gt_X5_62 F (k := 0) pc0 dX5_tick_59 (v := .int (s0 0 8)) rfl ?_
      refine g_vi F (k := 1) (As := [.int x3, .int (s0 0 8)]) (rest := []) (fun _ q => mX3_endsBy N F.inj  q) mw_X3_endsBy ml_X5_200 rfl ⟨Nat.le_of_ble_eq_true rfl, Nat.le_of_ble_eq_true rfl⟩ pc1 cl3 rfl (Nat.le_of_ble_eq_true rfl) dX5_tick_62 h (fun v2 s2 h => ?_)
      refine g_ifeq F (tgt := 79) dX5_tick_65 (by decide) h (fun h => ?_) (fun h => ?_)
      · exact wX5_tick_79 F R hk29 x2 x3 s2 h
      · refine g_aload_n F (a := 0) (j := 0) dX5_tick_68 rfl rfl ?_
        refine gt_X5_21 F (k := 0) pc0 dX5_tick_69 (v := rf X.2.2 13) rfl ?_
        refine g_iload_n F (j := 2) dX5_tick_72 rfl rfl ?_
        refine g_vv F (k := 13) (As := [.int x3]) (rest := []) (fun _ q => mX1_remove N F.inj row13 q) mw_X1_remove ml_X5_203 rfl ⟨Nat.le_of_ble_eq_true rfl, Nat.le_of_ble_eq_true rfl⟩ pc13 cl1 rfl (Nat.le_of_ble_eq_true rfl) dX5_tick_73 h (fun s3 h => ?_)
        refine g_iinc F (j := 1) (v := x2 + 1) dX5_tick_76 rfl rfl (by decide) (lv' := [(0, rf X.2.2 0), (2, .int (x2 + 1)), (3, .int x3)]) [1, 0, 2] rfl ?_
        exact wX5_tick_79 F R hk29 (x2 + 1) x3 s3 h
theorem wX5_tick_29_lp {X : Cx} (F : Fx true X cX5_tick RX5 4 1 22) {res : Int32 × SS} (R : RI true X cX5_tick 4 res) {N : Nat} : ∀ (n : Nat) (x2 : Int32) (x3 : Int32) (s0 : SS), lp (fX5_tick_29 N) (fun _ _ _ => none) n x2 x3 s0 = some res → G true X 4 29 [(0, rf X.2.2 0), (2, .int x2), (3, .int x3)] [] s0 := by
  intro n
  induction n with
  | zero => intro x2 x3 s0 h; cases (show (none : Option (Int32 × SS)) = some res from h)
  | succ n ih => intro x2 x3 s0 h; exact wX5_tick_29 F R ih x2 x3 s0 h
set_option maxRecDepth 20000 in
theorem wX5_tick_e {X : Cx} (F : Fx true X cX5_tick RX5 4 1 22) {res : Int32 × SS} (R : RI true X cX5_tick 4 res) {N : Nat} : ∀ (a1 : Int32) (s0 : SS), fX5_tick N a1 s0 = some res → G true X 4 0 [(0, rf X.2.2 0), (1, .int a1)] [] s0 := by
  intro a1 s0 h
  unfold fX5_tick at h
  refine g_iload_n F (j := 1) dX5_tick_0 rfl rfl ?_
  refine g_iconst F (v := 1) dX5_tick_1 (by decide) ?_
  refine g_icmp_lt F (tgt := 12) dX5_tick_2 (by decide) h (fun h => ?_) (fun h => ?_)
  · refine g_sub (lv' := []) [] rfl ?_
    exact wX5_tick_12 F R s0 h
  · refine g_iload_n F (j := 1) dX5_tick_5 rfl rfl ?_
    refine g_sipush F (v := 1000) dX5_tick_6 (by decide) ?_
    refine g_icmp_le F (tgt := 15) dX5_tick_9 (by decide) h (fun h => ?_) (fun h => ?_)
    · refine g_aload_n F (a := 0) (j := 0) dX5_tick_15 rfl rfl ?_
      refine g_dupr F dX5_tick_16 ?_
      refine gt_X5_62 F (k := 0) pc0 dX5_tick_17 (v := .int (s0 0 8)) rfl ?_
      refine g_iload_n F (j := 1) dX5_tick_20 rfl rfl ?_
      refine g_iadd F dX5_tick_21 ?_
      refine pt_X5_62 F (k := 0) pc0 (Nat.le_of_ble_eq_true rfl) rfl dX5_tick_22 h (fun s1 h => ?_)
      refine g_iconst F (v := 0) dX5_tick_25 (by decide) ?_
      refine g_istore_n F dX5_tick_26 rfl (by decide) (lv' := [(0, rf X.2.2 0), (2, .int 0)]) [1, 0] rfl ?_
      refine g_iconst F (v := 0) dX5_tick_27 (by decide) ?_
      refine g_istore_n F dX5_tick_28 rfl (by decide) (lv' := [(0, rf X.2.2 0), (2, .int 0), (3, .int 0)]) [1, 2, 0] rfl ?_
      exact wX5_tick_29_lp F R N 0 0 s1 h
    · refine g_sub (lv' := []) [] rfl ?_
      exact wX5_tick_12 F R s0 h
theorem mX5_tick {l : Launch} {w : Wd} (N : Nat) (hi : inj true w)  {res : Int32 × SS} {a1 : Int32} {s0 : SS} (h : fX5_tick N a1 s0 = some res) : MI true l yX5_tick cX5_tick 4 (some .int) { frames := 1, cells := 0, slots := 0, locals := 22 } w [rf w 0, .int a1] s0 res := by
  refine mk_i (by decide) hi (Nat.le_of_ble_eq_true rfl) (fun X hX hL F R => ?_)
  subst hX; subst hL
  exact wX5_tick_e F R a1 s0 h
set_option maxRecDepth 20000 in
theorem wX6_tick_78 {X : Cx} (F : Fx false X cX6_tick RX6 4 1 22) {res : Int32 × SS} (R : RI false X cX6_tick 4 res) {N : Nat} {k28 : Int32 → Int32 → SS → Option (Int32 × SS)} (hk28 : ∀ (x2 : Int32) (x3 : Int32) (σ : SS), k28 x2 x3 σ = some res → G false X 4 28 [(0, rf X.2.2 0), (2, .int x2), (3, .int x3)] [] σ) : ∀ (x2 : Int32) (x3 : Int32) (s0 : SS), fX6_tick_78 N k28 x2 x3 s0 = some res → G false X 4 78 [(0, rf X.2.2 0), (2, .int x2), (3, .int x3)] [] s0 := by
  intro x2 x3 s0 h
  unfold fX6_tick_78 at h
  refine g_iinc F (j := 2) (v := x3 + 1) dX6_tick_78 rfl rfl (by decide) (lv' := [(0, rf X.2.2 0), (2, .int x2), (3, .int (x3 + 1))]) [1, 2, 0] rfl ?_
  refine g_goto F (tgt := 28) dX6_tick_81 (by decide) ?_
  exact hk28 x2 (x3 + 1) s0 h
set_option maxRecDepth 20000 in
theorem wX6_tick_101 {X : Cx} (F : Fx false X cX6_tick RX6 4 1 22) {res : Int32 × SS} (R : RI false X cX6_tick 4 res) {N : Nat} : ∀ (x2 : Int32) (t0 : Int32) (s0 : SS), fX6_tick_101 N x2 t0 s0 = some res → G false X 4 101 [(2, .int x2)] [.int t0, rf X.2.2 0] s0 := by
  intro x2 t0 s0 h
  unfold fX6_tick_101 at h
  obtain ⟨hz, h⟩ := zk_some h
  refine pt_X6_88 F (k := 0) pm0 (Nat.le_of_ble_eq_true rfl) rfl dX6_tick_101 hz h (fun s1 h => ?_)
  refine g_iload_n F (j := 0) dX6_tick_104 rfl rfl ?_
  exact R _ _ _ _ dX6_tick_105 h
set_option maxRecDepth 20000 in
theorem wX6_tick_100 {X : Cx} (F : Fx false X cX6_tick RX6 4 1 22) {res : Int32 × SS} (R : RI false X cX6_tick 4 res) {N : Nat} : ∀ (x2 : Int32) (s0 : SS), fX6_tick_100 N x2 s0 = some res → G false X 4 100 [(2, .int x2)] [rf X.2.2 0] s0 := by
  intro x2 s0 h
  unfold fX6_tick_100 at h
  refine g_iconst F (v := 0) dX6_tick_100 (by decide) ?_
  exact wX6_tick_101 F R x2 0 s0 h
set_option maxRecDepth 20000 in
theorem wX6_tick_28 {X : Cx} (F : Fx false X cX6_tick RX6 4 1 22) {res : Int32 × SS} (R : RI false X cX6_tick 4 res) {N : Nat} {k28 : Int32 → Int32 → SS → Option (Int32 × SS)} (hk28 : ∀ (x2 : Int32) (x3 : Int32) (σ : SS), k28 x2 x3 σ = some res → G false X 4 28 [(0, rf X.2.2 0), (2, .int x2), (3, .int x3)] [] σ) : ∀ (x2 : Int32) (x3 : Int32) (s0 : SS), fX6_tick_28 N k28 x2 x3 s0 = some res → G false X 4 28 [(0, rf X.2.2 0), (2, .int x2), (3, .int x3)] [] s0 := by
  intro x2 x3 s0 h
  unfold fX6_tick_28 at h
  refine g_iload_n F (j := 2) dX6_tick_28 rfl rfl ?_
  refine g_aload_n F (a := 0) (j := 0) dX6_tick_29 rfl rfl ?_
  refine gt_X6_67 F (k := 0) pm0 dX6_tick_30 (v := .int (s0 0 3)) rfl ?_
  refine g_icmp_ge F (tgt := 84) dX6_tick_33 (by decide) h (fun h => ?_) (fun h => ?_)
  · refine g_aload_n F (a := 0) (j := 0) dX6_tick_84 rfl rfl ?_
    refine g_aload_n F (a := 0) (j := 0) dX6_tick_85 rfl rfl ?_
    refine gt_X6_88 F (k := 0) pm0 dX6_tick_86 (v := .int (s0 0 21)) rfl ?_
    refine g_ifeq F (tgt := 100) dX6_tick_89 (by decide) h (fun h => ?_) (fun h => ?_)
    · refine g_sub (lv' := [(2, .int x2)]) [1] rfl ?_
      exact wX6_tick_100 F R x2 s0 h
    · refine g_iload_n F (j := 1) dX6_tick_92 rfl rfl ?_
      refine g_ifne F (tgt := 100) dX6_tick_93 (by decide) h (fun h => ?_) (fun h => ?_)
      · refine g_iconst F (v := 1) dX6_tick_96 (by decide) ?_
        refine g_goto F (tgt := 101) dX6_tick_97 (by decide) ?_
        refine g_sub (lv' := [(2, .int x2)]) [1] rfl ?_
        exact wX6_tick_101 F R x2 1 s0 h
      · refine g_sub (lv' := [(2, .int x2)]) [1] rfl ?_
        exact wX6_tick_100 F R x2 s0 h
  · refine g_aload_n F (a := 0) (j := 0) dX6_tick_36 rfl rfl ?_
    refine gt_X6_31 F (k := 0) pm0 dX6_tick_37 (v := rf X.2.2 8) rfl ?_
    refine g_iload_n F (j := 2) dX6_tick_40 rfl rfl ?_
    refine g_zald F (k := 8) pm8 dX6_tick_41 h (fun h => ?_)
    refine g_ifne F (tgt := 78) dX6_tick_42 (by decide) h (fun h => ?_) (fun h => ?_)
    · refine g_aload_n F (a := 0) (j := 0) dX6_tick_45 rfl rfl ?_
      refine gt_X6_22 F (k := 0) pm0 dX6_tick_46 (v := rf X.2.2 5) rfl ?_
      refine g_iload_n F (j := 2) dX6_tick_49 rfl rfl ?_
      refine g_iald F (k := 5) pm5 dX6_tick_50 h (fun h => ?_)
      refine g_iconst F (v := 4) dX6_tick_51 (by decide) ?_
      refine g_icmp_ne F (tgt := 78) dX6_tick_52 (by decide) h (fun h => ?_) (fun h => ?_)
      · refine g_aload_n F (a := 0) (j := 0) dX6_tick_55 rfl rfl ?_
        refine gt_X6_25 F (k := 0) pm0 dX6_tick_56 (v := rf X.2.2 6) rfl ?_
        refine g_iload_n F (j := 2) dX6_tick_59 rfl rfl ?_
        refine g_iald F (k := 6) pm6 dX6_tick_60 h (fun h => ?_)
        refine g_aload_n F (a := 0) (j := 0) dX6_tick_61 rfl rfl ?_
        refine gt_X6_77 F (k := 0) pm0 dX6_tick_62 (v := .int (s0 0 10)) rfl ?_
        refine g_icmp_gt F (tgt := 78) dX6_tick_65 (by decide) h (fun h => ?_) (fun h => ?_)
        · exact wX6_tick_78 F R hk28 x2 x3 s0 h
        · refine g_aload_n F (a := 0) (j := 0) dX6_tick_68 rfl rfl ?_
          refine gt_X6_31 F (k := 0) pm0 dX6_tick_69 (v := rf X.2.2 8) rfl ?_
          refine g_iload_n F (j := 2) dX6_tick_72 rfl rfl ?_
          refine g_iconst F (v := 1) dX6_tick_73 (by decide) ?_
          refine g_zast F (k := 8) pm8 dX6_tick_74 h (fun s1 h => ?_)
          refine g_iinc F (j := 1) (v := x2 + 1) dX6_tick_75 rfl rfl (by decide) (lv' := [(0, rf X.2.2 0), (2, .int (x2 + 1)), (3, .int x3)]) [1, 0, 2] rfl ?_
          exact wX6_tick_78 F R hk28 (x2 + 1) x3 s1 h
      · exact wX6_tick_78 F R hk28 x2 x3 s0 h
    · exact wX6_tick_78 F R hk28 x2 x3 s0 h
theorem wX6_tick_28_lp {X : Cx} (F : Fx false X cX6_tick RX6 4 1 22) {res : Int32 × SS} (R : RI false X cX6_tick 4 res) {N : Nat} : ∀ (n : Nat) (x2 : Int32) (x3 : Int32) (s0 : SS), lp (fX6_tick_28 N) (fun _ _ _ => none) n x2 x3 s0 = some res → G false X 4 28 [(0, rf X.2.2 0), (2, .int x2), (3, .int x3)] [] s0 := by
  intro n
  induction n with
  | zero => intro x2 x3 s0 h; cases (show (none : Option (Int32 × SS)) = some res from h)
  | succ n ih => intro x2 x3 s0 h; exact wX6_tick_28 F R ih x2 x3 s0 h
set_option maxRecDepth 20000 in
theorem wX6_tick_e {X : Cx} (F : Fx false X cX6_tick RX6 4 1 22) {res : Int32 × SS} (R : RI false X cX6_tick 4 res) {N : Nat} : ∀ (a1 : Int32) (s0 : SS), fX6_tick N a1 s0 = some res → G false X 4 0 [(0, rf X.2.2 0), (1, .int a1)] [] s0 := by
  intro a1 s0 h
  unfold fX6_tick at h
  refine g_iload_n F (j := 1) dX6_tick_0 rfl rfl ?_
  refine g_iconst F (v := 1) dX6_tick_1 (by decide) ?_
  refine g_sipush F (v := 1000) dX6_tick_2 (by decide) ?_
  refine g_si F (As := [.int a1, .int 1, .int 1000]) (rest := []) (fun _ q => mX6_in N F.inj  q) mw_X6_in ml_X6_60 rfl ⟨Nat.le_of_ble_eq_true rfl, Nat.le_of_ble_eq_true rfl⟩ rfl (Nat.le_of_ble_eq_true rfl) dX6_tick_5 h (fun v1 s1 h => ?_)
  refine g_ifne F (tgt := 14) dX6_tick_8 (by decide) h (fun h => ?_) (fun h => ?_)
  · refine g_bipush F (v := (-2)) dX6_tick_11 (by decide) ?_
    exact R _ _ _ _ dX6_tick_13 h
  · refine g_aload_n F (a := 0) (j := 0) dX6_tick_14 rfl rfl ?_
    refine g_dupr F dX6_tick_15 ?_
    refine gt_X6_77 F (k := 0) pm0 dX6_tick_16 (v := .int (s1 0 10)) rfl ?_
    refine g_iload_n F (j := 1) dX6_tick_19 rfl rfl ?_
    refine g_iadd F dX6_tick_20 ?_
    refine pt_X6_77 F (k := 0) pm0 (Nat.le_of_ble_eq_true rfl) rfl dX6_tick_21 h (fun s2 h => ?_)
    refine g_iconst F (v := 0) dX6_tick_24 (by decide) ?_
    refine g_istore_n F dX6_tick_25 rfl (by decide) (lv' := [(0, rf X.2.2 0), (2, .int 0)]) [1, 0] rfl ?_
    refine g_iconst F (v := 0) dX6_tick_26 (by decide) ?_
    refine g_istore_n F dX6_tick_27 rfl (by decide) (lv' := [(0, rf X.2.2 0), (2, .int 0), (3, .int 0)]) [1, 2, 0] rfl ?_
    exact wX6_tick_28_lp F R N 0 0 s2 h
theorem mX6_tick {l : Launch} {w : Wd} (N : Nat) (hi : inj false w)  {res : Int32 × SS} {a1 : Int32} {s0 : SS} (h : fX6_tick N a1 s0 = some res) : MI false l yX6_tick cX6_tick 4 (some .int) { frames := 1, cells := 0, slots := 0, locals := 22 } w [rf w 0, .int a1] s0 res := by
  refine mk_i (by decide) hi (Nat.le_of_ble_eq_true rfl) (fun X hX hL F R => ?_)
  subst hX; subst hL
  exact wX6_tick_e F R a1 s0 h
set_option maxRecDepth 20000 in
theorem wX4_weigh_29 {X : Cx} (F : Fx true X cX4_weigh RX4 7 14 368) {res : Int32 × SS} (R : RZ true X cX4_weigh 7 res) {N : Nat} : ∀  (s0 : SS), fX4_weigh_29 N s0 = some res → G true X 7 29 [(0, rf X.2.2 39)] [] s0 := by
  intro  s0 h
  unfold fX4_weigh_29 at h
  refine g_aload_n F (a := 39) (j := 0) dX4_weigh_29 rfl rfl ?_
  refine gt_X4_27 F (k := 39) pc39 dX4_weigh_30 (v := rf X.2.2 19) rfl ?_
  refine gt_X4_62 F (k := 19) pc19 dX4_weigh_33 (v := .int (s0 19 5)) rfl ?_
  exact R _ _ _ _ dX4_weigh_36 h
set_option maxRecDepth 20000 in
theorem wX4_weigh_119 {X : Cx} (F : Fx true X cX4_weigh RX4 7 14 368) {res : Int32 × SS} (R : RZ true X cX4_weigh 7 res) {N : Nat} : ∀  (s0 : SS), fX4_weigh_119 N s0 = some res → G true X 7 119 [] [] s0 := by
  intro  s0 h
  unfold fX4_weigh_119 at h
  refine g_iconst F (v := 0) dX4_weigh_119 (by decide) ?_
  exact R _ _ _ _ dX4_weigh_120 h
set_option maxRecDepth 20000 in
theorem wX4_weigh_108 {X : Cx} (F : Fx true X cX4_weigh RX4 7 14 368) {res : Int32 × SS} (R : RZ true X cX4_weigh 7 res) {N : Nat} : ∀ (x2 : Int32) (x4 : Int64) (s0 : SS), fX4_weigh_108 N x2 x4 s0 = some res → G true X 7 108 [(0, rf X.2.2 39), (2, .int x2), (4, .long x4)] [] s0 := by
  intro x2 x4 s0 h
  unfold fX4_weigh_108 at h
  refine g_aload_n F (a := 39) (j := 0) dX4_weigh_108 rfl rfl ?_
  refine g_iload_n F (j := 1) dX4_weigh_109 rfl rfl ?_
  refine pt_X4_9 F (k := 39) pc39 (Nat.le_of_ble_eq_true rfl) rfl dX4_weigh_110 h (fun s1 h => ?_)
  refine g_aload_n F (a := 39) (j := 0) dX4_weigh_113 rfl rfl ?_
  refine g_lload F (j := 2) dX4_weigh_114 rfl ?_
  refine pt_X4_15 F (k := 39) pc39 (Nat.le_of_ble_eq_true rfl) (congrArg (fun z => [rf X.2.2 1, rf X.2.2 13, rf X.2.2 19, Value.int (s1 39 3), Value.long z]) (pk_hl x4).symm) dX4_weigh_116 h (fun s2 h => ?_)
  refine g_sub (lv' := []) [] rfl ?_
  exact wX4_weigh_119 F R s2 h
set_option maxRecDepth 20000 in
theorem wX4_weigh_93 {X : Cx} (F : Fx true X cX4_weigh RX4 7 14 368) {res : Int32 × SS} (R : RZ true X cX4_weigh 7 res) {N : Nat} : ∀ (x2 : Int32) (x4 : Int64) (t0 : Int32) (s0 : SS), fX4_weigh_93 N x2 x4 t0 s0 = some res → G true X 7 93 [(0, rf X.2.2 39), (2, .int x2), (4, .long x4)] [.int t0] s0 := by
  intro x2 x4 t0 s0 h
  unfold fX4_weigh_93 at h
  refine g_istore F dX4_weigh_93 (by decide) (lv' := [(0, rf X.2.2 39), (2, .int x2), (4, .long x4), (6, .int t0)]) [1, 2, 3, 0] rfl ?_
  refine g_aload_n F (a := 39) (j := 0) dX4_weigh_95 rfl rfl ?_
  refine gt_X4_9 F (k := 39) pc39 dX4_weigh_96 (v := .int (s0 39 3)) rfl ?_
  refine g_iconst F (v := (-1)) dX4_weigh_99 (by decide) ?_
  refine g_icmp_eq F (tgt := 108) dX4_weigh_100 (by decide) h (fun h => ?_) (fun h => ?_)
  · refine g_sub (lv' := [(0, rf X.2.2 39), (2, .int x2), (4, .long x4)]) [0, 1, 2] rfl ?_
    exact wX4_weigh_108 F R x2 x4 s0 h
  · refine g_iload F (j := 3) dX4_weigh_103 rfl ?_
    refine g_ifeq F (tgt := 119) dX4_weigh_105 (by decide) h (fun h => ?_) (fun h => ?_)
    · refine g_sub (lv' := []) [] rfl ?_
      exact wX4_weigh_119 F R s0 h
    · refine g_sub (lv' := [(0, rf X.2.2 39), (2, .int x2), (4, .long x4)]) [0, 1, 2] rfl ?_
      exact wX4_weigh_108 F R x2 x4 s0 h
set_option maxRecDepth 20000 in
theorem wX4_weigh_88 {X : Cx} (F : Fx true X cX4_weigh RX4 7 14 368) {res : Int32 × SS} (R : RZ true X cX4_weigh 7 res) {N : Nat} : ∀ (x2 : Int32) (x4 : Int64) (s0 : SS), fX4_weigh_88 N x2 x4 s0 = some res → G true X 7 88 [(0, rf X.2.2 39), (2, .int x2), (4, .long x4)] [] s0 := by
  intro x2 x4 s0 h
  unfold fX4_weigh_88 at h
  refine g_iconst F (v := 1) dX4_weigh_88 (by decide) ?_
  refine g_goto F (tgt := 93) dX4_weigh_89 (by decide) ?_
  exact wX4_weigh_93 F R x2 x4 1 s0 h
set_option maxRecDepth 20000 in
theorem wX4_weigh_92 {X : Cx} (F : Fx true X cX4_weigh RX4 7 14 368) {res : Int32 × SS} (R : RZ true X cX4_weigh 7 res) {N : Nat} : ∀ (x2 : Int32) (x4 : Int64) (s0 : SS), fX4_weigh_92 N x2 x4 s0 = some res → G true X 7 92 [(0, rf X.2.2 39), (2, .int x2), (4, .long x4)] [] s0 := by
  intro x2 x4 s0 h
  unfold fX4_weigh_92 at h
  refine g_iconst F (v := 0) dX4_weigh_92 (by decide) ?_
  exact wX4_weigh_93 F R x2 x4 0 s0 h
set_option maxRecDepth 20000 in
theorem wX4_weigh_e {X : Cx} (F : Fx true X cX4_weigh RX4 7 14 368) {res : Int32 × SS} (R : RZ true X cX4_weigh 7 res) {N : Nat} : ∀ (a1 : Int32) (a2 : Int32) (a3 : Int32) (s0 : SS), fX4_weigh N a1 a2 a3 s0 = some res → G true X 7 0 [(0, rf X.2.2 39), (1, .int a1), (2, .int a2), (3, .int a3)] [] s0 := by
  intro a1 a2 a3 s0 h
  unfold fX4_weigh at h
  refine g_aload_n F (a := 39) (j := 0) dX4_weigh_0 rfl rfl ?_
  refine gt_X4_27 F (k := 39) pc39 dX4_weigh_1 (v := rf X.2.2 19) rfl ?_
  refine g_iload_n F (j := 1) dX4_weigh_4 rfl rfl ?_
  refine g_vv F (k := 19) (As := [.int a1]) (rest := []) (fun _ q => mX2_run N F.inj  q) mw_X2_run ml_X4_58 rfl ⟨Nat.le_of_ble_eq_true rfl, Nat.le_of_ble_eq_true rfl⟩ pc19 cl2 rfl (Nat.le_of_ble_eq_true rfl) dX4_weigh_5 h (fun s1 h => ?_)
  refine g_aload_n F (a := 39) (j := 0) dX4_weigh_8 rfl rfl ?_
  refine gt_X4_27 F (k := 39) pc39 dX4_weigh_9 (v := rf X.2.2 19) rfl ?_
  refine gt_X4_62 F (k := 19) pc19 dX4_weigh_12 (v := .int (s1 19 5)) rfl ?_
  refine g_ifne F (tgt := 29) dX4_weigh_15 (by decide) h (fun h => ?_) (fun h => ?_)
  · refine g_aload_n F (a := 39) (j := 0) dX4_weigh_18 rfl rfl ?_
    refine gt_X4_27 F (k := 39) pc39 dX4_weigh_19 (v := rf X.2.2 19) rfl ?_
    refine gt_X4_66 F (k := 19) pc19 dX4_weigh_22 (v := .int (s1 19 6)) rfl ?_
    refine g_iconst F (v := (-1)) dX4_weigh_25 (by decide) ?_
    refine g_icmp_ne F (tgt := 37) dX4_weigh_26 (by decide) h (fun h => ?_) (fun h => ?_)
    · refine g_sub (lv' := [(0, rf X.2.2 39)]) [0] rfl ?_
      exact wX4_weigh_29 F R s1 h
    · refine g_iload_n F (j := 2) dX4_weigh_37 rfl rfl ?_
      refine g_i2l F dX4_weigh_38 ?_
      refine g_iload_n F (j := 3) dX4_weigh_39 rfl rfl ?_
      refine g_i2l F dX4_weigh_40 ?_
      refine g_lmul F dX4_weigh_41 ?_
      refine g_aload_n F (a := 39) (j := 0) dX4_weigh_42 rfl rfl ?_
      refine gt_X4_23 F (k := 39) pc39 dX4_weigh_43 (v := rf X.2.2 13) rfl ?_
      refine g_aload_n F (a := 39) (j := 0) dX4_weigh_46 rfl rfl ?_
      refine gt_X4_27 F (k := 39) pc39 dX4_weigh_47 (v := rf X.2.2 19) rfl ?_
      refine gt_X4_69 F (k := 19) pc19 dX4_weigh_50 (v := rf X.2.2 20) rfl ?_
      refine g_vi F (k := 13) (As := [rf X.2.2 20]) (rest := [.long ((Int32.toInt64 a2) * (Int32.toInt64 a3))]) (fun _ q => mX1_costTo N F.inj row13 pc20 q) mw_X1_costTo ml_X4_72 rfl ⟨Nat.le_of_ble_eq_true rfl, Nat.le_of_ble_eq_true rfl⟩ pc13 cl1 rfl (Nat.le_of_ble_eq_true rfl) dX4_weigh_53 h (fun v2 s2 h => ?_)
      refine g_i2l F dX4_weigh_56 ?_
      refine g_ladd F dX4_weigh_57 ?_
      refine g_lstore F dX4_weigh_58 (by decide) (lv' := [(0, rf X.2.2 39), (2, .int a2), (4, .long (((Int32.toInt64 a2) * (Int32.toInt64 a3)) + (Int32.toInt64 v2)))]) [1, 3, 0] rfl ?_
      refine g_lload F (j := 2) dX4_weigh_60 rfl ?_
      refine g_aload_n F (a := 39) (j := 0) dX4_weigh_62 rfl rfl ?_
      refine gt_X4_15 F (k := 39) pc39 dX4_weigh_63 (v := .long (pk (s2 39 4) (s2 39 5))) rfl ?_
      refine g_lcmp F dX4_weigh_66 ?_
      refine g_iflt F (tgt := 88) dX4_weigh_67 (by decide) h (fun h => ?_) (fun h => ?_)
      · exact wX4_weigh_88 F R a2 (((Int32.toInt64 a2) * (Int32.toInt64 a3)) + (Int32.toInt64 v2)) s2 h
      · refine g_lload F (j := 2) dX4_weigh_70 rfl ?_
        refine g_aload_n F (a := 39) (j := 0) dX4_weigh_72 rfl rfl ?_
        refine gt_X4_15 F (k := 39) pc39 dX4_weigh_73 (v := .long (pk (s2 39 4) (s2 39 5))) rfl ?_
        refine g_lcmp F dX4_weigh_76 ?_
        refine g_ifne F (tgt := 92) dX4_weigh_77 (by decide) h (fun h => ?_) (fun h => ?_)
        · refine g_iload_n F (j := 1) dX4_weigh_80 rfl rfl ?_
          refine g_aload_n F (a := 39) (j := 0) dX4_weigh_81 rfl rfl ?_
          refine gt_X4_9 F (k := 39) pc39 dX4_weigh_82 (v := .int (s2 39 3)) rfl ?_
          refine g_icmp_ge F (tgt := 92) dX4_weigh_85 (by decide) h (fun h => ?_) (fun h => ?_)
          · exact wX4_weigh_92 F R a2 (((Int32.toInt64 a2) * (Int32.toInt64 a3)) + (Int32.toInt64 v2)) s2 h
          · exact wX4_weigh_88 F R a2 (((Int32.toInt64 a2) * (Int32.toInt64 a3)) + (Int32.toInt64 v2)) s2 h
        · exact wX4_weigh_92 F R a2 (((Int32.toInt64 a2) * (Int32.toInt64 a3)) + (Int32.toInt64 v2)) s2 h
  · refine g_sub (lv' := [(0, rf X.2.2 39)]) [0] rfl ?_
    exact wX4_weigh_29 F R s1 h
theorem mX4_weigh {l : Launch} {w : Wd} (N : Nat) (hi : inj true w)  {res : Int32 × SS} {a1 a2 a3 : Int32} {s0 : SS} (h : fX4_weigh N a1 a2 a3 s0 = some res) : MI true l yX4_weigh cX4_weigh 7 (some .boolean) { frames := 14, cells := 0, slots := 0, locals := 368 } w [rf w 39, .int a1, .int a2, .int a3] s0 res := by
  refine mk_z (by decide) hi (Nat.le_of_ble_eq_true rfl) (fun X hX hL F R => ?_)
  subst hX; subst hL
  exact wX4_weigh_e F R a1 a2 a3 s0 h
set_option maxRecDepth 20000 in
theorem wX4_least_102 {X : Cx} (F : Fx true X cX4_least RX4 6 15 394) {res : Int32 × SS} (R : RI true X cX4_least 6 res) {N : Nat} {k28 : Int32 → Int32 → Int32 → Int32 → SS → Option (Int32 × SS)} (hk28 : ∀ (x2 : Int32) (x3 : Int32) (x4 : Int32) (x5 : Int32) (σ : SS), k28 x2 x3 x4 x5 σ = some res → G true X 6 28 [(0, rf X.2.2 39), (2, .int x2), (3, .int x3), (4, .int x4), (5, .int x5)] [] σ) : ∀ (x2 : Int32) (x3 : Int32) (x4 : Int32) (x5 : Int32) (s0 : SS), fX4_least_102 N k28 x2 x3 x4 x5 s0 = some res → G true X 6 102 [(0, rf X.2.2 39), (2, .int x2), (3, .int x3), (4, .int x4), (5, .int x5)] [] s0 := by
  intro x2 x3 x4 x5 s0 h
  unfold fX4_least_102 at h
  refine g_iinc F (j := 4) (v := x5 + 1) dX4_least_102 rfl rfl (by decide) (lv' := [(0, rf X.2.2 39), (2, .int x2), (3, .int x3), (4, .int x4), (5, .int (x5 + 1))]) [1, 2, 3, 4, 0] rfl ?_
  refine g_goto F (tgt := 28) dX4_least_105 (by decide) ?_
  exact hk28 x2 x3 x4 (x5 + 1) s0 h
set_option maxRecDepth 20000 in
theorem wX4_least_122 {X : Cx} (F : Fx true X cX4_least RX4 6 15 394) {res : Int32 × SS} (R : RI true X cX4_least 6 res) {N : Nat} : ∀ (t0 : Int32) (s0 : SS), fX4_least_122 N t0 s0 = some res → G true X 6 122 [] [.int t0] s0 := by
  intro t0 s0 h
  unfold fX4_least_122 at h
  exact R _ _ _ _ dX4_least_122 h
set_option maxRecDepth 20000 in
theorem wX4_least_108 {X : Cx} (F : Fx true X cX4_least RX4 6 15 394) {res : Int32 × SS} (R : RI true X cX4_least 6 res) {N : Nat} : ∀ (x4 : Int32) (s0 : SS), fX4_least_108 N x4 s0 = some res → G true X 6 108 [(0, rf X.2.2 39), (4, .int x4)] [] s0 := by
  intro x4 s0 h
  unfold fX4_least_108 at h
  refine g_iload F (j := 1) dX4_least_108 rfl ?_
  refine g_ifeq F (tgt := 118) dX4_least_110 (by decide) h (fun h => ?_) (fun h => ?_)
  · refine g_aload_n F (a := 39) (j := 0) dX4_least_118 rfl rfl ?_
    refine gt_X4_9 F (k := 39) pc39 dX4_least_119 (v := .int (s0 39 3)) rfl ?_
    refine g_sub (lv' := []) [] rfl ?_
    exact wX4_least_122 F R (s0 39 3) s0 h
  · refine g_bipush F (v := (-5)) dX4_least_113 (by decide) ?_
    refine g_goto F (tgt := 122) dX4_least_115 (by decide) ?_
    refine g_sub (lv' := []) [] rfl ?_
    exact wX4_least_122 F R (-5) s0 h
set_option maxRecDepth 20000 in
theorem wX4_least_28 {X : Cx} (F : Fx true X cX4_least RX4 6 15 394) {res : Int32 × SS} (R : RI true X cX4_least 6 res) {N : Nat} {k28 : Int32 → Int32 → Int32 → Int32 → SS → Option (Int32 × SS)} (hk28 : ∀ (x2 : Int32) (x3 : Int32) (x4 : Int32) (x5 : Int32) (σ : SS), k28 x2 x3 x4 x5 σ = some res → G true X 6 28 [(0, rf X.2.2 39), (2, .int x2), (3, .int x3), (4, .int x4), (5, .int x5)] [] σ) : ∀ (x2 : Int32) (x3 : Int32) (x4 : Int32) (x5 : Int32) (s0 : SS), fX4_least_28 N k28 x2 x3 x4 x5 s0 = some res → G true X 6 28 [(0, rf X.2.2 39), (2, .int x2), (3, .int x3), (4, .int x4), (5, .int x5)] [] s0 := by
  intro x2 x3 x4 x5 s0 h
  unfold fX4_least_28 at h
  refine g_iload F (j := 4) dX4_least_28 rfl ?_
  refine g_aload_n F (a := 39) (j := 0) dX4_least_30 rfl rfl ?_
  refine gt_X4_19 F (k := 39) pc39 dX4_least_31 (v := rf X.2.2 1) rfl ?_
  refine gt_X4_41 F (k := 1) pc1 dX4_least_34 (v := .int (s0 1 1)) rfl ?_
  refine g_icmp_ge F (tgt := 108) dX4_least_37 (by decide) h (fun h => ?_) (fun h => ?_)
  · refine g_sub (lv' := [(0, rf X.2.2 39), (4, .int x4)]) [0, 3] rfl ?_
    exact wX4_least_108 F R x4 s0 h
  · refine g_iload F (j := 3) dX4_least_40 rfl ?_
    refine g_ifne F (tgt := 108) dX4_least_42 (by decide) h (fun h => ?_) (fun h => ?_)
    · refine g_aload_n F (a := 39) (j := 0) dX4_least_45 rfl rfl ?_
      refine gt_X4_23 F (k := 39) pc39 dX4_least_46 (v := rf X.2.2 13) rfl ?_
      refine gt_X4_46 F (k := 13) pc13 dX4_least_49 (v := rf X.2.2 14) rfl ?_
      refine g_iload F (j := 4) dX4_least_52 rfl ?_
      refine g_iald F (k := 14) pc14 dX4_least_54 h (fun h => ?_)
      refine g_iconst F (v := (-1)) dX4_least_55 (by decide) ?_
      refine g_icmp_eq F (tgt := 102) dX4_least_56 (by decide) h (fun h => ?_) (fun h => ?_)
      · exact wX4_least_102 F R hk28 x2 x3 x4 x5 s0 h
      · refine g_aload_n F (a := 39) (j := 0) dX4_least_59 rfl rfl ?_
        refine gt_X4_19 F (k := 39) pc39 dX4_least_60 (v := rf X.2.2 1) rfl ?_
        refine gt_X4_52 F (k := 1) pc1 dX4_least_63 (v := rf X.2.2 6) rfl ?_
        refine g_iload F (j := 4) dX4_least_66 rfl ?_
        refine g_iald F (k := 6) pc6 dX4_least_68 h (fun h => ?_)
        refine g_iconst F (v := 4) dX4_least_69 (by decide) ?_
        refine g_icmp_ne F (tgt := 102) dX4_least_70 (by decide) h (fun h => ?_) (fun h => ?_)
        · refine g_aload_n F (a := 39) (j := 0) dX4_least_73 rfl rfl ?_
          refine g_aload_n F (a := 39) (j := 0) dX4_least_74 rfl rfl ?_
          refine gt_X4_19 F (k := 39) pc39 dX4_least_75 (v := rf X.2.2 1) rfl ?_
          refine gt_X4_55 F (k := 1) pc1 dX4_least_78 (v := rf X.2.2 9) rfl ?_
          refine g_iload F (j := 4) dX4_least_81 rfl ?_
          refine g_iald F (k := 9) pc9 dX4_least_83 h (fun h => ?_)
          refine g_aload_n F (a := 39) (j := 0) dX4_least_84 rfl rfl ?_
          refine gt_X4_19 F (k := 39) pc39 dX4_least_85 (v := rf X.2.2 1) rfl ?_
          refine gt_X4_55 F (k := 1) pc1 dX4_least_88 (v := rf X.2.2 9) rfl ?_
          refine g_iload F (j := 4) dX4_least_91 rfl ?_
          refine g_iald F (k := 9) pc9 dX4_least_93 h (fun h => ?_)
          refine g_iload_n F (j := 1) dX4_least_94 rfl rfl ?_
          refine g_isub F dX4_least_95 ?_
          refine g_iload_n F (j := 2) dX4_least_96 rfl rfl ?_
          refine g_vi F (k := 39) (As := [.int (s0 9 (Int32.toNatClampNeg x5)), .int ((s0 9 (Int32.toNatClampNeg x5)) - x2), .int x3]) (rest := []) (fun _ q => mX4_weigh N F.inj  q) mw_X4_weigh ml_X4_37 rfl ⟨Nat.le_of_ble_eq_true rfl, Nat.le_of_ble_eq_true rfl⟩ pc39 cl4 rfl (Nat.le_of_ble_eq_true rfl) dX4_least_97 h (fun v1 s1 h => ?_)
          refine g_istore F dX4_least_100 (by decide) (lv' := [(0, rf X.2.2 39), (2, .int x2), (3, .int x3), (4, .int v1), (5, .int x5)]) [1, 2, 3, 0, 4] rfl ?_
          exact wX4_least_102 F R hk28 x2 x3 v1 x5 s1 h
        · exact wX4_least_102 F R hk28 x2 x3 x4 x5 s0 h
    · refine g_sub (lv' := [(0, rf X.2.2 39), (4, .int x4)]) [0, 3] rfl ?_
      exact wX4_least_108 F R x4 s0 h
theorem wX4_least_28_lp {X : Cx} (F : Fx true X cX4_least RX4 6 15 394) {res : Int32 × SS} (R : RI true X cX4_least 6 res) {N : Nat} : ∀ (n : Nat) (x2 : Int32) (x3 : Int32) (x4 : Int32) (x5 : Int32) (s0 : SS), lp (fX4_least_28 N) (fun _ _ _ _ _ => none) n x2 x3 x4 x5 s0 = some res → G true X 6 28 [(0, rf X.2.2 39), (2, .int x2), (3, .int x3), (4, .int x4), (5, .int x5)] [] s0 := by
  intro n
  induction n with
  | zero => intro x2 x3 x4 x5 s0 h; cases (show (none : Option (Int32 × SS)) = some res from h)
  | succ n ih => intro x2 x3 x4 x5 s0 h; exact wX4_least_28 F R ih x2 x3 x4 x5 s0 h
set_option maxRecDepth 20000 in
theorem wX4_least_e {X : Cx} (F : Fx true X cX4_least RX4 6 15 394) {res : Int32 × SS} (R : RI true X cX4_least 6 res) {N : Nat} : ∀ (a1 : Int32) (a2 : Int32) (a3 : Int32) (s0 : SS), fX4_least N a1 a2 a3 s0 = some res → G true X 6 0 [(0, rf X.2.2 39), (1, .int a1), (2, .int a2), (3, .int a3)] [] s0 := by
  intro a1 a2 a3 s0 h
  unfold fX4_least at h
  refine g_aload_n F (a := 39) (j := 0) dX4_least_0 rfl rfl ?_
  refine gt_X4_27 F (k := 39) pc39 dX4_least_1 (v := rf X.2.2 19) rfl ?_
  refine g_iconst F (v := 0) dX4_least_4 (by decide) ?_
  refine g_iload_n F (j := 1) dX4_least_5 rfl rfl ?_
  refine g_iconst F (v := 0) dX4_least_6 (by decide) ?_
  refine g_iconst F (v := 0) dX4_least_7 (by decide) ?_
  refine g_vv F (k := 19) (As := [.int 0, .int a1, .int 0, .int 0]) (rest := []) (fun _ q => mX2_aim N F.inj  q) mw_X2_aim ml_X4_31 rfl ⟨Nat.le_of_ble_eq_true rfl, Nat.le_of_ble_eq_true rfl⟩ pc19 cl2 rfl (Nat.le_of_ble_eq_true rfl) dX4_least_8 h (fun s1 h => ?_)
  refine g_aload_n F (a := 39) (j := 0) dX4_least_11 rfl rfl ?_
  refine g_iconst F (v := (-1)) dX4_least_12 (by decide) ?_
  refine pt_X4_9 F (k := 39) pc39 (Nat.le_of_ble_eq_true rfl) rfl dX4_least_13 h (fun s2 h => ?_)
  refine g_aload_n F (a := 39) (j := 0) dX4_least_16 rfl rfl ?_
  refine g_iload_n F (j := 2) dX4_least_17 rfl rfl ?_
  refine g_iconst F (v := 0) dX4_least_18 (by decide) ?_
  refine g_iload_n F (j := 3) dX4_least_19 rfl rfl ?_
  refine g_vi F (k := 39) (As := [.int a2, .int 0, .int a3]) (rest := []) (fun _ q => mX4_weigh N F.inj  q) mw_X4_weigh ml_X4_37 rfl ⟨Nat.le_of_ble_eq_true rfl, Nat.le_of_ble_eq_true rfl⟩ pc39 cl4 rfl (Nat.le_of_ble_eq_true rfl) dX4_least_20 h (fun v3 s3 h => ?_)
  refine g_istore F dX4_least_23 (by decide) (lv' := [(0, rf X.2.2 39), (2, .int a2), (3, .int a3), (4, .int v3)]) [1, 3, 4, 0] rfl ?_
  refine g_iconst F (v := 0) dX4_least_25 (by decide) ?_
  refine g_istore F dX4_least_26 (by decide) (lv' := [(0, rf X.2.2 39), (2, .int a2), (3, .int a3), (4, .int v3), (5, .int 0)]) [1, 2, 3, 4, 0] rfl ?_
  exact wX4_least_28_lp F R N a2 a3 v3 0 s3 h
theorem mX4_least {l : Launch} {w : Wd} (N : Nat) (hi : inj true w)  {res : Int32 × SS} {a1 a2 a3 : Int32} {s0 : SS} (h : fX4_least N a1 a2 a3 s0 = some res) : MI true l yX4_least cX4_least 6 (some .int) { frames := 15, cells := 0, slots := 0, locals := 394 } w [rf w 39, .int a1, .int a2, .int a3] s0 res := by
  refine mk_i (by decide) hi (Nat.le_of_ble_eq_true rfl) (fun X hX hL F R => ?_)
  subst hX; subst hL
  exact wX4_least_e F R a1 a2 a3 s0 h
set_option maxRecDepth 20000 in
theorem wX5_wait_e {X : Cx} (F : Fx true X cX5_wait RX5 2 16 419) {res : Int32 × SS} (R : RI true X cX5_wait 2 res) {N : Nat} : ∀ (a1 : Int32) (s0 : SS), fX5_wait N a1 s0 = some res → G true X 2 0 [(0, rf X.2.2 0), (1, .int a1)] [] s0 := by
  intro a1 s0 h
  unfold fX5_wait at h
  refine g_aload_n F (a := 0) (j := 0) dX5_wait_0 rfl rfl ?_
  refine gt_X5_10 F (k := 0) pc0 dX5_wait_1 (v := rf X.2.2 1) rfl ?_
  refine g_iload_n F (j := 1) dX5_wait_4 rfl rfl ?_
  refine g_vi F (k := 1) (As := [.int a1]) (rest := []) (fun _ q => mX3_hasMachine N F.inj  q) mw_X3_hasMachine ml_X5_86 rfl ⟨Nat.le_of_ble_eq_true rfl, Nat.le_of_ble_eq_true rfl⟩ pc1 cl3 rfl (Nat.le_of_ble_eq_true rfl) dX5_wait_5 h (fun v1 s1 h => ?_)
  refine g_ifne F (tgt := 14) dX5_wait_8 (by decide) h (fun h => ?_) (fun h => ?_)
  · refine g_bipush F (v := (-2)) dX5_wait_11 (by decide) ?_
    exact R _ _ _ _ dX5_wait_13 h
  · refine g_aload_n F (a := 0) (j := 0) dX5_wait_14 rfl rfl ?_
    refine gt_X5_21 F (k := 0) pc0 dX5_wait_15 (v := rf X.2.2 13) rfl ?_
    refine gt_X5_140 F (k := 13) pc13 dX5_wait_18 (v := rf X.2.2 17) rfl ?_
    refine g_iload_n F (j := 1) dX5_wait_21 rfl rfl ?_
    refine g_iald F (k := 17) pc17 dX5_wait_22 h (fun h => ?_)
    refine g_ifne F (tgt := 29) dX5_wait_23 (by decide) h (fun h => ?_) (fun h => ?_)
    · refine g_bipush F (v := (-3)) dX5_wait_26 (by decide) ?_
      exact R _ _ _ _ dX5_wait_28 h
    · refine g_aload_n F (a := 0) (j := 0) dX5_wait_29 rfl rfl ?_
      refine gt_X5_46 F (k := 0) pc0 dX5_wait_30 (v := rf X.2.2 39) rfl ?_
      refine g_iload_n F (j := 1) dX5_wait_33 rfl rfl ?_
      refine g_aload_n F (a := 0) (j := 0) dX5_wait_34 rfl rfl ?_
      refine gt_X5_62 F (k := 0) pc0 dX5_wait_35 (v := .int (s1 0 8)) rfl ?_
      refine g_aload_n F (a := 0) (j := 0) dX5_wait_38 rfl rfl ?_
      refine gt_X5_58 F (k := 0) pc0 dX5_wait_39 (v := .int (s1 0 7)) rfl ?_
      refine g_vi F (k := 39) (As := [.int a1, .int (s1 0 8), .int (s1 0 7)]) (rest := []) (fun _ q => mX4_least N F.inj  q) mw_X4_least ml_X5_206 rfl ⟨Nat.le_of_ble_eq_true rfl, Nat.le_of_ble_eq_true rfl⟩ pc39 cl4 rfl (Nat.le_of_ble_eq_true rfl) dX5_wait_42 h (fun v2 s2 h => ?_)
      exact R _ _ _ _ dX5_wait_45 h
theorem mX5_wait {l : Launch} {w : Wd} (N : Nat) (hi : inj true w)  {res : Int32 × SS} {a1 : Int32} {s0 : SS} (h : fX5_wait N a1 s0 = some res) : MI true l yX5_wait cX5_wait 2 (some .int) { frames := 16, cells := 0, slots := 0, locals := 419 } w [rf w 0, .int a1] s0 res := by
  refine mk_i (by decide) hi (Nat.le_of_ble_eq_true rfl) (fun X hX hL F R => ?_)
  subst hX; subst hL
  exact wX5_wait_e F R a1 s0 h
