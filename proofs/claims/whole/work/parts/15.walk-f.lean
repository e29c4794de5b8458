set_option maxRecDepth 20000 in
theorem wX6_onto_78 {X : Cx} (F : Fx false X cX6_onto RX6 6 0 0) {res : Int32 × SS} (R : RI false X cX6_onto 6 res) {N : Nat} {k24 : Int32 → Int32 → Int32 → Int32 → Int32 → SS → Option (Int32 × SS)} (hk24 : ∀ (x1 : Int32) (x2 : Int32) (x3 : Int32) (x4 : Int32) (x5 : Int32) (σ : SS), k24 x1 x2 x3 x4 x5 σ = some res → G false X 6 24 [(0, rf X.2.2 0), (1, .int x1), (2, .int x2), (3, .int x3), (4, .int x4), (5, .int x5)] [] σ) : ∀ (x1 : Int32) (x2 : Int32) (x3 : Int32) (x5 : Int32) (t0 : Int32) (t1 : Int32) (s0 : SS), fX6_onto_78 N k24 x1 x2 x3 x5 t0 t1 s0 = some res → G false X 6 78 [(0, rf X.2.2 0), (1, .int x1), (2, .int x2), (3, .int x3), (5, .int x5)] [.int t0, .int t1] s0 := by
  intro x1 x2 x3 x5 t0 t1 s0 h
  unfold fX6_onto_78 at h
  refine g_iadd F dX6_onto_78 ?_
  refine g_istore F dX6_onto_79 (by decide) (lv' := [(0, rf X.2.2 0), (1, .int x1), (2, .int x2), (3, .int x3), (4, .int (t1 + t0)), (5, .int x5)]) [1, 2, 3, 4, 0, 5] rfl ?_
  refine g_iinc F (j := 5) (v := x5 + 1) dX6_onto_81 rfl rfl (by decide) (lv' := [(0, rf X.2.2 0), (1, .int x1), (2, .int x2), (3, .int x3), (4, .int (t1 + t0)), (5, .int (x5 + 1))]) [1, 2, 3, 4, 5, 0] rfl ?_
  refine g_goto F (tgt := 24) dX6_onto_84 (by decide) ?_
  exact hk24 x1 x2 x3 (t1 + t0) (x5 + 1) s0 h
set_option maxRecDepth 20000 in
theorem wX6_onto_77 {X : Cx} (F : Fx false X cX6_onto RX6 6 0 0) {res : Int32 × SS} (R : RI false X cX6_onto 6 res) {N : Nat} {k24 : Int32 → Int32 → Int32 → Int32 → Int32 → SS → Option (Int32 × SS)} (hk24 : ∀ (x1 : Int32) (x2 : Int32) (x3 : Int32) (x4 : Int32) (x5 : Int32) (σ : SS), k24 x1 x2 x3 x4 x5 σ = some res → G false X 6 24 [(0, rf X.2.2 0), (1, .int x1), (2, .int x2), (3, .int x3), (4, .int x4), (5, .int x5)] [] σ) : ∀ (x1 : Int32) (x2 : Int32) (x3 : Int32) (x5 : Int32) (t0 : Int32) (s0 : SS), fX6_onto_77 N k24 x1 x2 x3 x5 t0 s0 = some res → G false X 6 77 [(0, rf X.2.2 0), (1, .int x1), (2, .int x2), (3, .int x3), (5, .int x5)] [.int t0] s0 := by
  intro x1 x2 x3 x5 t0 s0 h
  unfold fX6_onto_77 at h
  refine g_iconst F (v := 0) dX6_onto_77 (by decide) ?_
  exact wX6_onto_78 F R hk24 x1 x2 x3 x5 0 t0 s0 h
set_option maxRecDepth 20000 in
theorem wX6_onto_24 {X : Cx} (F : Fx false X cX6_onto RX6 6 0 0) {res : Int32 × SS} (R : RI false X cX6_onto 6 res) {N : Nat} {k24 : Int32 → Int32 → Int32 → Int32 → Int32 → SS → Option (Int32 × SS)} (hk24 : ∀ (x1 : Int32) (x2 : Int32) (x3 : Int32) (x4 : Int32) (x5 : Int32) (σ : SS), k24 x1 x2 x3 x4 x5 σ = some res → G false X 6 24 [(0, rf X.2.2 0), (1, .int x1), (2, .int x2), (3, .int x3), (4, .int x4), (5, .int x5)] [] σ) : ∀ (x1 : Int32) (x2 : Int32) (x3 : Int32) (x4 : Int32) (x5 : Int32) (s0 : SS), fX6_onto_24 N k24 x1 x2 x3 x4 x5 s0 = some res → G false X 6 24 [(0, rf X.2.2 0), (1, .int x1), (2, .int x2), (3, .int x3), (4, .int x4), (5, .int x5)] [] s0 := by
  intro x1 x2 x3 x4 x5 s0 h
  unfold fX6_onto_24 at h
  refine g_iload F (j := 5) dX6_onto_24 rfl ?_
  refine g_iload_n F (j := 1) dX6_onto_26 rfl rfl ?_
  refine g_icmp_ge F (tgt := 87) dX6_onto_27 (by decide) h (fun h => ?_) (fun h => ?_)
  · refine g_iload F (j := 4) dX6_onto_87 rfl ?_
    exact R _ _ _ _ dX6_onto_89 h
  · refine g_iload F (j := 4) dX6_onto_30 rfl ?_
    refine g_aload_n F (a := 0) (j := 0) dX6_onto_32 rfl rfl ?_
    refine gt_X6_31 F (k := 0) pm0 dX6_onto_33 (v := rf X.2.2 8) rfl ?_
    refine g_iload F (j := 5) dX6_onto_36 rfl ?_
    refine g_zald F (k := 8) pm8 dX6_onto_38 h (fun h => ?_)
    refine g_ifne F (tgt := 77) dX6_onto_39 (by decide) h (fun h => ?_) (fun h => ?_)
    · refine g_aload_n F (a := 0) (j := 0) dX6_onto_42 rfl rfl ?_
      refine gt_X6_39 F (k := 0) pm0 dX6_onto_43 (v := rf X.2.2 9) rfl ?_
      refine g_iload F (j := 5) dX6_onto_46 rfl ?_
      refine g_iald F (k := 9) pm9 dX6_onto_48 h (fun h => ?_)
      refine g_iload_n F (j := 2) dX6_onto_49 rfl rfl ?_
      refine g_icmp_ne F (tgt := 77) dX6_onto_50 (by decide) h (fun h => ?_) (fun h => ?_)
      · refine g_iload_n F (j := 3) dX6_onto_53 rfl rfl ?_
        refine g_ifne F (tgt := 67) dX6_onto_54 (by decide) h (fun h => ?_) (fun h => ?_)
        · refine g_aload_n F (a := 0) (j := 0) dX6_onto_57 rfl rfl ?_
          refine gt_X6_16 F (k := 0) pm0 dX6_onto_58 (v := rf X.2.2 3) rfl ?_
          refine g_iload F (j := 5) dX6_onto_61 rfl ?_
          refine g_iald F (k := 3) pm3 dX6_onto_63 h (fun h => ?_)
          refine g_goto F (tgt := 78) dX6_onto_64 (by decide) ?_
          refine g_sub (lv' := [(0, rf X.2.2 0), (1, .int x1), (2, .int x2), (3, .int x3), (5, .int x5)]) [0, 1, 2, 3, 5] rfl ?_
          exact wX6_onto_78 F R hk24 x1 x2 x3 x5 (s0 3 (Int32.toNatClampNeg x5)) x4 s0 h
        · refine g_aload_n F (a := 0) (j := 0) dX6_onto_67 rfl rfl ?_
          refine gt_X6_19 F (k := 0) pm0 dX6_onto_68 (v := rf X.2.2 4) rfl ?_
          refine g_iload F (j := 5) dX6_onto_71 rfl ?_
          refine g_iald F (k := 4) pm4 dX6_onto_73 h (fun h => ?_)
          refine g_goto F (tgt := 78) dX6_onto_74 (by decide) ?_
          refine g_sub (lv' := [(0, rf X.2.2 0), (1, .int x1), (2, .int x2), (3, .int x3), (5, .int x5)]) [0, 1, 2, 3, 5] rfl ?_
          exact wX6_onto_78 F R hk24 x1 x2 x3 x5 (s0 4 (Int32.toNatClampNeg x5)) x4 s0 h
      · refine g_sub (lv' := [(0, rf X.2.2 0), (1, .int x1), (2, .int x2), (3, .int x3), (5, .int x5)]) [0, 1, 2, 3, 5] rfl ?_
        exact wX6_onto_77 F R hk24 x1 x2 x3 x5 x4 s0 h
    · refine g_sub (lv' := [(0, rf X.2.2 0), (1, .int x1), (2, .int x2), (3, .int x3), (5, .int x5)]) [0, 1, 2, 3, 5] rfl ?_
      exact wX6_onto_77 F R hk24 x1 x2 x3 x5 x4 s0 h
theorem wX6_onto_24_lp {X : Cx} (F : Fx false X cX6_onto RX6 6 0 0) {res : Int32 × SS} (R : RI false X cX6_onto 6 res) {N : Nat} : ∀ (n : Nat) (x1 : Int32) (x2 : Int32) (x3 : Int32) (x4 : Int32) (x5 : Int32) (s0 : SS), lp (fX6_onto_24 N) (fun _ _ _ _ _ _ => none) n x1 x2 x3 x4 x5 s0 = some res → G false X 6 24 [(0, rf X.2.2 0), (1, .int x1), (2, .int x2), (3, .int x3), (4, .int x4), (5, .int x5)] [] s0 := by
  intro n
  induction n with
  | zero => intro x1 x2 x3 x4 x5 s0 h; cases (show (none : Option (Int32 × SS)) = some res from h)
  | succ n ih => intro x1 x2 x3 x4 x5 s0 h; exact wX6_onto_24 F R ih x1 x2 x3 x4 x5 s0 h
set_option maxRecDepth 20000 in
theorem wX6_onto_19 {X : Cx} (F : Fx false X cX6_onto RX6 6 0 0) {res : Int32 × SS} (R : RI false X cX6_onto 6 res) {N : Nat} : ∀ (x1 : Int32) (x2 : Int32) (x3 : Int32) (t0 : Int32) (s0 : SS), fX6_onto_19 N x1 x2 x3 t0 s0 = some res → G false X 6 19 [(0, rf X.2.2 0), (1, .int x1), (2, .int x2), (3, .int x3)] [.int t0] s0 := by
  intro x1 x2 x3 t0 s0 h
  unfold fX6_onto_19 at h
  refine g_istore F dX6_onto_19 (by decide) (lv' := [(0, rf X.2.2 0), (1, .int x1), (2, .int x2), (3, .int x3), (4, .int t0)]) [1, 2, 3, 4, 0] rfl ?_
  refine g_iconst F (v := 0) dX6_onto_21 (by decide) ?_
  refine g_istore F dX6_onto_22 (by decide) (lv' := [(0, rf X.2.2 0), (1, .int x1), (2, .int x2), (3, .int x3), (4, .int t0), (5, .int 0)]) [1, 2, 3, 4, 5, 0] rfl ?_
  exact wX6_onto_24_lp F R N x1 x2 x3 t0 0 s0 h
set_option maxRecDepth 20000 in
theorem wX6_onto_e {X : Cx} (F : Fx false X cX6_onto RX6 6 0 0) {res : Int32 × SS} (R : RI false X cX6_onto 6 res) {N : Nat} : ∀ (a1 : Int32) (a2 : Int32) (a3 : Int32) (s0 : SS), fX6_onto N a1 a2 a3 s0 = some res → G false X 6 0 [(0, rf X.2.2 0), (1, .int a1), (2, .int a2), (3, .int a3)] [] s0 := by
  intro a1 a2 a3 s0 h
  unfold fX6_onto at h
  refine g_iload_n F (j := 3) dX6_onto_0 rfl rfl ?_
  refine g_ifne F (tgt := 13) dX6_onto_1 (by decide) h (fun h => ?_) (fun h => ?_)
  · refine g_aload_n F (a := 0) (j := 0) dX6_onto_4 rfl rfl ?_
    refine gt_X6_16 F (k := 0) pm0 dX6_onto_5 (v := rf X.2.2 3) rfl ?_
    refine g_iload_n F (j := 1) dX6_onto_8 rfl rfl ?_
    refine g_iald F (k := 3) pm3 dX6_onto_9 h (fun h => ?_)
    refine g_goto F (tgt := 19) dX6_onto_10 (by decide) ?_
    exact wX6_onto_19 F R a1 a2 a3 (s0 3 (Int32.toNatClampNeg a1)) s0 h
  · refine g_aload_n F (a := 0) (j := 0) dX6_onto_13 rfl rfl ?_
    refine gt_X6_19 F (k := 0) pm0 dX6_onto_14 (v := rf X.2.2 4) rfl ?_
    refine g_iload_n F (j := 1) dX6_onto_17 rfl rfl ?_
    refine g_iald F (k := 4) pm4 dX6_onto_18 h (fun h => ?_)
    exact wX6_onto_19 F R a1 a2 a3 (s0 4 (Int32.toNatClampNeg a1)) s0 h
theorem mX6_onto {l : Launch} {w : Wd} (N : Nat) (hi : inj false w)  {res : Int32 × SS} {a1 a2 a3 : Int32} {s0 : SS} (h : fX6_onto N a1 a2 a3 s0 = some res) : MI false l yX6_onto cX6_onto 6 (some .int) { frames := 0, cells := 0, slots := 0, locals := 0 } w [rf w 0, .int a1, .int a2, .int a3] s0 res := by
  refine mk_i (by decide) hi (Nat.le_of_ble_eq_true rfl) (fun X hX hL F R => ?_)
  subst hX; subst hL
  exact wX6_onto_e F R a1 a2 a3 s0 h
set_option maxRecDepth 20000 in
theorem wX6_used_37 {X : Cx} (F : Fx false X cX6_used RX6 6 0 0) {res : Int32 × SS} (R : RI false X cX6_used 6 res) {N : Nat} {k7 : Int32 → Int32 → Int32 → SS → Option (Int32 × SS)} (hk7 : ∀ (x1 : Int32) (x3 : Int32) (x4 : Int32) (σ : SS), k7 x1 x3 x4 σ = some res → G false X 6 7 [(0, rf X.2.2 0), (1, .int x1), (3, .int x3), (4, .int x4)] [] σ) : ∀ (x1 : Int32) (x4 : Int32) (t0 : Int32) (t1 : Int32) (s0 : SS), fX6_used_37 N k7 x1 x4 t0 t1 s0 = some res → G false X 6 37 [(0, rf X.2.2 0), (1, .int x1), (4, .int x4)] [.int t0, .int t1] s0 := by
  intro x1 x4 t0 t1 s0 h
  unfold fX6_used_37 at h
  refine g_ior F dX6_used_37 ?_
  refine g_istore_n F dX6_used_38 rfl (by decide) (lv' := [(0, rf X.2.2 0), (1, .int x1), (3, .int (t1 ||| t0)), (4, .int x4)]) [1, 2, 0, 3] rfl ?_
  refine g_iinc F (j := 3) (v := x4 + 1) dX6_used_39 rfl rfl (by decide) (lv' := [(0, rf X.2.2 0), (1, .int x1), (3, .int (t1 ||| t0)), (4, .int (x4 + 1))]) [1, 2, 3, 0] rfl ?_
  refine g_goto F (tgt := 7) dX6_used_42 (by decide) ?_
  exact hk7 x1 (t1 ||| t0) (x4 + 1) s0 h
set_option maxRecDepth 20000 in
theorem wX6_used_51 {X : Cx} (F : Fx false X cX6_used RX6 6 0 0) {res : Int32 × SS} (R : RI false X cX6_used 6 res) {N : Nat} {k51 : Int32 → Int32 → Int32 → SS → Option (Int32 × SS)} (hk51 : ∀ (x3 : Int32) (x4 : Int32) (x5 : Int32) (σ : SS), k51 x3 x4 x5 σ = some res → G false X 6 51 [(3, .int x3), (4, .int x4), (5, .int x5)] [] σ) : ∀ (x3 : Int32) (x4 : Int32) (x5 : Int32) (s0 : SS), fX6_used_51 N k51 x3 x4 x5 s0 = some res → G false X 6 51 [(3, .int x3), (4, .int x4), (5, .int x5)] [] s0 := by
  intro x3 x4 x5 s0 h
  unfold fX6_used_51 at h
  refine g_iload F (j := 2) dX6_used_51 rfl ?_
  refine g_iconst F (v := 5) dX6_used_53 (by decide) ?_
  refine g_icmp_ge F (tgt := 74) dX6_used_54 (by decide) h (fun h => ?_) (fun h => ?_)
  · refine g_iload F (j := 1) dX6_used_74 rfl ?_
    exact R _ _ _ _ dX6_used_76 h
  · refine g_iload F (j := 1) dX6_used_57 rfl ?_
    refine g_iload_n F (j := 0) dX6_used_59 rfl rfl ?_
    refine g_iload F (j := 2) dX6_used_60 rfl ?_
    refine g_ishr F dX6_used_62 ?_
    refine g_iconst F (v := 1) dX6_used_63 (by decide) ?_
    refine g_iand F dX6_used_64 ?_
    refine g_iadd F dX6_used_65 ?_
    refine g_istore F dX6_used_66 (by decide) (lv' := [(3, .int x3), (4, .int (x4 + (((x3 : Int32) >>> (x5 &&& (31 : Int32))) &&& 1))), (5, .int x5)]) [1, 0, 2] rfl ?_
    refine g_iinc F (j := 2) (v := x5 + 1) dX6_used_68 rfl rfl (by decide) (lv' := [(3, .int x3), (4, .int (x4 + (((x3 : Int32) >>> (x5 &&& (31 : Int32))) &&& 1))), (5, .int (x5 + 1))]) [1, 2, 0] rfl ?_
    refine g_goto F (tgt := 51) dX6_used_71 (by decide) ?_
    exact hk51 x3 (x4 + (((x3 : Int32) >>> (x5 &&& (31 : Int32))) &&& 1)) (x5 + 1) s0 h
theorem wX6_used_51_lp {X : Cx} (F : Fx false X cX6_used RX6 6 0 0) {res : Int32 × SS} (R : RI false X cX6_used 6 res) {N : Nat} : ∀ (n : Nat) (x3 : Int32) (x4 : Int32) (x5 : Int32) (s0 : SS), lp (fX6_used_51 N) (fun _ _ _ _ => none) n x3 x4 x5 s0 = some res → G false X 6 51 [(3, .int x3), (4, .int x4), (5, .int x5)] [] s0 := by
  intro n
  induction n with
  | zero => intro x3 x4 x5 s0 h; cases (show (none : Option (Int32 × SS)) = some res from h)
  | succ n ih => intro x3 x4 x5 s0 h; exact wX6_used_51 F R ih x3 x4 x5 s0 h
set_option maxRecDepth 20000 in
theorem wX6_used_7 {X : Cx} (F : Fx false X cX6_used RX6 6 0 0) {res : Int32 × SS} (R : RI false X cX6_used 6 res) {N : Nat} {k7 : Int32 → Int32 → Int32 → SS → Option (Int32 × SS)} (hk7 : ∀ (x1 : Int32) (x3 : Int32) (x4 : Int32) (σ : SS), k7 x1 x3 x4 σ = some res → G false X 6 7 [(0, rf X.2.2 0), (1, .int x1), (3, .int x3), (4, .int x4)] [] σ) : ∀ (x1 : Int32) (x3 : Int32) (x4 : Int32) (s0 : SS), fX6_used_7 N k7 x1 x3 x4 s0 = some res → G false X 6 7 [(0, rf X.2.2 0), (1, .int x1), (3, .int x3), (4, .int x4)] [] s0 := by
  intro x1 x3 x4 s0 h
  unfold fX6_used_7 at h
  refine g_iload F (j := 3) dX6_used_7 rfl ?_
  refine g_iload_n F (j := 1) dX6_used_9 rfl rfl ?_
  refine g_icmp_ge F (tgt := 45) dX6_used_10 (by decide) h (fun h => ?_) (fun h => ?_)
  · refine g_iconst F (v := 0) dX6_used_45 (by decide) ?_
    refine g_istore F dX6_used_46 (by decide) (lv' := [(3, .int x3), (4, .int 0)]) [3, 0] rfl ?_
    refine g_iconst F (v := 0) dX6_used_48 (by decide) ?_
    refine g_istore F dX6_used_49 (by decide) (lv' := [(3, .int x3), (4, .int 0), (5, .int 0)]) [1, 2, 0] rfl ?_
    exact wX6_used_51_lp F R N x3 0 0 s0 h
  · refine g_iload_n F (j := 2) dX6_used_13 rfl rfl ?_
    refine g_aload_n F (a := 0) (j := 0) dX6_used_14 rfl rfl ?_
    refine gt_X6_31 F (k := 0) pm0 dX6_used_15 (v := rf X.2.2 8) rfl ?_
    refine g_iload F (j := 3) dX6_used_18 rfl ?_
    refine g_zald F (k := 8) pm8 dX6_used_20 h (fun h => ?_)
    refine g_ifeq F (tgt := 28) dX6_used_21 (by decide) h (fun h => ?_) (fun h => ?_)
    · refine g_iconst F (v := 1) dX6_used_28 (by decide) ?_
      refine g_aload_n F (a := 0) (j := 0) dX6_used_29 rfl rfl ?_
      refine gt_X6_39 F (k := 0) pm0 dX6_used_30 (v := rf X.2.2 9) rfl ?_
      refine g_iload F (j := 3) dX6_used_33 rfl ?_
      refine g_iald F (k := 9) pm9 dX6_used_35 h (fun h => ?_)
      refine g_ishl F dX6_used_36 ?_
      refine g_sub (lv' := [(0, rf X.2.2 0), (1, .int x1), (4, .int x4)]) [0, 1, 3] rfl ?_
      exact wX6_used_37 F R hk7 x1 x4 ((1 : Int32) <<< ((s0 9 (Int32.toNatClampNeg x4)) &&& (31 : Int32))) x3 s0 h
    · refine g_iconst F (v := 0) dX6_used_24 (by decide) ?_
      refine g_goto F (tgt := 37) dX6_used_25 (by decide) ?_
      refine g_sub (lv' := [(0, rf X.2.2 0), (1, .int x1), (4, .int x4)]) [0, 1, 3] rfl ?_
      exact wX6_used_37 F R hk7 x1 x4 0 x3 s0 h
theorem wX6_used_7_lp {X : Cx} (F : Fx false X cX6_used RX6 6 0 0) {res : Int32 × SS} (R : RI false X cX6_used 6 res) {N : Nat} : ∀ (n : Nat) (x1 : Int32) (x3 : Int32) (x4 : Int32) (s0 : SS), lp (fX6_used_7 N) (fun _ _ _ _ => none) n x1 x3 x4 s0 = some res → G false X 6 7 [(0, rf X.2.2 0), (1, .int x1), (3, .int x3), (4, .int x4)] [] s0 := by
  intro n
  induction n with
  | zero => intro x1 x3 x4 s0 h; cases (show (none : Option (Int32 × SS)) = some res from h)
  | succ n ih => intro x1 x3 x4 s0 h; exact wX6_used_7 F R ih x1 x3 x4 s0 h
set_option maxRecDepth 20000 in
theorem wX6_used_e {X : Cx} (F : Fx false X cX6_used RX6 6 0 0) {res : Int32 × SS} (R : RI false X cX6_used 6 res) {N : Nat} : ∀ (a1 : Int32) (a2 : Int32) (s0 : SS), fX6_used N a1 a2 s0 = some res → G false X 6 0 [(0, rf X.2.2 0), (1, .int a1), (2, .int a2)] [] s0 := by
  intro a1 a2 s0 h
  unfold fX6_used at h
  refine g_iconst F (v := 1) dX6_used_0 (by decide) ?_
  refine g_iload_n F (j := 2) dX6_used_1 rfl rfl ?_
  refine g_ishl F dX6_used_2 ?_
  refine g_istore_n F dX6_used_3 rfl (by decide) (lv' := [(0, rf X.2.2 0), (1, .int a1), (3, .int ((1 : Int32) <<< (a2 &&& (31 : Int32))))]) [1, 2, 0] rfl ?_
  refine g_iconst F (v := 0) dX6_used_4 (by decide) ?_
  refine g_istore F dX6_used_5 (by decide) (lv' := [(0, rf X.2.2 0), (1, .int a1), (3, .int ((1 : Int32) <<< (a2 &&& (31 : Int32)))), (4, .int 0)]) [1, 2, 3, 0] rfl ?_
  exact wX6_used_7_lp F R N a1 ((1 : Int32) <<< (a2 &&& (31 : Int32))) 0 s0 h
theorem mX6_used {l : Launch} {w : Wd} (N : Nat) (hi : inj false w)  {res : Int32 × SS} {a1 a2 : Int32} {s0 : SS} (h : fX6_used N a1 a2 s0 = some res) : MI false l yX6_used cX6_used 6 (some .int) { frames := 0, cells := 0, slots := 0, locals := 0 } w [rf w 0, .int a1, .int a2] s0 res := by
  refine mk_i (by decide) hi (Nat.le_of_ble_eq_true rfl) (fun X hX hL F R => ?_)
  subst hX; subst hL
  exact wX6_used_e F R a1 a2 s0 h
set_option maxRecDepth 20000 in
theorem wX6_isTry_40 {X : Cx} (F : Fx false X cX6_isTry RX6 6 1 25) {res : Int32 × SS} (R : RZ false X cX6_isTry 6 res) {N : Nat} : ∀  (s0 : SS), fX6_isTry_40 N s0 = some res → G false X 6 40 [] [] s0 := by
  intro  s0 h
  unfold fX6_isTry_40 at h
  refine g_iconst F (v := 0) dX6_isTry_40 (by decide) ?_
  exact R _ _ _ _ dX6_isTry_41 h
set_option maxRecDepth 20000 in
theorem wX6_isTry_130 {X : Cx} (F : Fx false X cX6_isTry RX6 6 1 25) {res : Int32 × SS} (R : RZ false X cX6_isTry 6 res) {N : Nat} : ∀  (s0 : SS), fX6_isTry_130 N s0 = some res → G false X 6 130 [] [] s0 := by
  intro  s0 h
  unfold fX6_isTry_130 at h
  refine g_iconst F (v := 0) dX6_isTry_130 (by decide) ?_
  exact R _ _ _ _ dX6_isTry_131 h
set_option maxRecDepth 20000 in
theorem wX6_isTry_188 {X : Cx} (F : Fx false X cX6_isTry RX6 6 1 25) {res : Int32 × SS} (R : RZ false X cX6_isTry 6 res) {N : Nat} : ∀  (s0 : SS), fX6_isTry_188 N s0 = some res → G false X 6 188 [] [] s0 := by
  intro  s0 h
  unfold fX6_isTry_188 at h
  refine g_iconst F (v := 0) dX6_isTry_188 (by decide) ?_
  exact R _ _ _ _ dX6_isTry_189 h
set_option maxRecDepth 20000 in
theorem wX6_isTry_253 {X : Cx} (F : Fx false X cX6_isTry RX6 6 1 25) {res : Int32 × SS} (R : RZ false X cX6_isTry 6 res) {N : Nat} : ∀  (s0 : SS), fX6_isTry_253 N s0 = some res → G false X 6 253 [] [] s0 := by
  intro  s0 h
  unfold fX6_isTry_253 at h
  refine g_iconst F (v := 0) dX6_isTry_253 (by decide) ?_
  exact R _ _ _ _ dX6_isTry_254 h
set_option maxRecDepth 20000 in
theorem wX6_isTry_255 {X : Cx} (F : Fx false X cX6_isTry RX6 6 1 25) {res : Int32 × SS} (R : RZ false X cX6_isTry 6 res) {N : Nat} {k193 : Int32 → Int32 → Int32 → SS → Option (Int32 × SS)} (hk193 : ∀ (x1 : Int32) (x2 : Int32) (x5 : Int32) (σ : SS), k193 x1 x2 x5 σ = some res → G false X 6 193 [(0, rf X.2.2 0), (1, .int x1), (2, .int x2), (5, .int x5)] [] σ) : ∀ (x1 : Int32) (x2 : Int32) (x5 : Int32) (s0 : SS), fX6_isTry_255 N k193 x1 x2 x5 s0 = some res → G false X 6 255 [(0, rf X.2.2 0), (1, .int x1), (2, .int x2), (5, .int x5)] [] s0 := by
  intro x1 x2 x5 s0 h
  unfold fX6_isTry_255 at h
  refine g_iinc F (j := 3) (v := x5 + 1) dX6_isTry_255 rfl rfl (by decide) (lv' := [(0, rf X.2.2 0), (1, .int x1), (2, .int x2), (5, .int (x5 + 1))]) [1, 2, 3, 0] rfl ?_
  refine g_goto F (tgt := 193) dX6_isTry_258 (by decide) ?_
  exact hk193 x1 x2 (x5 + 1) s0 h
set_option maxRecDepth 20000 in
theorem wX6_isTry_231 {X : Cx} (F : Fx false X cX6_isTry RX6 6 1 25) {res : Int32 × SS} (R : RZ false X cX6_isTry 6 res) {N : Nat} {k193 : Int32 → Int32 → Int32 → SS → Option (Int32 × SS)} (hk193 : ∀ (x1 : Int32) (x2 : Int32) (x5 : Int32) (σ : SS), k193 x1 x2 x5 σ = some res → G false X 6 193 [(0, rf X.2.2 0), (1, .int x1), (2, .int x2), (5, .int x5)] [] σ) : ∀ (x1 : Int32) (x2 : Int32) (x5 : Int32) (s0 : SS), fX6_isTry_231 N k193 x1 x2 x5 s0 = some res → G false X 6 231 [(0, rf X.2.2 0), (1, .int x1), (2, .int x2), (5, .int x5)] [] s0 := by
  intro x1 x2 x5 s0 h
  unfold fX6_isTry_231 at h
  refine g_aload_n F (a := 0) (j := 0) dX6_isTry_231 rfl rfl ?_
  refine g_iload_n F (j := 1) dX6_isTry_232 rfl rfl ?_
  refine g_iload F (j := 3) dX6_isTry_233 rfl ?_
  refine g_iconst F (v := 2) dX6_isTry_235 (by decide) ?_
  refine g_vi F (k := 0) (As := [.int x1, .int x5, .int 2]) (rest := []) (fun _ q => mX6_isLike N F.inj  q) mw_X6_isLike ml_X6_70 rfl ⟨Nat.le_of_ble_eq_true rfl, Nat.le_of_ble_eq_true rfl⟩ pm0 cl6 rfl (Nat.le_of_ble_eq_true rfl) dX6_isTry_236 h (fun v1 s1 h => ?_)
  refine g_ifeq F (tgt := 255) dX6_isTry_239 (by decide) h (fun h => ?_) (fun h => ?_)
  · exact wX6_isTry_255 F R hk193 x1 x2 x5 s1 h
  · refine g_aload_n F (a := 0) (j := 0) dX6_isTry_242 rfl rfl ?_
    refine gt_X6_39 F (k := 0) pm0 dX6_isTry_243 (v := rf X.2.2 9) rfl ?_
    refine g_iload F (j := 3) dX6_isTry_246 rfl ?_
    refine g_iald F (k := 9) pm9 dX6_isTry_248 h (fun h => ?_)
    refine g_iload_n F (j := 2) dX6_isTry_249 rfl rfl ?_
    refine g_icmp_eq F (tgt := 255) dX6_isTry_250 (by decide) h (fun h => ?_) (fun h => ?_)
    · exact wX6_isTry_255 F R hk193 x1 x2 x5 s1 h
    · refine g_sub (lv' := []) [] rfl ?_
      exact wX6_isTry_253 F R s1 h
set_option maxRecDepth 20000 in
theorem wX6_isTry_193 {X : Cx} (F : Fx false X cX6_isTry RX6 6 1 25) {res : Int32 × SS} (R : RZ false X cX6_isTry 6 res) {N : Nat} {k193 : Int32 → Int32 → Int32 → SS → Option (Int32 × SS)} (hk193 : ∀ (x1 : Int32) (x2 : Int32) (x5 : Int32) (σ : SS), k193 x1 x2 x5 σ = some res → G false X 6 193 [(0, rf X.2.2 0), (1, .int x1), (2, .int x2), (5, .int x5)] [] σ) : ∀ (x1 : Int32) (x2 : Int32) (x5 : Int32) (s0 : SS), fX6_isTry_193 N k193 x1 x2 x5 s0 = some res → G false X 6 193 [(0, rf X.2.2 0), (1, .int x1), (2, .int x2), (5, .int x5)] [] s0 := by
  intro x1 x2 x5 s0 h
  unfold fX6_isTry_193 at h
  refine g_iload F (j := 3) dX6_isTry_193 rfl ?_
  refine g_iload_n F (j := 1) dX6_isTry_195 rfl rfl ?_
  refine g_icmp_ge F (tgt := 261) dX6_isTry_196 (by decide) h (fun h => ?_) (fun h => ?_)
  · refine g_iconst F (v := 1) dX6_isTry_261 (by decide) ?_
    exact R _ _ _ _ dX6_isTry_262 h
  · refine g_aload_n F (a := 0) (j := 0) dX6_isTry_199 rfl rfl ?_
    refine gt_X6_31 F (k := 0) pm0 dX6_isTry_200 (v := rf X.2.2 8) rfl ?_
    refine g_iload F (j := 3) dX6_isTry_203 rfl ?_
    refine g_zald F (k := 8) pm8 dX6_isTry_205 h (fun h => ?_)
    refine g_ifne F (tgt := 255) dX6_isTry_206 (by decide) h (fun h => ?_) (fun h => ?_)
    · refine g_aload_n F (a := 0) (j := 0) dX6_isTry_209 rfl rfl ?_
      refine g_iload_n F (j := 1) dX6_isTry_210 rfl rfl ?_
      refine g_iload F (j := 3) dX6_isTry_211 rfl ?_
      refine g_iconst F (v := 1) dX6_isTry_213 (by decide) ?_
      refine g_vi F (k := 0) (As := [.int x1, .int x5, .int 1]) (rest := []) (fun _ q => mX6_isLike N F.inj  q) mw_X6_isLike ml_X6_70 rfl ⟨Nat.le_of_ble_eq_true rfl, Nat.le_of_ble_eq_true rfl⟩ pm0 cl6 rfl (Nat.le_of_ble_eq_true rfl) dX6_isTry_214 h (fun v1 s1 h => ?_)
      refine g_ifeq F (tgt := 231) dX6_isTry_217 (by decide) h (fun h => ?_) (fun h => ?_)
      · exact wX6_isTry_231 F R hk193 x1 x2 x5 s1 h
      · refine g_aload_n F (a := 0) (j := 0) dX6_isTry_220 rfl rfl ?_
        refine gt_X6_39 F (k := 0) pm0 dX6_isTry_221 (v := rf X.2.2 9) rfl ?_
        refine g_iload F (j := 3) dX6_isTry_224 rfl ?_
        refine g_iald F (k := 9) pm9 dX6_isTry_226 h (fun h => ?_)
        refine g_iload_n F (j := 2) dX6_isTry_227 rfl rfl ?_
        refine g_icmp_eq F (tgt := 253) dX6_isTry_228 (by decide) h (fun h => ?_) (fun h => ?_)
        · refine g_sub (lv' := []) [] rfl ?_
          exact wX6_isTry_253 F R s1 h
        · exact wX6_isTry_231 F R hk193 x1 x2 x5 s1 h
    · exact wX6_isTry_255 F R hk193 x1 x2 x5 s0 h
theorem wX6_isTry_193_lp {X : Cx} (F : Fx false X cX6_isTry RX6 6 1 25) {res : Int32 × SS} (R : RZ false X cX6_isTry 6 res) {N : Nat} : ∀ (n : Nat) (x1 : Int32) (x2 : Int32) (x5 : Int32) (s0 : SS), lp (fX6_isTry_193 N) (fun _ _ _ _ => none) n x1 x2 x5 s0 = some res → G false X 6 193 [(0, rf X.2.2 0), (1, .int x1), (2, .int x2), (5, .int x5)] [] s0 := by
  intro n
  induction n with
  | zero => intro x1 x2 x5 s0 h; cases (show (none : Option (Int32 × SS)) = some res from h)
  | succ n ih => intro x1 x2 x5 s0 h; exact wX6_isTry_193 F R ih x1 x2 x5 s0 h
set_option maxRecDepth 20000 in
theorem wX6_isTry_190 {X : Cx} (F : Fx false X cX6_isTry RX6 6 1 25) {res : Int32 × SS} (R : RZ false X cX6_isTry 6 res) {N : Nat} : ∀ (x1 : Int32) (x2 : Int32) (s0 : SS), fX6_isTry_190 N x1 x2 s0 = some res → G false X 6 190 [(0, rf X.2.2 0), (1, .int x1), (2, .int x2)] [] s0 := by
  intro x1 x2 s0 h
  unfold fX6_isTry_190 at h
  refine g_iconst F (v := 0) dX6_isTry_190 (by decide) ?_
  refine g_istore F dX6_isTry_191 (by decide) (lv' := [(0, rf X.2.2 0), (1, .int x1), (2, .int x2), (5, .int 0)]) [1, 2, 3, 0] rfl ?_
  exact wX6_isTry_193_lp F R N x1 x2 0 s0 h
set_option maxRecDepth 20000 in
theorem wX6_isTry_167 {X : Cx} (F : Fx false X cX6_isTry RX6 6 1 25) {res : Int32 × SS} (R : RZ false X cX6_isTry 6 res) {N : Nat} : ∀ (x1 : Int32) (x2 : Int32) (s0 : SS), fX6_isTry_167 N x1 x2 s0 = some res → G false X 6 167 [(0, rf X.2.2 0), (1, .int x1), (2, .int x2)] [] s0 := by
  intro x1 x2 s0 h
  unfold fX6_isTry_167 at h
  refine g_aload_n F (a := 0) (j := 0) dX6_isTry_167 rfl rfl ?_
  refine gt_X6_109 F (k := 0) pm0 dX6_isTry_168 (v := .int (s0 0 17)) rfl ?_
  refine g_iconst F (v := 2) dX6_isTry_171 (by decide) ?_
  refine g_icmp_ne F (tgt := 190) dX6_isTry_172 (by decide) h (fun h => ?_) (fun h => ?_)
  · refine g_aload_n F (a := 0) (j := 0) dX6_isTry_175 rfl rfl ?_
    refine g_iload_n F (j := 1) dX6_isTry_176 rfl rfl ?_
    refine g_iload_n F (j := 2) dX6_isTry_177 rfl rfl ?_
    refine g_vi F (k := 0) (As := [.int x1, .int x2]) (rest := []) (fun _ q => mX6_used N F.inj  q) mw_X6_used ml_X6_125 rfl ⟨Nat.le_of_ble_eq_true rfl, Nat.le_of_ble_eq_true rfl⟩ pm0 cl6 rfl (Nat.le_of_ble_eq_true rfl) dX6_isTry_178 h (fun v1 s1 h => ?_)
    refine g_aload_n F (a := 0) (j := 0) dX6_isTry_181 rfl rfl ?_
    refine gt_X6_115 F (k := 0) pm0 dX6_isTry_182 (v := .int (s1 0 19)) rfl ?_
    refine g_icmp_le F (tgt := 190) dX6_isTry_185 (by decide) h (fun h => ?_) (fun h => ?_)
    · exact wX6_isTry_190 F R x1 x2 s1 h
    · refine g_sub (lv' := []) [] rfl ?_
      exact wX6_isTry_188 F R s1 h
  · exact wX6_isTry_190 F R x1 x2 s0 h
set_option maxRecDepth 20000 in
theorem wX6_isTry_152 {X : Cx} (F : Fx false X cX6_isTry RX6 6 1 25) {res : Int32 × SS} (R : RZ false X cX6_isTry 6 res) {N : Nat} : ∀ (x1 : Int32) (x2 : Int32) (s0 : SS), fX6_isTry_152 N x1 x2 s0 = some res → G false X 6 152 [(0, rf X.2.2 0), (1, .int x1), (2, .int x2)] [] s0 := by
  intro x1 x2 s0 h
  unfold fX6_isTry_152 at h
  refine g_aload_n F (a := 0) (j := 0) dX6_isTry_152 rfl rfl ?_
  refine gt_X6_109 F (k := 0) pm0 dX6_isTry_153 (v := .int (s0 0 17)) rfl ?_
  refine g_ifne F (tgt := 167) dX6_isTry_156 (by decide) h (fun h => ?_) (fun h => ?_)
  · refine g_iload_n F (j := 2) dX6_isTry_159 rfl rfl ?_
    refine g_aload_n F (a := 0) (j := 0) dX6_isTry_160 rfl rfl ?_
    refine gt_X6_112 F (k := 0) pm0 dX6_isTry_161 (v := .int (s0 0 18)) rfl ?_
    refine g_icmp_eq F (tgt := 188) dX6_isTry_164 (by decide) h (fun h => ?_) (fun h => ?_)
    · refine g_sub (lv' := []) [] rfl ?_
      exact wX6_isTry_188 F R s0 h
    · exact wX6_isTry_167 F R x1 x2 s0 h
  · exact wX6_isTry_167 F R x1 x2 s0 h
set_option maxRecDepth 20000 in
theorem wX6_isTry_91 {X : Cx} (F : Fx false X cX6_isTry RX6 6 1 25) {res : Int32 × SS} (R : RZ false X cX6_isTry 6 res) {N : Nat} : ∀ (x1 : Int32) (x2 : Int32) (x3 : Int32) (t0 : Int32) (s0 : SS), fX6_isTry_91 N x1 x2 x3 t0 s0 = some res → G false X 6 91 [(0, rf X.2.2 0), (1, .int x1), (2, .int x2), (3, .int x3)] [.int t0] s0 := by
  intro x1 x2 x3 t0 s0 h
  unfold fX6_isTry_91 at h
  refine g_istore F dX6_isTry_91 (by decide) (lv' := [(0, rf X.2.2 0), (1, .int x1), (2, .int x2), (3, .int x3), (4, .int t0)]) [1, 2, 3, 4, 0] rfl ?_
  refine g_aload_n F (a := 0) (j := 0) dX6_isTry_93 rfl rfl ?_
  refine g_iload_n F (j := 1) dX6_isTry_94 rfl rfl ?_
  refine g_iload_n F (j := 2) dX6_isTry_95 rfl rfl ?_
  refine g_iconst F (v := 0) dX6_isTry_96 (by decide) ?_
  refine g_vi F (k := 0) (As := [.int x1, .int x2, .int 0]) (rest := []) (fun _ q => mX6_onto N F.inj  q) mw_X6_onto ml_X6_121 rfl ⟨Nat.le_of_ble_eq_true rfl, Nat.le_of_ble_eq_true rfl⟩ pm0 cl6 rfl (Nat.le_of_ble_eq_true rfl) dX6_isTry_97 h (fun v1 s1 h => ?_)
  refine g_aload_n F (a := 0) (j := 0) dX6_isTry_100 rfl rfl ?_
  refine gt_X6_7 F (k := 0) pm0 dX6_isTry_101 (v := rf X.2.2 1) rfl ?_
  refine g_iload_n F (j := 2) dX6_isTry_104 rfl rfl ?_
  refine g_iald F (k := 1) pm1 dX6_isTry_105 h (fun h => ?_)
  refine g_iload_n F (j := 3) dX6_isTry_106 rfl rfl ?_
  refine g_isub F dX6_isTry_107 ?_
  refine g_icmp_gt F (tgt := 130) dX6_isTry_108 (by decide) h (fun h => ?_) (fun h => ?_)
  · refine g_sub (lv' := []) [] rfl ?_
    exact wX6_isTry_130 F R s1 h
  · refine g_aload_n F (a := 0) (j := 0) dX6_isTry_111 rfl rfl ?_
    refine g_iload_n F (j := 1) dX6_isTry_112 rfl rfl ?_
    refine g_iload_n F (j := 2) dX6_isTry_113 rfl rfl ?_
    refine g_iconst F (v := 1) dX6_isTry_114 (by decide) ?_
    refine g_vi F (k := 0) (As := [.int x1, .int x2, .int 1]) (rest := []) (fun _ q => mX6_onto N F.inj  q) mw_X6_onto ml_X6_121 rfl ⟨Nat.le_of_ble_eq_true rfl, Nat.le_of_ble_eq_true rfl⟩ pm0 cl6 rfl (Nat.le_of_ble_eq_true rfl) dX6_isTry_115 h (fun v2 s2 h => ?_)
    refine g_aload_n F (a := 0) (j := 0) dX6_isTry_118 rfl rfl ?_
    refine gt_X6_13 F (k := 0) pm0 dX6_isTry_119 (v := rf X.2.2 2) rfl ?_
    refine g_iload_n F (j := 2) dX6_isTry_122 rfl rfl ?_
    refine g_iald F (k := 2) pm2 dX6_isTry_123 h (fun h => ?_)
    refine g_iload F (j := 4) dX6_isTry_124 rfl ?_
    refine g_isub F dX6_isTry_126 ?_
    refine g_icmp_le F (tgt := 132) dX6_isTry_127 (by decide) h (fun h => ?_) (fun h => ?_)
    · refine g_aload_n F (a := 0) (j := 0) dX6_isTry_132 rfl rfl ?_
      refine gt_X6_22 F (k := 0) pm0 dX6_isTry_133 (v := rf X.2.2 5) rfl ?_
      refine g_iload_n F (j := 1) dX6_isTry_136 rfl rfl ?_
      refine g_iald F (k := 5) pm5 dX6_isTry_137 h (fun h => ?_)
      refine g_iconst F (v := 3) dX6_isTry_138 (by decide) ?_
      refine g_icmp_ne F (tgt := 152) dX6_isTry_139 (by decide) h (fun h => ?_) (fun h => ?_)
      · refine g_aload_n F (a := 0) (j := 0) dX6_isTry_142 rfl rfl ?_
        refine gt_X6_28 F (k := 0) pm0 dX6_isTry_143 (v := rf X.2.2 7) rfl ?_
        refine g_iload_n F (j := 1) dX6_isTry_146 rfl rfl ?_
        refine g_iald F (k := 7) pm7 dX6_isTry_147 h (fun h => ?_)
        refine g_iload_n F (j := 2) dX6_isTry_148 rfl rfl ?_
        refine g_icmp_ne F (tgt := 188) dX6_isTry_149 (by decide) h (fun h => ?_) (fun h => ?_)
        · refine g_sub (lv' := [(0, rf X.2.2 0), (1, .int x1), (2, .int x2)]) [0, 1, 2] rfl ?_
          exact wX6_isTry_152 F R x1 x2 s2 h
        · refine g_sub (lv' := []) [] rfl ?_
          exact wX6_isTry_188 F R s2 h
      · refine g_sub (lv' := [(0, rf X.2.2 0), (1, .int x1), (2, .int x2)]) [0, 1, 2] rfl ?_
        exact wX6_isTry_152 F R x1 x2 s2 h
    · refine g_sub (lv' := []) [] rfl ?_
      exact wX6_isTry_130 F R s2 h
set_option maxRecDepth 20000 in
theorem wX6_isTry_90 {X : Cx} (F : Fx false X cX6_isTry RX6 6 1 25) {res : Int32 × SS} (R : RZ false X cX6_isTry 6 res) {N : Nat} : ∀ (x1 : Int32) (x2 : Int32) (x3 : Int32) (s0 : SS), fX6_isTry_90 N x1 x2 x3 s0 = some res → G false X 6 90 [(0, rf X.2.2 0), (1, .int x1), (2, .int x2), (3, .int x3)] [] s0 := by
  intro x1 x2 x3 s0 h
  unfold fX6_isTry_90 at h
  refine g_iconst F (v := 0) dX6_isTry_90 (by decide) ?_
  exact wX6_isTry_91 F R x1 x2 x3 0 s0 h
set_option maxRecDepth 20000 in
theorem wX6_isTry_66 {X : Cx} (F : Fx false X cX6_isTry RX6 6 1 25) {res : Int32 × SS} (R : RZ false X cX6_isTry 6 res) {N : Nat} : ∀ (x1 : Int32) (x2 : Int32) (t0 : Int32) (s0 : SS), fX6_isTry_66 N x1 x2 t0 s0 = some res → G false X 6 66 [(0, rf X.2.2 0), (1, .int x1), (2, .int x2)] [.int t0] s0 := by
  intro x1 x2 t0 s0 h
  unfold fX6_isTry_66 at h
  refine g_istore_n F dX6_isTry_66 rfl (by decide) (lv' := [(0, rf X.2.2 0), (1, .int x1), (2, .int x2), (3, .int t0)]) [1, 2, 3, 0] rfl ?_
  refine g_aload_n F (a := 0) (j := 0) dX6_isTry_67 rfl rfl ?_
  refine gt_X6_109 F (k := 0) pm0 dX6_isTry_68 (v := .int (s0 0 17)) rfl ?_
  refine g_iconst F (v := 1) dX6_isTry_71 (by decide) ?_
  refine g_icmp_ne F (tgt := 90) dX6_isTry_72 (by decide) h (fun h => ?_) (fun h => ?_)
  · refine g_iload_n F (j := 2) dX6_isTry_75 rfl rfl ?_
    refine g_aload_n F (a := 0) (j := 0) dX6_isTry_76 rfl rfl ?_
    refine gt_X6_112 F (k := 0) pm0 dX6_isTry_77 (v := .int (s0 0 18)) rfl ?_
    refine g_icmp_ne F (tgt := 90) dX6_isTry_80 (by decide) h (fun h => ?_) (fun h => ?_)
    · refine g_aload_n F (a := 0) (j := 0) dX6_isTry_83 rfl rfl ?_
      refine gt_X6_118 F (k := 0) pm0 dX6_isTry_84 (v := .int (s0 0 20)) rfl ?_
      refine g_goto F (tgt := 91) dX6_isTry_87 (by decide) ?_
      exact wX6_isTry_91 F R x1 x2 t0 (s0 0 20) s0 h
    · exact wX6_isTry_90 F R x1 x2 t0 s0 h
  · exact wX6_isTry_90 F R x1 x2 t0 s0 h
set_option maxRecDepth 20000 in
theorem wX6_isTry_65 {X : Cx} (F : Fx false X cX6_isTry RX6 6 1 25) {res : Int32 × SS} (R : RZ false X cX6_isTry 6 res) {N : Nat} : ∀ (x1 : Int32) (x2 : Int32) (s0 : SS), fX6_isTry_65 N x1 x2 s0 = some res → G false X 6 65 [(0, rf X.2.2 0), (1, .int x1), (2, .int x2)] [] s0 := by
  intro x1 x2 s0 h
  unfold fX6_isTry_65 at h
  refine g_iconst F (v := 0) dX6_isTry_65 (by decide) ?_
  exact wX6_isTry_66 F R x1 x2 0 s0 h
set_option maxRecDepth 20000 in
theorem wX6_isTry_42 {X : Cx} (F : Fx false X cX6_isTry RX6 6 1 25) {res : Int32 × SS} (R : RZ false X cX6_isTry 6 res) {N : Nat} : ∀ (x1 : Int32) (x2 : Int32) (s0 : SS), fX6_isTry_42 N x1 x2 s0 = some res → G false X 6 42 [(0, rf X.2.2 0), (1, .int x1), (2, .int x2)] [] s0 := by
  intro x1 x2 s0 h
  unfold fX6_isTry_42 at h
  refine g_aload_n F (a := 0) (j := 0) dX6_isTry_42 rfl rfl ?_
  refine gt_X6_109 F (k := 0) pm0 dX6_isTry_43 (v := .int (s0 0 17)) rfl ?_
  refine g_iconst F (v := 1) dX6_isTry_46 (by decide) ?_
  refine g_icmp_ne F (tgt := 65) dX6_isTry_47 (by decide) h (fun h => ?_) (fun h => ?_)
  · refine g_iload_n F (j := 2) dX6_isTry_50 rfl rfl ?_
    refine g_aload_n F (a := 0) (j := 0) dX6_isTry_51 rfl rfl ?_
    refine gt_X6_112 F (k := 0) pm0 dX6_isTry_52 (v := .int (s0 0 18)) rfl ?_
    refine g_icmp_ne F (tgt := 65) dX6_isTry_55 (by decide) h (fun h => ?_) (fun h => ?_)
    · refine g_aload_n F (a := 0) (j := 0) dX6_isTry_58 rfl rfl ?_
      refine gt_X6_115 F (k := 0) pm0 dX6_isTry_59 (v := .int (s0 0 19)) rfl ?_
      refine g_goto F (tgt := 66) dX6_isTry_62 (by decide) ?_
      exact wX6_isTry_66 F R x1 x2 (s0 0 19) s0 h
    · exact wX6_isTry_65 F R x1 x2 s0 h
  · exact wX6_isTry_65 F R x1 x2 s0 h
set_option maxRecDepth 20000 in
theorem wX6_isTry_e {X : Cx} (F : Fx false X cX6_isTry RX6 6 1 25) {res : Int32 × SS} (R : RZ false X cX6_isTry 6 res) {N : Nat} : ∀ (a1 : Int32) (a2 : Int32) (s0 : SS), fX6_isTry N a1 a2 s0 = some res → G false X 6 0 [(0, rf X.2.2 0), (1, .int a1), (2, .int a2)] [] s0 := by
  intro a1 a2 s0 h
  unfold fX6_isTry at h
  refine g_aload_n F (a := 0) (j := 0) dX6_isTry_0 rfl rfl ?_
  refine gt_X6_109 F (k := 0) pm0 dX6_isTry_1 (v := .int (s0 0 17)) rfl ?_
  refine g_iconst F (v := 1) dX6_isTry_4 (by decide) ?_
  refine g_icmp_ne F (tgt := 42) dX6_isTry_5 (by decide) h (fun h => ?_) (fun h => ?_)
  · refine g_aload_n F (a := 0) (j := 0) dX6_isTry_8 rfl rfl ?_
    refine gt_X6_7 F (k := 0) pm0 dX6_isTry_9 (v := rf X.2.2 1) rfl ?_
    refine g_aload_n F (a := 0) (j := 0) dX6_isTry_12 rfl rfl ?_
    refine gt_X6_112 F (k := 0) pm0 dX6_isTry_13 (v := .int (s0 0 18)) rfl ?_
    refine g_iald F (k := 1) pm1 dX6_isTry_16 h (fun h => ?_)
    refine g_aload_n F (a := 0) (j := 0) dX6_isTry_17 rfl rfl ?_
    refine gt_X6_115 F (k := 0) pm0 dX6_isTry_18 (v := .int (s0 0 19)) rfl ?_
    refine g_icmp_lt F (tgt := 40) dX6_isTry_21 (by decide) h (fun h => ?_) (fun h => ?_)
    · refine g_sub (lv' := []) [] rfl ?_
      exact wX6_isTry_40 F R s0 h
    · refine g_aload_n F (a := 0) (j := 0) dX6_isTry_24 rfl rfl ?_
      refine gt_X6_13 F (k := 0) pm0 dX6_isTry_25 (v := rf X.2.2 2) rfl ?_
      refine g_aload_n F (a := 0) (j := 0) dX6_isTry_28 rfl rfl ?_
      refine gt_X6_112 F (k := 0) pm0 dX6_isTry_29 (v := .int (s0 0 18)) rfl ?_
      refine g_iald F (k := 2) pm2 dX6_isTry_32 h (fun h => ?_)
      refine g_aload_n F (a := 0) (j := 0) dX6_isTry_33 rfl rfl ?_
      refine gt_X6_118 F (k := 0) pm0 dX6_isTry_34 (v := .int (s0 0 20)) rfl ?_
      refine g_icmp_ge F (tgt := 42) dX6_isTry_37 (by decide) h (fun h => ?_) (fun h => ?_)
      · exact wX6_isTry_42 F R a1 a2 s0 h
      · refine g_sub (lv' := []) [] rfl ?_
        exact wX6_isTry_40 F R s0 h
  · exact wX6_isTry_42 F R a1 a2 s0 h
theorem mX6_isTry {l : Launch} {w : Wd} (N : Nat) (hi : inj false w)  {res : Int32 × SS} {a1 a2 : Int32} {s0 : SS} (h : fX6_isTry N a1 a2 s0 = some res) : MI false l yX6_isTry cX6_isTry 6 (some .boolean) { frames := 1, cells := 0, slots := 0, locals := 25 } w [rf w 0, .int a1, .int a2] s0 res := by
  refine mk_z (by decide) hi (Nat.le_of_ble_eq_true rfl) (fun X hX hL F R => ?_)
  subst hX; subst hL
  exact wX6_isTry_e F R a1 a2 s0 h
set_option maxRecDepth 20000 in
theorem wX6_weigh_42 {X : Cx} (F : Fx false X cX6_weigh RX6 4 3 66) {res : Int32 × SS} (R : RI false X cX6_weigh 4 res) {N : Nat} {k12 : Int32 → Int32 → SS → Option (Int32 × SS)} (hk12 : ∀ (x1 : Int32) (x2 : Int32) (σ : SS), k12 x1 x2 σ = some res → G false X 4 12 [(0, rf X.2.2 0), (1, .int x1), (2, .int x2)] [] σ) : ∀ (x2 : Int32) (t0 : Int32) (t1 : Int32) (s0 : SS), fX6_weigh_42 N k12 x2 t0 t1 s0 = some res → G false X 4 42 [(0, rf X.2.2 0), (2, .int x2)] [.int t0, .int t1] s0 := by
  intro x2 t0 t1 s0 h
  unfold fX6_weigh_42 at h
  refine g_ior F dX6_weigh_42 ?_
  refine g_istore_n F dX6_weigh_43 rfl (by decide) (lv' := [(0, rf X.2.2 0), (1, .int (t1 ||| t0)), (2, .int x2)]) [1, 0, 2] rfl ?_
  refine g_iinc F (j := 2) (v := x2 + 1) dX6_weigh_44 rfl rfl (by decide) (lv' := [(0, rf X.2.2 0), (1, .int (t1 ||| t0)), (2, .int (x2 + 1))]) [1, 2, 0] rfl ?_
  refine g_goto F (tgt := 12) dX6_weigh_47 (by decide) ?_
  exact hk12 (t1 ||| t0) (x2 + 1) s0 h
set_option maxRecDepth 20000 in
theorem wX6_weigh_54 {X : Cx} (F : Fx false X cX6_weigh RX6 4 3 66) {res : Int32 × SS} (R : RI false X cX6_weigh 4 res) {N : Nat} {k54 : Int32 → Int32 → Int32 → SS → Option (Int32 × SS)} (hk54 : ∀ (x1 : Int32) (x2 : Int32) (x3 : Int32) (σ : SS), k54 x1 x2 x3 σ = some res → G false X 4 54 [(1, .int x1), (2, .int x2), (3, .int x3)] [] σ) : ∀ (x1 : Int32) (x2 : Int32) (x3 : Int32) (s0 : SS), fX6_weigh_54 N k54 x1 x2 x3 s0 = some res → G false X 4 54 [(1, .int x1), (2, .int x2), (3, .int x3)] [] s0 := by
  intro x1 x2 x3 s0 h
  unfold fX6_weigh_54 at h
  refine g_iload_n F (j := 2) dX6_weigh_54 rfl rfl ?_
  refine g_iconst F (v := 5) dX6_weigh_55 (by decide) ?_
  refine g_icmp_ge F (tgt := 73) dX6_weigh_56 (by decide) h (fun h => ?_) (fun h => ?_)
  · refine g_iload_n F (j := 1) dX6_weigh_73 rfl rfl ?_
    exact R _ _ _ _ dX6_weigh_74 h
  · refine g_iload_n F (j := 1) dX6_weigh_59 rfl rfl ?_
    refine g_iload_n F (j := 0) dX6_weigh_60 rfl rfl ?_
    refine g_iload_n F (j := 2) dX6_weigh_61 rfl rfl ?_
    refine g_ishr F dX6_weigh_62 ?_
    refine g_iconst F (v := 1) dX6_weigh_63 (by decide) ?_
    refine g_iand F dX6_weigh_64 ?_
    refine g_iadd F dX6_weigh_65 ?_
    refine g_istore_n F dX6_weigh_66 rfl (by decide) (lv' := [(1, .int x1), (2, .int (x2 + (((x1 : Int32) >>> (x3 &&& (31 : Int32))) &&& 1))), (3, .int x3)]) [1, 0, 2] rfl ?_
    refine g_iinc F (j := 2) (v := x3 + 1) dX6_weigh_67 rfl rfl (by decide) (lv' := [(1, .int x1), (2, .int (x2 + (((x1 : Int32) >>> (x3 &&& (31 : Int32))) &&& 1))), (3, .int (x3 + 1))]) [1, 2, 0] rfl ?_
    refine g_goto F (tgt := 54) dX6_weigh_70 (by decide) ?_
    exact hk54 x1 (x2 + (((x1 : Int32) >>> (x3 &&& (31 : Int32))) &&& 1)) (x3 + 1) s0 h
theorem wX6_weigh_54_lp {X : Cx} (F : Fx false X cX6_weigh RX6 4 3 66) {res : Int32 × SS} (R : RI false X cX6_weigh 4 res) {N : Nat} : ∀ (n : Nat) (x1 : Int32) (x2 : Int32) (x3 : Int32) (s0 : SS), lp (fX6_weigh_54 N) (fun _ _ _ _ => none) n x1 x2 x3 s0 = some res → G false X 4 54 [(1, .int x1), (2, .int x2), (3, .int x3)] [] s0 := by
  intro n
  induction n with
  | zero => intro x1 x2 x3 s0 h; cases (show (none : Option (Int32 × SS)) = some res from h)
  | succ n ih => intro x1 x2 x3 s0 h; exact wX6_weigh_54 F R ih x1 x2 x3 s0 h
set_option maxRecDepth 20000 in
theorem wX6_weigh_12 {X : Cx} (F : Fx false X cX6_weigh RX6 4 3 66) {res : Int32 × SS} (R : RI false X cX6_weigh 4 res) {N : Nat} {k12 : Int32 → Int32 → SS → Option (Int32 × SS)} (hk12 : ∀ (x1 : Int32) (x2 : Int32) (σ : SS), k12 x1 x2 σ = some res → G false X 4 12 [(0, rf X.2.2 0), (1, .int x1), (2, .int x2)] [] σ) : ∀ (x1 : Int32) (x2 : Int32) (s0 : SS), fX6_weigh_12 N k12 x1 x2 s0 = some res → G false X 4 12 [(0, rf X.2.2 0), (1, .int x1), (2, .int x2)] [] s0 := by
  intro x1 x2 s0 h
  unfold fX6_weigh_12 at h
  refine g_iload_n F (j := 2) dX6_weigh_12 rfl rfl ?_
  refine g_aload_n F (a := 0) (j := 0) dX6_weigh_13 rfl rfl ?_
  refine gt_X6_67 F (k := 0) pm0 dX6_weigh_14 (v := .int (s0 0 3)) rfl ?_
  refine g_icmp_ge F (tgt := 50) dX6_weigh_17 (by decide) h (fun h => ?_) (fun h => ?_)
  · refine g_iconst F (v := 0) dX6_weigh_50 (by decide) ?_
    refine g_istore_n F dX6_weigh_51 rfl (by decide) (lv' := [(1, .int x1), (2, .int 0)]) [2, 0] rfl ?_
    refine g_iconst F (v := 0) dX6_weigh_52 (by decide) ?_
    refine g_istore_n F dX6_weigh_53 rfl (by decide) (lv' := [(1, .int x1), (2, .int 0), (3, .int 0)]) [1, 2, 0] rfl ?_
    exact wX6_weigh_54_lp F R N x1 0 0 s0 h
  · refine g_iload_n F (j := 1) dX6_weigh_20 rfl rfl ?_
    refine g_aload_n F (a := 0) (j := 0) dX6_weigh_21 rfl rfl ?_
    refine gt_X6_31 F (k := 0) pm0 dX6_weigh_22 (v := rf X.2.2 8) rfl ?_
    refine g_iload_n F (j := 2) dX6_weigh_25 rfl rfl ?_
    refine g_zald F (k := 8) pm8 dX6_weigh_26 h (fun h => ?_)
    refine g_ifeq F (tgt := 34) dX6_weigh_27 (by decide) h (fun h => ?_) (fun h => ?_)
    · refine g_iconst F (v := 1) dX6_weigh_34 (by decide) ?_
      refine g_aload_n F (a := 0) (j := 0) dX6_weigh_35 rfl rfl ?_
      refine gt_X6_39 F (k := 0) pm0 dX6_weigh_36 (v := rf X.2.2 9) rfl ?_
      refine g_iload_n F (j := 2) dX6_weigh_39 rfl rfl ?_
      refine g_iald F (k := 9) pm9 dX6_weigh_40 h (fun h => ?_)
      refine g_ishl F dX6_weigh_41 ?_
      refine g_sub (lv' := [(0, rf X.2.2 0), (2, .int x2)]) [0, 2] rfl ?_
      exact wX6_weigh_42 F R hk12 x2 ((1 : Int32) <<< ((s0 9 (Int32.toNatClampNeg x2)) &&& (31 : Int32))) x1 s0 h
    · refine g_iconst F (v := 0) dX6_weigh_30 (by decide) ?_
      refine g_goto F (tgt := 42) dX6_weigh_31 (by decide) ?_
      refine g_sub (lv' := [(0, rf X.2.2 0), (2, .int x2)]) [0, 2] rfl ?_
      exact wX6_weigh_42 F R hk12 x2 0 x1 s0 h
theorem wX6_weigh_12_lp {X : Cx} (F : Fx false X cX6_weigh RX6 4 3 66) {res : Int32 × SS} (R : RI false X cX6_weigh 4 res) {N : Nat} : ∀ (n : Nat) (x1 : Int32) (x2 : Int32) (s0 : SS), lp (fX6_weigh_12 N) (fun _ _ _ => none) n x1 x2 s0 = some res → G false X 4 12 [(0, rf X.2.2 0), (1, .int x1), (2, .int x2)] [] s0 := by
  intro n
  induction n with
  | zero => intro x1 x2 s0 h; cases (show (none : Option (Int32 × SS)) = some res from h)
  | succ n ih => intro x1 x2 s0 h; exact wX6_weigh_12 F R ih x1 x2 s0 h
set_option maxRecDepth 20000 in
theorem wX6_weigh_116 {X : Cx} (F : Fx false X cX6_weigh RX6 4 3 66) {res : Int32 × SS} (R : RI false X cX6_weigh 4 res) {N : Nat} {k79 : Int32 → Int32 → SS → Option (Int32 × SS)} (hk79 : ∀ (x1 : Int32) (x2 : Int32) (σ : SS), k79 x1 x2 σ = some res → G false X 4 79 [(0, rf X.2.2 0), (1, .int x1), (2, .int x2)] [] σ) : ∀ (x2 : Int32) (t0 : Int32) (t1 : Int32) (s0 : SS), fX6_weigh_116 N k79 x2 t0 t1 s0 = some res → G false X 4 116 [(0, rf X.2.2 0), (2, .int x2)] [.int t0, .int t1] s0 := by
  intro x2 t0 t1 s0 h
  unfold fX6_weigh_116 at h
  refine g_iadd F dX6_weigh_116 ?_
  refine g_istore_n F dX6_weigh_117 rfl (by decide) (lv' := [(0, rf X.2.2 0), (1, .int (t1 + t0)), (2, .int x2)]) [1, 0, 2] rfl ?_
  refine g_iinc F (j := 2) (v := x2 + 1) dX6_weigh_118 rfl rfl (by decide) (lv' := [(0, rf X.2.2 0), (1, .int (t1 + t0)), (2, .int (x2 + 1))]) [1, 2, 0] rfl ?_
  refine g_goto F (tgt := 79) dX6_weigh_121 (by decide) ?_
  exact hk79 (t1 + t0) (x2 + 1) s0 h
set_option maxRecDepth 20000 in
theorem wX6_weigh_115 {X : Cx} (F : Fx false X cX6_weigh RX6 4 3 66) {res : Int32 × SS} (R : RI false X cX6_weigh 4 res) {N : Nat} {k79 : Int32 → Int32 → SS → Option (Int32 × SS)} (hk79 : ∀ (x1 : Int32) (x2 : Int32) (σ : SS), k79 x1 x2 σ = some res → G false X 4 79 [(0, rf X.2.2 0), (1, .int x1), (2, .int x2)] [] σ) : ∀ (x2 : Int32) (t0 : Int32) (s0 : SS), fX6_weigh_115 N k79 x2 t0 s0 = some res → G false X 4 115 [(0, rf X.2.2 0), (2, .int x2)] [.int t0] s0 := by
  intro x2 t0 s0 h
  unfold fX6_weigh_115 at h
  refine g_iconst F (v := 0) dX6_weigh_115 (by decide) ?_
  exact wX6_weigh_116 F R hk79 x2 0 t0 s0 h
set_option maxRecDepth 20000 in
theorem wX6_weigh_79 {X : Cx} (F : Fx false X cX6_weigh RX6 4 3 66) {res : Int32 × SS} (R : RI false X cX6_weigh 4 res) {N : Nat} {k79 : Int32 → Int32 → SS → Option (Int32 × SS)} (hk79 : ∀ (x1 : Int32) (x2 : Int32) (σ : SS), k79 x1 x2 σ = some res → G false X 4 79 [(0, rf X.2.2 0), (1, .int x1), (2, .int x2)] [] σ) : ∀ (x1 : Int32) (x2 : Int32) (s0 : SS), fX6_weigh_79 N k79 x1 x2 s0 = some res → G false X 4 79 [(0, rf X.2.2 0), (1, .int x1), (2, .int x2)] [] s0 := by
  intro x1 x2 s0 h
  unfold fX6_weigh_79 at h
  refine g_iload_n F (j := 2) dX6_weigh_79 rfl rfl ?_
  refine g_aload_n F (a := 0) (j := 0) dX6_weigh_80 rfl rfl ?_
  refine gt_X6_67 F (k := 0) pm0 dX6_weigh_81 (v := .int (s0 0 3)) rfl ?_
  refine g_icmp_ge F (tgt := 124) dX6_weigh_84 (by decide) h (fun h => ?_) (fun h => ?_)
  · refine g_iload_n F (j := 1) dX6_weigh_124 rfl rfl ?_
    exact R _ _ _ _ dX6_weigh_125 h
  · refine g_iload_n F (j := 1) dX6_weigh_87 rfl rfl ?_
    refine g_aload_n F (a := 0) (j := 0) dX6_weigh_88 rfl rfl ?_
    refine g_iload_n F (j := 2) dX6_weigh_89 rfl rfl ?_
    refine g_vi F (k := 0) (As := [.int x2]) (rest := [.int x1]) (fun _ q => mX6_isBlock N F.inj  q) mw_X6_isBlock ml_X6_129 rfl ⟨Nat.le_of_ble_eq_true rfl, Nat.le_of_ble_eq_true rfl⟩ pm0 cl6 rfl (Nat.le_of_ble_eq_true rfl) dX6_weigh_90 h (fun v1 s1 h => ?_)
    refine g_ifeq F (tgt := 115) dX6_weigh_93 (by decide) h (fun h => ?_) (fun h => ?_)
    · refine g_sub (lv' := [(0, rf X.2.2 0), (2, .int x2)]) [0, 2] rfl ?_
      exact wX6_weigh_115 F R hk79 x2 x1 s1 h
    · refine g_aload_n F (a := 0) (j := 0) dX6_weigh_96 rfl rfl ?_
      refine gt_X6_39 F (k := 0) pm0 dX6_weigh_97 (v := rf X.2.2 9) rfl ?_
      refine g_iload_n F (j := 2) dX6_weigh_100 rfl rfl ?_
      refine g_iald F (k := 9) pm9 dX6_weigh_101 h (fun h => ?_)
      refine g_aload_n F (a := 0) (j := 0) dX6_weigh_102 rfl rfl ?_
      refine gt_X6_28 F (k := 0) pm0 dX6_weigh_103 (v := rf X.2.2 7) rfl ?_
      refine g_iload_n F (j := 2) dX6_weigh_106 rfl rfl ?_
      refine g_iald F (k := 7) pm7 dX6_weigh_107 h (fun h => ?_)
      refine g_icmp_eq F (tgt := 115) dX6_weigh_108 (by decide) h (fun h => ?_) (fun h => ?_)
      · refine g_sub (lv' := [(0, rf X.2.2 0), (2, .int x2)]) [0, 2] rfl ?_
        exact wX6_weigh_115 F R hk79 x2 x1 s1 h
      · refine g_iconst F (v := 1) dX6_weigh_111 (by decide) ?_
        refine g_goto F (tgt := 116) dX6_weigh_112 (by decide) ?_
        refine g_sub (lv' := [(0, rf X.2.2 0), (2, .int x2)]) [0, 2] rfl ?_
        exact wX6_weigh_116 F R hk79 x2 1 x1 s1 h
theorem wX6_weigh_79_lp {X : Cx} (F : Fx false X cX6_weigh RX6 4 3 66) {res : Int32 × SS} (R : RI false X cX6_weigh 4 res) {N : Nat} : ∀ (n : Nat) (x1 : Int32) (x2 : Int32) (s0 : SS), lp (fX6_weigh_79 N) (fun _ _ _ => none) n x1 x2 s0 = some res → G false X 4 79 [(0, rf X.2.2 0), (1, .int x1), (2, .int x2)] [] s0 := by
  intro n
  induction n with
  | zero => intro x1 x2 s0 h; cases (show (none : Option (Int32 × SS)) = some res from h)
  | succ n ih => intro x1 x2 s0 h; exact wX6_weigh_79 F R ih x1 x2 s0 h
set_option maxRecDepth 20000 in
theorem wX6_weigh_e {X : Cx} (F : Fx false X cX6_weigh RX6 4 3 66) {res : Int32 × SS} (R : RI false X cX6_weigh 4 res) {N : Nat} : ∀  (s0 : SS), fX6_weigh N s0 = some res → G false X 4 0 [(0, rf X.2.2 0)] [] s0 := by
  intro  s0 h
  unfold fX6_weigh at h
  refine g_aload_n F (a := 0) (j := 0) dX6_weigh_0 rfl rfl ?_
  refine gt_X6_109 F (k := 0) pm0 dX6_weigh_1 (v := .int (s0 0 17)) rfl ?_
  refine g_iconst F (v := 3) dX6_weigh_4 (by decide) ?_
  refine g_icmp_ne F (tgt := 75) dX6_weigh_5 (by decide) h (fun h => ?_) (fun h => ?_)
  · refine g_iconst F (v := 0) dX6_weigh_8 (by decide) ?_
    refine g_istore_n F dX6_weigh_9 rfl (by decide) (lv' := [(0, rf X.2.2 0), (1, .int 0)]) [1, 0] rfl ?_
    refine g_iconst F (v := 0) dX6_weigh_10 (by decide) ?_
    refine g_istore_n F dX6_weigh_11 rfl (by decide) (lv' := [(0, rf X.2.2 0), (1, .int 0), (2, .int 0)]) [1, 2, 0] rfl ?_
    exact wX6_weigh_12_lp F R N 0 0 s0 h
  · refine g_iconst F (v := 0) dX6_weigh_75 (by decide) ?_
    refine g_istore_n F dX6_weigh_76 rfl (by decide) (lv' := [(0, rf X.2.2 0), (1, .int 0)]) [1, 0] rfl ?_
    refine g_iconst F (v := 0) dX6_weigh_77 (by decide) ?_
    refine g_istore_n F dX6_weigh_78 rfl (by decide) (lv' := [(0, rf X.2.2 0), (1, .int 0), (2, .int 0)]) [1, 2, 0] rfl ?_
    exact wX6_weigh_79_lp F R N 0 0 s0 h
theorem mX6_weigh {l : Launch} {w : Wd} (N : Nat) (hi : inj false w)  {res : Int32 × SS} {s0 : SS} (h : fX6_weigh N s0 = some res) : MI false l yX6_weigh cX6_weigh 4 (some .int) { frames := 3, cells := 0, slots := 0, locals := 66 } w [rf w 0] s0 res := by
  refine mk_i (by decide) hi (Nat.le_of_ble_eq_true rfl) (fun X hX hL F R => ?_)
  subst hX; subst hL
  exact wX6_weigh_e F R  s0 h
set_option maxRecDepth 20000 in
theorem wX6_take_54 {X : Cx} (F : Fx false X cX6_take RX6 3 4 89) {res : SS} (R : RV false X cX6_take 3 res) {N : Nat} : ∀  (s0 : SS), fX6_take_54 N s0 = some res → G false X 3 54 [] [] s0 := by
  intro  s0 h
  unfold fX6_take_54 at h
  exact R _ _ _ dX6_take_54 h
set_option maxRecDepth 20000 in
theorem wX6_take_28 {X : Cx} (F : Fx false X cX6_take RX6 3 4 89) {res : SS} (R : RV false X cX6_take 3 res) {N : Nat} {k28 : Int32 → SS → Option (SS)} (hk28 : ∀ (x2 : Int32) (σ : SS), k28 x2 σ = some res → G false X 3 28 [(0, rf X.2.2 0), (2, .int x2)] [] σ) : ∀ (x2 : Int32) (s0 : SS), fX6_take_28 N k28 x2 s0 = some res → G false X 3 28 [(0, rf X.2.2 0), (2, .int x2)] [] s0 := by
  intro x2 s0 h
  unfold fX6_take_28 at h
  refine g_iload_n F (j := 1) dX6_take_28 rfl rfl ?_
  refine g_aload_n F (a := 0) (j := 0) dX6_take_29 rfl rfl ?_
  refine gt_X6_67 F (k := 0) pm0 dX6_take_30 (v := .int (s0 0 3)) rfl ?_
  refine g_icmp_ge F (tgt := 54) dX6_take_33 (by decide) h (fun h => ?_) (fun h => ?_)
  · refine g_sub (lv' := []) [] rfl ?_
    exact wX6_take_54 F R s0 h
  · refine g_aload_n F (a := 0) (j := 0) dX6_take_36 rfl rfl ?_
    refine gt_X6_42 F (k := 0) pm0 dX6_take_37 (v := rf X.2.2 10) rfl ?_
    refine g_iload_n F (j := 1) dX6_take_40 rfl rfl ?_
    refine g_aload_n F (a := 0) (j := 0) dX6_take_41 rfl rfl ?_
    refine gt_X6_39 F (k := 0) pm0 dX6_take_42 (v := rf X.2.2 9) rfl ?_
    refine g_iload_n F (j := 1) dX6_take_45 rfl rfl ?_
    refine g_iald F (k := 9) pm9 dX6_take_46 h (fun h => ?_)
    refine g_iast F (k := 10) pm10 dX6_take_47 h (fun s1 h => ?_)
    refine g_iinc F (j := 1) (v := x2 + 1) dX6_take_48 rfl rfl (by decide) (lv' := [(0, rf X.2.2 0), (2, .int (x2 + 1))]) [1, 0] rfl ?_
    refine g_goto F (tgt := 28) dX6_take_51 (by decide) ?_
    exact hk28 (x2 + 1) s1 h
theorem wX6_take_28_lp {X : Cx} (F : Fx false X cX6_take RX6 3 4 89) {res : SS} (R : RV false X cX6_take 3 res) {N : Nat} : ∀ (n : Nat) (x2 : Int32) (s0 : SS), lp (fX6_take_28 N) (fun _ _ => none) n x2 s0 = some res → G false X 3 28 [(0, rf X.2.2 0), (2, .int x2)] [] s0 := by
  intro n
  induction n with
  | zero => intro x2 s0 h; cases (show (none : Option (SS)) = some res from h)
  | succ n ih => intro x2 s0 h; exact wX6_take_28 F R ih x2 s0 h
set_option maxRecDepth 20000 in
theorem wX6_take_21 {X : Cx} (F : Fx false X cX6_take RX6 3 4 89) {res : SS} (R : RV false X cX6_take 3 res) {N : Nat} : ∀ (x1 : Int32) (s0 : SS), fX6_take_21 N x1 s0 = some res → G false X 3 21 [(0, rf X.2.2 0), (1, .int x1)] [] s0 := by
  intro x1 s0 h
  unfold fX6_take_21 at h
  refine g_aload_n F (a := 0) (j := 0) dX6_take_21 rfl rfl ?_
  refine g_iload_n F (j := 1) dX6_take_22 rfl rfl ?_
  refine pt_X6_135 F (k := 0) pm0 (Nat.le_of_ble_eq_true rfl) rfl dX6_take_23 h (fun s1 h => ?_)
  refine g_iconst F (v := 0) dX6_take_26 (by decide) ?_
  refine g_istore_n F dX6_take_27 rfl (by decide) (lv' := [(0, rf X.2.2 0), (2, .int 0)]) [1, 0] rfl ?_
  exact wX6_take_28_lp F R N 0 s1 h
set_option maxRecDepth 20000 in
theorem wX6_take_e {X : Cx} (F : Fx false X cX6_take RX6 3 4 89) {res : SS} (R : RV false X cX6_take 3 res) {N : Nat} : ∀  (s0 : SS), fX6_take N s0 = some res → G false X 3 0 [(0, rf X.2.2 0)] [] s0 := by
  intro  s0 h
  unfold fX6_take at h
  refine g_aload_n F (a := 0) (j := 0) dX6_take_0 rfl rfl ?_
  refine g_vi F (k := 0) (As := []) (rest := []) (fun _ q => mX6_weigh N F.inj  q) mw_X6_weigh ml_X6_154 rfl ⟨Nat.le_of_ble_eq_true rfl, Nat.le_of_ble_eq_true rfl⟩ pm0 cl6 rfl (Nat.le_of_ble_eq_true rfl) dX6_take_1 h (fun v1 s1 h => ?_)
  refine g_istore_n F dX6_take_4 rfl (by decide) (lv' := [(0, rf X.2.2 0), (1, .int v1)]) [1, 0] rfl ?_
  refine g_aload_n F (a := 0) (j := 0) dX6_take_5 rfl rfl ?_
  refine gt_X6_135 F (k := 0) pm0 dX6_take_6 (v := .int (s1 0 16)) rfl ?_
  refine g_iconst F (v := (-1)) dX6_take_9 (by decide) ?_
  refine g_icmp_eq F (tgt := 21) dX6_take_10 (by decide) h (fun h => ?_) (fun h => ?_)
  · exact wX6_take_21 F R v1 s1 h
  · refine g_iload_n F (j := 1) dX6_take_13 rfl rfl ?_
    refine g_aload_n F (a := 0) (j := 0) dX6_take_14 rfl rfl ?_
    refine gt_X6_135 F (k := 0) pm0 dX6_take_15 (v := .int (s1 0 16)) rfl ?_
    refine g_icmp_ge F (tgt := 54) dX6_take_18 (by decide) h (fun h => ?_) (fun h => ?_)
    · refine g_sub (lv' := []) [] rfl ?_
      exact wX6_take_54 F R s1 h
    · exact wX6_take_21 F R v1 s1 h
theorem mX6_take {l : Launch} {w : Wd} (N : Nat) (hi : inj false w)  {res : SS} {s0 : SS} (h : fX6_take N s0 = some res) : MV false l yX6_take cX6_take 3 none { frames := 4, cells := 0, slots := 0, locals := 89 } w [rf w 0] s0 res := by
  refine mk_v (by decide) hi (Nat.le_of_ble_eq_true rfl) (fun X hX hL F R => ?_)
  subst hX; subst hL
  exact wX6_take_e F R  s0 h
set_option maxRecDepth 20000 in
theorem wX6_go_142 {X : Cx} (F : Fx false X cX6_go RX6 4 5 111) {res : Int32 × SS} (R : RZ false X cX6_go 4 res) {N : Nat} {k29 : Int32 → SS → Option (Int32 × SS)} (hk29 : ∀ (x1 : Int32) (σ : SS), k29 x1 σ = some res → G false X 4 29 [(0, rf X.2.2 0), (1, .int x1)] [] σ) : ∀ (x1 : Int32) (s0 : SS), fX6_go_142 N k29 x1 s0 = some res → G false X 4 142 [(0, rf X.2.2 0), (1, .int x1)] [] s0 := by
  intro x1 s0 h
  unfold fX6_go_142 at h
  refine g_goto F (tgt := 29) dX6_go_142 (by decide) ?_
  exact hk29 x1 s0 h
set_option maxRecDepth 20000 in
theorem wX6_go_65 {X : Cx} (F : Fx false X cX6_go RX6 4 5 111) {res : Int32 × SS} (R : RZ false X cX6_go 4 res) {N : Nat} {k29 : Int32 → SS → Option (Int32 × SS)} (hk29 : ∀ (x1 : Int32) (σ : SS), k29 x1 σ = some res → G false X 4 29 [(0, rf X.2.2 0), (1, .int x1)] [] σ) : ∀ (x1 : Int32) (x2 : Int32) (s0 : SS), fX6_go_65 N k29 x1 x2 s0 = some res → G false X 4 65 [(0, rf X.2.2 0), (1, .int x1), (2, .int x2)] [] s0 := by
  intro x1 x2 s0 h
  unfold fX6_go_65 at h
  refine g_iload_n F (j := 2) dX6_go_65 rfl rfl ?_
  refine g_aload_n F (a := 0) (j := 0) dX6_go_66 rfl rfl ?_
  refine gt_X6_64 F (k := 0) pm0 dX6_go_67 (v := .int (s0 0 0)) rfl ?_
  refine g_icmp_ne F (tgt := 83) dX6_go_70 (by decide) h (fun h => ?_) (fun h => ?_)
  · refine g_aload_n F (a := 0) (j := 0) dX6_go_73 rfl rfl ?_
    refine g_iload_n F (j := 1) dX6_go_74 rfl rfl ?_
    refine g_iconst F (v := (-1)) dX6_go_75 (by decide) ?_
    refine g_vi F (k := 0) (As := [.int x1, .int (-1)]) (rest := []) (fun _ q => mX6_next N F.inj  q) mw_X6_next ml_X6_144 rfl ⟨Nat.le_of_ble_eq_true rfl, Nat.le_of_ble_eq_true rfl⟩ pm0 cl6 rfl (Nat.le_of_ble_eq_true rfl) dX6_go_76 h (fun v1 s1 h => ?_)
    refine g_istore_n F dX6_go_79 rfl (by decide) (lv' := [(0, rf X.2.2 0), (1, .int v1)]) [1, 0] rfl ?_
    refine g_goto F (tgt := 142) dX6_go_80 (by decide) ?_
    exact wX6_go_142 F R hk29 v1 s1 h
  · refine g_aload_n F (a := 0) (j := 0) dX6_go_83 rfl rfl ?_
    refine gt_X6_39 F (k := 0) pm0 dX6_go_84 (v := rf X.2.2 9) rfl ?_
    refine g_iload_n F (j := 1) dX6_go_87 rfl rfl ?_
    refine g_iload_n F (j := 2) dX6_go_88 rfl rfl ?_
    refine g_iast F (k := 9) pm9 dX6_go_89 h (fun s2 h => ?_)
    refine g_aload_n F (a := 0) (j := 0) dX6_go_90 rfl rfl ?_
    refine gt_X6_132 F (k := 0) pm0 dX6_go_91 (v := .int (s2 0 13)) rfl ?_
    refine g_ldc F (inr_18 _ (List.mem_of_getElem? (i := 8) rfl)) dX6_go_94 ?_
    refine g_icmp_ne F (tgt := 101) dX6_go_96 (by decide) h (fun h => ?_) (fun h => ?_)
    · refine g_iconst F (v := 0) dX6_go_99 (by decide) ?_
      exact R _ _ _ _ dX6_go_100 h
    · refine g_aload_n F (a := 0) (j := 0) dX6_go_101 rfl rfl ?_
      refine g_dupr F dX6_go_102 ?_
      refine gt_X6_132 F (k := 0) pm0 dX6_go_103 (v := .int (s2 0 13)) rfl ?_
      refine g_iconst F (v := 1) dX6_go_106 (by decide) ?_
      refine g_iadd F dX6_go_107 ?_
      refine pt_X6_132 F (k := 0) pm0 (Nat.le_of_ble_eq_true rfl) rfl dX6_go_108 h (fun s3 h => ?_)
      refine g_aload_n F (a := 0) (j := 0) dX6_go_111 rfl rfl ?_
      refine g_iload_n F (j := 1) dX6_go_112 rfl rfl ?_
      refine g_iconst F (v := 1) dX6_go_113 (by decide) ?_
      refine g_vi F (k := 0) (As := [.int x1, .int 1]) (rest := []) (fun _ q => mX6_next N F.inj  q) mw_X6_next ml_X6_144 rfl ⟨Nat.le_of_ble_eq_true rfl, Nat.le_of_ble_eq_true rfl⟩ pm0 cl6 rfl (Nat.le_of_ble_eq_true rfl) dX6_go_114 h (fun v4 s4 h => ?_)
      refine g_istore_n F dX6_go_117 rfl (by decide) (lv' := [(0, rf X.2.2 0), (1, .int x1), (3, .int v4)]) [1, 2, 0] rfl ?_
      refine g_iload_n F (j := 2) dX6_go_118 rfl rfl ?_
      refine g_aload_n F (a := 0) (j := 0) dX6_go_119 rfl rfl ?_
      refine gt_X6_67 F (k := 0) pm0 dX6_go_120 (v := .int (s4 0 3)) rfl ?_
      refine g_icmp_ge F (tgt := 138) dX6_go_123 (by decide) h (fun h => ?_) (fun h => ?_)
      · refine g_aload_n F (a := 0) (j := 0) dX6_go_138 rfl rfl ?_
        refine g_vv F (k := 0) (As := []) (rest := []) (fun _ q => mX6_take N F.inj  q) mw_X6_take ml_X6_151 rfl ⟨Nat.le_of_ble_eq_true rfl, Nat.le_of_ble_eq_true rfl⟩ pm0 cl6 rfl (Nat.le_of_ble_eq_true rfl) dX6_go_139 h (fun s5 h => ?_)
        refine g_sub (lv' := [(0, rf X.2.2 0), (1, .int x1)]) [0, 1] rfl ?_
        exact wX6_go_142 F R hk29 x1 s5 h
      · refine g_iload_n F (j := 2) dX6_go_126 rfl rfl ?_
        refine g_istore_n F dX6_go_127 rfl (by decide) (lv' := [(0, rf X.2.2 0), (1, .int v4)]) [1, 0] rfl ?_
        refine g_aload_n F (a := 0) (j := 0) dX6_go_128 rfl rfl ?_
        refine gt_X6_39 F (k := 0) pm0 dX6_go_129 (v := rf X.2.2 9) rfl ?_
        refine g_iload_n F (j := 1) dX6_go_132 rfl rfl ?_
        refine g_iconst F (v := (-1)) dX6_go_133 (by decide) ?_
        refine g_iast F (k := 9) pm9 dX6_go_134 h (fun s6 h => ?_)
        refine g_goto F (tgt := 142) dX6_go_135 (by decide) ?_
        exact wX6_go_142 F R hk29 v4 s6 h
set_option maxRecDepth 20000 in
theorem wX6_go_42 {X : Cx} (F : Fx false X cX6_go RX6 4 5 111) {res : Int32 × SS} (R : RZ false X cX6_go 4 res) {N : Nat} {k29 : Int32 → SS → Option (Int32 × SS)} {k42 : Int32 → Int32 → SS → Option (Int32 × SS)} (hk29 : ∀ (x1 : Int32) (σ : SS), k29 x1 σ = some res → G false X 4 29 [(0, rf X.2.2 0), (1, .int x1)] [] σ) (hk42 : ∀ (x1 : Int32) (x2 : Int32) (σ : SS), k42 x1 x2 σ = some res → G false X 4 42 [(0, rf X.2.2 0), (1, .int x1), (2, .int x2)] [] σ) : ∀ (x1 : Int32) (x2 : Int32) (s0 : SS), fX6_go_42 N k29 k42 x1 x2 s0 = some res → G false X 4 42 [(0, rf X.2.2 0), (1, .int x1), (2, .int x2)] [] s0 := by
  intro x1 x2 s0 h
  unfold fX6_go_42 at h
  refine g_iload_n F (j := 2) dX6_go_42 rfl rfl ?_
  refine g_aload_n F (a := 0) (j := 0) dX6_go_43 rfl rfl ?_
  refine gt_X6_64 F (k := 0) pm0 dX6_go_44 (v := .int (s0 0 0)) rfl ?_
  refine g_icmp_ge F (tgt := 65) dX6_go_47 (by decide) h (fun h => ?_) (fun h => ?_)
  · exact wX6_go_65 F R hk29 x1 x2 s0 h
  · refine g_aload_n F (a := 0) (j := 0) dX6_go_50 rfl rfl ?_
    refine g_iload_n F (j := 1) dX6_go_51 rfl rfl ?_
    refine g_iload_n F (j := 2) dX6_go_52 rfl rfl ?_
    refine g_vi F (k := 0) (As := [.int x1, .int x2]) (rest := []) (fun _ q => mX6_isTry N F.inj  q) mw_X6_isTry ml_X6_147 rfl ⟨Nat.le_of_ble_eq_true rfl, Nat.le_of_ble_eq_true rfl⟩ pm0 cl6 rfl (Nat.le_of_ble_eq_true rfl) dX6_go_53 h (fun v1 s1 h => ?_)
    refine g_ifne F (tgt := 65) dX6_go_56 (by decide) h (fun h => ?_) (fun h => ?_)
    · refine g_iinc F (j := 2) (v := x2 + 1) dX6_go_59 rfl rfl (by decide) (lv' := [(0, rf X.2.2 0), (1, .int x1), (2, .int (x2 + 1))]) [1, 2, 0] rfl ?_
      refine g_goto F (tgt := 42) dX6_go_62 (by decide) ?_
      exact hk42 x1 (x2 + 1) s1 h
    · exact wX6_go_65 F R hk29 x1 x2 s1 h
theorem wX6_go_42_lp {X : Cx} (F : Fx false X cX6_go RX6 4 5 111) {res : Int32 × SS} (R : RZ false X cX6_go 4 res) {N : Nat} {k29 : Int32 → SS → Option (Int32 × SS)} (hk29 : ∀ (x1 : Int32) (σ : SS), k29 x1 σ = some res → G false X 4 29 [(0, rf X.2.2 0), (1, .int x1)] [] σ) : ∀ (n : Nat) (x1 : Int32) (x2 : Int32) (s0 : SS), lp (fX6_go_42 N k29) (fun _ _ _ => none) n x1 x2 s0 = some res → G false X 4 42 [(0, rf X.2.2 0), (1, .int x1), (2, .int x2)] [] s0 := by
  intro n
  induction n with
  | zero => intro x1 x2 s0 h; cases (show (none : Option (Int32 × SS)) = some res from h)
  | succ n ih => intro x1 x2 s0 h; exact wX6_go_42 F R hk29 ih x1 x2 s0 h
set_option maxRecDepth 20000 in
theorem wX6_go_29 {X : Cx} (F : Fx false X cX6_go RX6 4 5 111) {res : Int32 × SS} (R : RZ false X cX6_go 4 res) {N : Nat} {k29 : Int32 → SS → Option (Int32 × SS)} (hk29 : ∀ (x1 : Int32) (σ : SS), k29 x1 σ = some res → G false X 4 29 [(0, rf X.2.2 0), (1, .int x1)] [] σ) : ∀ (x1 : Int32) (s0 : SS), fX6_go_29 N k29 x1 s0 = some res → G false X 4 29 [(0, rf X.2.2 0), (1, .int x1)] [] s0 := by
  intro x1 s0 h
  unfold fX6_go_29 at h
  refine g_iload_n F (j := 1) dX6_go_29 rfl rfl ?_
  refine g_iflt F (tgt := 145) dX6_go_30 (by decide) h (fun h => ?_) (fun h => ?_)
  · refine g_iconst F (v := 1) dX6_go_145 (by decide) ?_
    exact R _ _ _ _ dX6_go_146 h
  · refine g_aload_n F (a := 0) (j := 0) dX6_go_33 rfl rfl ?_
    refine gt_X6_39 F (k := 0) pm0 dX6_go_34 (v := rf X.2.2 9) rfl ?_
    refine g_iload_n F (j := 1) dX6_go_37 rfl rfl ?_
    refine g_iald F (k := 9) pm9 dX6_go_38 h (fun h => ?_)
    refine g_iconst F (v := 1) dX6_go_39 (by decide) ?_
    refine g_iadd F dX6_go_40 ?_
    refine g_istore_n F dX6_go_41 rfl (by decide) (lv' := [(0, rf X.2.2 0), (1, .int x1), (2, .int ((s0 9 (Int32.toNatClampNeg x1)) + 1))]) [1, 2, 0] rfl ?_
    exact wX6_go_42_lp F R hk29 N x1 ((s0 9 (Int32.toNatClampNeg x1)) + 1) s0 h
theorem wX6_go_29_lp {X : Cx} (F : Fx false X cX6_go RX6 4 5 111) {res : Int32 × SS} (R : RZ false X cX6_go 4 res) {N : Nat} : ∀ (n : Nat) (x1 : Int32) (s0 : SS), lp (fX6_go_29 N) (fun _ _ => none) n x1 s0 = some res → G false X 4 29 [(0, rf X.2.2 0), (1, .int x1)] [] s0 := by
  intro n
  induction n with
  | zero => intro x1 s0 h; cases (show (none : Option (Int32 × SS)) = some res from h)
  | succ n ih => intro x1 s0 h; exact wX6_go_29 F R ih x1 s0 h
set_option maxRecDepth 20000 in
theorem wX6_go_e {X : Cx} (F : Fx false X cX6_go RX6 4 5 111) {res : Int32 × SS} (R : RZ false X cX6_go 4 res) {N : Nat} : ∀  (s0 : SS), fX6_go N s0 = some res → G false X 4 0 [(0, rf X.2.2 0)] [] s0 := by
  intro  s0 h
  unfold fX6_go at h
  refine g_aload_n F (a := 0) (j := 0) dX6_go_0 rfl rfl ?_
  refine g_iconst F (v := (-1)) dX6_go_1 (by decide) ?_
  refine g_iconst F (v := 1) dX6_go_2 (by decide) ?_
  refine g_vi F (k := 0) (As := [.int (-1), .int 1]) (rest := []) (fun _ q => mX6_next N F.inj  q) mw_X6_next ml_X6_144 rfl ⟨Nat.le_of_ble_eq_true rfl, Nat.le_of_ble_eq_true rfl⟩ pm0 cl6 rfl (Nat.le_of_ble_eq_true rfl) dX6_go_3 h (fun v1 s1 h => ?_)
  refine g_istore_n F dX6_go_6 rfl (by decide) (lv' := [(0, rf X.2.2 0), (1, .int v1)]) [1, 0] rfl ?_
  refine g_iload_n F (j := 1) dX6_go_7 rfl rfl ?_
  refine g_aload_n F (a := 0) (j := 0) dX6_go_8 rfl rfl ?_
  refine gt_X6_67 F (k := 0) pm0 dX6_go_9 (v := .int (s1 0 3)) rfl ?_
  refine g_icmp_lt F (tgt := 22) dX6_go_12 (by decide) h (fun h => ?_) (fun h => ?_)
  · refine g_aload_n F (a := 0) (j := 0) dX6_go_22 rfl rfl ?_
    refine gt_X6_39 F (k := 0) pm0 dX6_go_23 (v := rf X.2.2 9) rfl ?_
    refine g_iload_n F (j := 1) dX6_go_26 rfl rfl ?_
    refine g_iconst F (v := (-1)) dX6_go_27 (by decide) ?_
    refine g_iast F (k := 9) pm9 dX6_go_28 h (fun s2 h => ?_)
    exact wX6_go_29_lp F R N v1 s2 h
  · refine g_aload_n F (a := 0) (j := 0) dX6_go_15 rfl rfl ?_
    refine g_iconst F (v := 0) dX6_go_16 (by decide) ?_
    refine pt_X6_135 F (k := 0) pm0 (Nat.le_of_ble_eq_true rfl) rfl dX6_go_17 h (fun s3 h => ?_)
    refine g_iconst F (v := 1) dX6_go_20 (by decide) ?_
    exact R _ _ _ _ dX6_go_21 h
theorem mX6_go {l : Launch} {w : Wd} (N : Nat) (hi : inj false w)  {res : Int32 × SS} {s0 : SS} (h : fX6_go N s0 = some res) : MI false l yX6_go cX6_go 4 (some .boolean) { frames := 5, cells := 0, slots := 0, locals := 111 } w [rf w 0] s0 res := by
  refine mk_z (by decide) hi (Nat.le_of_ble_eq_true rfl) (fun X hX hL F R => ?_)
  subst hX; subst hL
  exact wX6_go_e F R  s0 h
set_option maxRecDepth 20000 in
theorem wX6_searchRoom_18 {X : Cx} (F : Fx false X cX6_searchRoom RX6 2 6 134) {res : Int32 × SS} (R : RZ false X cX6_searchRoom 2 res) {N : Nat} : ∀ (x1 : Int32) (t0 : Int32) (s0 : SS), fX6_searchRoom_18 N x1 t0 s0 = some res → G false X 2 18 [(1, .int x1)] [.int t0, rf X.2.2 0] s0 := by
  intro x1 t0 s0 h
  unfold fX6_searchRoom_18 at h
  refine pt_X6_135 F (k := 0) pm0 (Nat.le_of_ble_eq_true rfl) rfl dX6_searchRoom_18 h (fun s1 h => ?_)
  refine g_iload_n F (j := 0) dX6_searchRoom_21 rfl rfl ?_
  exact R _ _ _ _ dX6_searchRoom_22 h
set_option maxRecDepth 20000 in
theorem wX6_searchRoom_e {X : Cx} (F : Fx false X cX6_searchRoom RX6 2 6 134) {res : Int32 × SS} (R : RZ false X cX6_searchRoom 2 res) {N : Nat} : ∀  (s0 : SS), fX6_searchRoom N s0 = some res → G false X 2 0 [(0, rf X.2.2 0)] [] s0 := by
  intro  s0 h
  unfold fX6_searchRoom at h
  refine g_aload_n F (a := 0) (j := 0) dX6_searchRoom_0 rfl rfl ?_
  refine g_vi F (k := 0) (As := []) (rest := []) (fun _ q => mX6_go N F.inj  q) mw_X6_go ml_X6_141 rfl ⟨Nat.le_of_ble_eq_true rfl, Nat.le_of_ble_eq_true rfl⟩ pm0 cl6 rfl (Nat.le_of_ble_eq_true rfl) dX6_searchRoom_1 h (fun v1 s1 h => ?_)
  refine g_istore_n F dX6_searchRoom_4 rfl (by decide) (lv' := [(0, rf X.2.2 0), (1, .int v1)]) [1, 0] rfl ?_
  refine g_aload_n F (a := 0) (j := 0) dX6_searchRoom_5 rfl rfl ?_
  refine g_iload_n F (j := 1) dX6_searchRoom_6 rfl rfl ?_
  refine g_ifeq F (tgt := 14) dX6_searchRoom_7 (by decide) h (fun h => ?_) (fun h => ?_)
  · refine g_aload_n F (a := 0) (j := 0) dX6_searchRoom_14 rfl rfl ?_
    refine gt_X6_135 F (k := 0) pm0 dX6_searchRoom_15 (v := .int (s1 0 16)) rfl ?_
    refine g_sub (lv' := [(1, .int v1)]) [1] rfl ?_
    exact wX6_searchRoom_18 F R v1 (s1 0 16) s1 h
  · refine g_iconst F (v := (-1)) dX6_searchRoom_10 (by decide) ?_
    refine g_goto F (tgt := 18) dX6_searchRoom_11 (by decide) ?_
    refine g_sub (lv' := [(1, .int v1)]) [1] rfl ?_
    exact wX6_searchRoom_18 F R v1 (-1) s1 h
theorem mX6_searchRoom {l : Launch} {w : Wd} (N : Nat) (hi : inj false w)  {res : Int32 × SS} {s0 : SS} (h : fX6_searchRoom N s0 = some res) : MI false l yX6_searchRoom cX6_searchRoom 2 (some .boolean) { frames := 6, cells := 0, slots := 0, locals := 134 } w [rf w 0] s0 res := by
  refine mk_z (by decide) hi (Nat.le_of_ble_eq_true rfl) (fun X hX hL F R => ?_)
  subst hX; subst hL
  exact wX6_searchRoom_e F R  s0 h
