set_option maxRecDepth 20000 in
theorem wX6_canByThird_279 {X : Cx} (F : Fx false X cX6_canByThird RX6 10 4 95) {res : Int32 × SS} (R : RZ false X cX6_canByThird 10 res) {N : Nat} {k12 : Int32 → Int32 → Int32 → Int32 → SS → Option (Int32 × SS)} {k67 : Int32 → Int32 → Int32 → Int32 → Int32 → Int32 → SS → Option (Int32 × SS)} (hk12 : ∀ (x1 : Int32) (x2 : Int32) (x3 : Int32) (x4 : Int32) (σ : SS), k12 x1 x2 x3 x4 σ = some res → G false X 10 12 [(0, rf X.2.2 0), (1, .int x1), (2, .int x2), (3, .int x3), (4, .int x4)] [] σ) (hk67 : ∀ (x1 : Int32) (x2 : Int32) (x3 : Int32) (x4 : Int32) (x5 : Int32) (x6 : Int32) (σ : SS), k67 x1 x2 x3 x4 x5 x6 σ = some res → G false X 10 67 [(0, rf X.2.2 0), (1, .int x1), (2, .int x2), (3, .int x3), (4, .int x4), (5, .int x5), (6, .int x6)] [] σ) : ∀ (x1 : Int32) (x2 : Int32) (x3 : Int32) (x4 : Int32) (x5 : Int32) (x6 : Int32) (s0 : SS), fX6_canByThird_279 N k12 k67 x1 x2 x3 x4 x5 x6 s0 = some res → G false X 10 279 [(0, rf X.2.2 0), (1, .int x1), (2, .int x2), (3, .int x3), (4, .int x4), (5, .int x5), (6, .int x6)] [] s0 := by
  intro x1 x2 x3 x4 x5 x6 s0 h
  unfold fX6_canByThird_279 at h
  refine g_iinc F (j := 6) (v := x6 + 1) dX6_canByThird_279 rfl rfl (by decide) (lv' := [(0, rf X.2.2 0), (1, .int x1), (2, .int x2), (3, .int x3), (4, .int x4), (5, .int x5), (6, .int (x6 + 1))]) [1, 2, 3, 4, 5, 6, 0] rfl ?_
  refine g_goto F (tgt := 67) dX6_canByThird_282 (by decide) ?_
  exact hk67 x1 x2 x3 x4 x5 (x6 + 1) s0 h
set_option maxRecDepth 20000 in
theorem wX6_canByThird_183 {X : Cx} (F : Fx false X cX6_canByThird RX6 10 4 95) {res : Int32 × SS} (R : RZ false X cX6_canByThird 10 res) {N : Nat} {k12 : Int32 → Int32 → Int32 → Int32 → SS → Option (Int32 × SS)} {k67 : Int32 → Int32 → Int32 → Int32 → Int32 → Int32 → SS → Option (Int32 × SS)} (hk12 : ∀ (x1 : Int32) (x2 : Int32) (x3 : Int32) (x4 : Int32) (σ : SS), k12 x1 x2 x3 x4 σ = some res → G false X 10 12 [(0, rf X.2.2 0), (1, .int x1), (2, .int x2), (3, .int x3), (4, .int x4)] [] σ) (hk67 : ∀ (x1 : Int32) (x2 : Int32) (x3 : Int32) (x4 : Int32) (x5 : Int32) (x6 : Int32) (σ : SS), k67 x1 x2 x3 x4 x5 x6 σ = some res → G false X 10 67 [(0, rf X.2.2 0), (1, .int x1), (2, .int x2), (3, .int x3), (4, .int x4), (5, .int x5), (6, .int x6)] [] σ) : ∀ (x1 : Int32) (x2 : Int32) (x3 : Int32) (x4 : Int32) (x5 : Int32) (x6 : Int32) (t0 : Int32) (t1 : Int32) (s0 : SS), fX6_canByThird_183 N k12 k67 x1 x2 x3 x4 x5 x6 t0 t1 s0 = some res → G false X 10 183 [(0, rf X.2.2 0), (1, .int x1), (2, .int x2), (3, .int x3), (4, .int x4), (5, .int x5), (6, .int x6)] [.int t0, .int t1, rf X.2.2 14] s0 := by
  intro x1 x2 x3 x4 x5 x6 t0 t1 s0 h
  unfold fX6_canByThird_183 at h
  refine g_zast F (k := 14) pm14 dX6_canByThird_183 h (fun s1 h => ?_)
  refine g_goto F (tgt := 279) dX6_canByThird_184 (by decide) ?_
  exact wX6_canByThird_279 F R hk12 hk67 x1 x2 x3 x4 x5 x6 s1 h
set_option maxRecDepth 20000 in
theorem wX6_canByThird_178 {X : Cx} (F : Fx false X cX6_canByThird RX6 10 4 95) {res : Int32 × SS} (R : RZ false X cX6_canByThird 10 res) {N : Nat} {k12 : Int32 → Int32 → Int32 → Int32 → SS → Option (Int32 × SS)} {k67 : Int32 → Int32 → Int32 → Int32 → Int32 → Int32 → SS → Option (Int32 × SS)} (hk12 : ∀ (x1 : Int32) (x2 : Int32) (x3 : Int32) (x4 : Int32) (σ : SS), k12 x1 x2 x3 x4 σ = some res → G false X 10 12 [(0, rf X.2.2 0), (1, .int x1), (2, .int x2), (3, .int x3), (4, .int x4)] [] σ) (hk67 : ∀ (x1 : Int32) (x2 : Int32) (x3 : Int32) (x4 : Int32) (x5 : Int32) (x6 : Int32) (σ : SS), k67 x1 x2 x3 x4 x5 x6 σ = some res → G false X 10 67 [(0, rf X.2.2 0), (1, .int x1), (2, .int x2), (3, .int x3), (4, .int x4), (5, .int x5), (6, .int x6)] [] σ) : ∀ (x1 : Int32) (x2 : Int32) (x3 : Int32) (x4 : Int32) (x5 : Int32) (x6 : Int32) (t0 : Int32) (s0 : SS), fX6_canByThird_178 N k12 k67 x1 x2 x3 x4 x5 x6 t0 s0 = some res → G false X 10 178 [(0, rf X.2.2 0), (1, .int x1), (2, .int x2), (3, .int x3), (4, .int x4), (5, .int x5), (6, .int x6)] [.int t0, rf X.2.2 14] s0 := by
  intro x1 x2 x3 x4 x5 x6 t0 s0 h
  unfold fX6_canByThird_178 at h
  refine g_iconst F (v := 1) dX6_canByThird_178 (by decide) ?_
  refine g_goto F (tgt := 183) dX6_canByThird_179 (by decide) ?_
  exact wX6_canByThird_183 F R hk12 hk67 x1 x2 x3 x4 x5 x6 1 t0 s0 h
set_option maxRecDepth 20000 in
theorem wX6_canByThird_182 {X : Cx} (F : Fx false X cX6_canByThird RX6 10 4 95) {res : Int32 × SS} (R : RZ false X cX6_canByThird 10 res) {N : Nat} {k12 : Int32 → Int32 → Int32 → Int32 → SS → Option (Int32 × SS)} {k67 : Int32 → Int32 → Int32 → Int32 → Int32 → Int32 → SS → Option (Int32 × SS)} (hk12 : ∀ (x1 : Int32) (x2 : Int32) (x3 : Int32) (x4 : Int32) (σ : SS), k12 x1 x2 x3 x4 σ = some res → G false X 10 12 [(0, rf X.2.2 0), (1, .int x1), (2, .int x2), (3, .int x3), (4, .int x4)] [] σ) (hk67 : ∀ (x1 : Int32) (x2 : Int32) (x3 : Int32) (x4 : Int32) (x5 : Int32) (x6 : Int32) (σ : SS), k67 x1 x2 x3 x4 x5 x6 σ = some res → G false X 10 67 [(0, rf X.2.2 0), (1, .int x1), (2, .int x2), (3, .int x3), (4, .int x4), (5, .int x5), (6, .int x6)] [] σ) : ∀ (x1 : Int32) (x2 : Int32) (x3 : Int32) (x4 : Int32) (x5 : Int32) (x6 : Int32) (t0 : Int32) (s0 : SS), fX6_canByThird_182 N k12 k67 x1 x2 x3 x4 x5 x6 t0 s0 = some res → G false X 10 182 [(0, rf X.2.2 0), (1, .int x1), (2, .int x2), (3, .int x3), (4, .int x4), (5, .int x5), (6, .int x6)] [.int t0, rf X.2.2 14] s0 := by
  intro x1 x2 x3 x4 x5 x6 t0 s0 h
  unfold fX6_canByThird_182 at h
  refine g_iconst F (v := 0) dX6_canByThird_182 (by decide) ?_
  exact wX6_canByThird_183 F R hk12 hk67 x1 x2 x3 x4 x5 x6 0 t0 s0 h
set_option maxRecDepth 20000 in
theorem wX6_canByThird_278 {X : Cx} (F : Fx false X cX6_canByThird RX6 10 4 95) {res : Int32 × SS} (R : RZ false X cX6_canByThird 10 res) {N : Nat} {k12 : Int32 → Int32 → Int32 → Int32 → SS → Option (Int32 × SS)} {k67 : Int32 → Int32 → Int32 → Int32 → Int32 → Int32 → SS → Option (Int32 × SS)} (hk12 : ∀ (x1 : Int32) (x2 : Int32) (x3 : Int32) (x4 : Int32) (σ : SS), k12 x1 x2 x3 x4 σ = some res → G false X 10 12 [(0, rf X.2.2 0), (1, .int x1), (2, .int x2), (3, .int x3), (4, .int x4)] [] σ) (hk67 : ∀ (x1 : Int32) (x2 : Int32) (x3 : Int32) (x4 : Int32) (x5 : Int32) (x6 : Int32) (σ : SS), k67 x1 x2 x3 x4 x5 x6 σ = some res → G false X 10 67 [(0, rf X.2.2 0), (1, .int x1), (2, .int x2), (3, .int x3), (4, .int x4), (5, .int x5), (6, .int x6)] [] σ) : ∀ (x1 : Int32) (x2 : Int32) (x3 : Int32) (x4 : Int32) (x5 : Int32) (x6 : Int32) (t0 : Int32) (t1 : Int32) (s0 : SS), fX6_canByThird_278 N k12 k67 x1 x2 x3 x4 x5 x6 t0 t1 s0 = some res → G false X 10 278 [(0, rf X.2.2 0), (1, .int x1), (2, .int x2), (3, .int x3), (4, .int x4), (5, .int x5), (6, .int x6)] [.int t0, .int t1, rf X.2.2 14] s0 := by
  intro x1 x2 x3 x4 x5 x6 t0 t1 s0 h
  unfold fX6_canByThird_278 at h
  refine g_zast F (k := 14) pm14 dX6_canByThird_278 h (fun s1 h => ?_)
  exact wX6_canByThird_279 F R hk12 hk67 x1 x2 x3 x4 x5 x6 s1 h
set_option maxRecDepth 20000 in
theorem wX6_canByThird_273 {X : Cx} (F : Fx false X cX6_canByThird RX6 10 4 95) {res : Int32 × SS} (R : RZ false X cX6_canByThird 10 res) {N : Nat} {k12 : Int32 → Int32 → Int32 → Int32 → SS → Option (Int32 × SS)} {k67 : Int32 → Int32 → Int32 → Int32 → Int32 → Int32 → SS → Option (Int32 × SS)} (hk12 : ∀ (x1 : Int32) (x2 : Int32) (x3 : Int32) (x4 : Int32) (σ : SS), k12 x1 x2 x3 x4 σ = some res → G false X 10 12 [(0, rf X.2.2 0), (1, .int x1), (2, .int x2), (3, .int x3), (4, .int x4)] [] σ) (hk67 : ∀ (x1 : Int32) (x2 : Int32) (x3 : Int32) (x4 : Int32) (x5 : Int32) (x6 : Int32) (σ : SS), k67 x1 x2 x3 x4 x5 x6 σ = some res → G false X 10 67 [(0, rf X.2.2 0), (1, .int x1), (2, .int x2), (3, .int x3), (4, .int x4), (5, .int x5), (6, .int x6)] [] σ) : ∀ (x1 : Int32) (x2 : Int32) (x3 : Int32) (x4 : Int32) (x5 : Int32) (x6 : Int32) (t0 : Int32) (s0 : SS), fX6_canByThird_273 N k12 k67 x1 x2 x3 x4 x5 x6 t0 s0 = some res → G false X 10 273 [(0, rf X.2.2 0), (1, .int x1), (2, .int x2), (3, .int x3), (4, .int x4), (5, .int x5), (6, .int x6)] [.int t0, rf X.2.2 14] s0 := by
  intro x1 x2 x3 x4 x5 x6 t0 s0 h
  unfold fX6_canByThird_273 at h
  refine g_iconst F (v := 1) dX6_canByThird_273 (by decide) ?_
  refine g_goto F (tgt := 278) dX6_canByThird_274 (by decide) ?_
  exact wX6_canByThird_278 F R hk12 hk67 x1 x2 x3 x4 x5 x6 1 t0 s0 h
set_option maxRecDepth 20000 in
theorem wX6_canByThird_277 {X : Cx} (F : Fx false X cX6_canByThird RX6 10 4 95) {res : Int32 × SS} (R : RZ false X cX6_canByThird 10 res) {N : Nat} {k12 : Int32 → Int32 → Int32 → Int32 → SS → Option (Int32 × SS)} {k67 : Int32 → Int32 → Int32 → Int32 → Int32 → Int32 → SS → Option (Int32 × SS)} (hk12 : ∀ (x1 : Int32) (x2 : Int32) (x3 : Int32) (x4 : Int32) (σ : SS), k12 x1 x2 x3 x4 σ = some res → G false X 10 12 [(0, rf X.2.2 0), (1, .int x1), (2, .int x2), (3, .int x3), (4, .int x4)] [] σ) (hk67 : ∀ (x1 : Int32) (x2 : Int32) (x3 : Int32) (x4 : Int32) (x5 : Int32) (x6 : Int32) (σ : SS), k67 x1 x2 x3 x4 x5 x6 σ = some res → G false X 10 67 [(0, rf X.2.2 0), (1, .int x1), (2, .int x2), (3, .int x3), (4, .int x4), (5, .int x5), (6, .int x6)] [] σ) : ∀ (x1 : Int32) (x2 : Int32) (x3 : Int32) (x4 : Int32) (x5 : Int32) (x6 : Int32) (t0 : Int32) (s0 : SS), fX6_canByThird_277 N k12 k67 x1 x2 x3 x4 x5 x6 t0 s0 = some res → G false X 10 277 [(0, rf X.2.2 0), (1, .int x1), (2, .int x2), (3, .int x3), (4, .int x4), (5, .int x5), (6, .int x6)] [.int t0, rf X.2.2 14] s0 := by
  intro x1 x2 x3 x4 x5 x6 t0 s0 h
  unfold fX6_canByThird_277 at h
  refine g_iconst F (v := 0) dX6_canByThird_277 (by decide) ?_
  exact wX6_canByThird_278 F R hk12 hk67 x1 x2 x3 x4 x5 x6 0 t0 s0 h
set_option maxRecDepth 20000 in
theorem wX6_canByThird_389 {X : Cx} (F : Fx false X cX6_canByThird RX6 10 4 95) {res : Int32 × SS} (R : RZ false X cX6_canByThird 10 res) {N : Nat} {k12 : Int32 → Int32 → Int32 → Int32 → SS → Option (Int32 × SS)} {k288 : Int32 → Int32 → Int32 → Int32 → Int32 → Int32 → SS → Option (Int32 × SS)} (hk12 : ∀ (x1 : Int32) (x2 : Int32) (x3 : Int32) (x4 : Int32) (σ : SS), k12 x1 x2 x3 x4 σ = some res → G false X 10 12 [(0, rf X.2.2 0), (1, .int x1), (2, .int x2), (3, .int x3), (4, .int x4)] [] σ) (hk288 : ∀ (x1 : Int32) (x2 : Int32) (x3 : Int32) (x4 : Int32) (x5 : Int32) (x6 : Int32) (σ : SS), k288 x1 x2 x3 x4 x5 x6 σ = some res → G false X 10 288 [(0, rf X.2.2 0), (1, .int x1), (2, .int x2), (3, .int x3), (4, .int x4), (5, .int x5), (6, .int x6)] [] σ) : ∀ (x1 : Int32) (x2 : Int32) (x3 : Int32) (x4 : Int32) (x5 : Int32) (x6 : Int32) (s0 : SS), fX6_canByThird_389 N k12 k288 x1 x2 x3 x4 x5 x6 s0 = some res → G false X 10 389 [(0, rf X.2.2 0), (1, .int x1), (2, .int x2), (3, .int x3), (4, .int x4), (5, .int x5), (6, .int x6)] [] s0 := by
  intro x1 x2 x3 x4 x5 x6 s0 h
  unfold fX6_canByThird_389 at h
  refine g_iinc F (j := 6) (v := x6 + 1) dX6_canByThird_389 rfl rfl (by decide) (lv' := [(0, rf X.2.2 0), (1, .int x1), (2, .int x2), (3, .int x3), (4, .int x4), (5, .int x5), (6, .int (x6 + 1))]) [1, 2, 3, 4, 5, 6, 0] rfl ?_
  refine g_goto F (tgt := 288) dX6_canByThird_392 (by decide) ?_
  exact hk288 x1 x2 x3 x4 x5 (x6 + 1) s0 h
set_option maxRecDepth 20000 in
theorem wX6_canByThird_388 {X : Cx} (F : Fx false X cX6_canByThird RX6 10 4 95) {res : Int32 × SS} (R : RZ false X cX6_canByThird 10 res) {N : Nat} {k12 : Int32 → Int32 → Int32 → Int32 → SS → Option (Int32 × SS)} {k288 : Int32 → Int32 → Int32 → Int32 → Int32 → Int32 → SS → Option (Int32 × SS)} (hk12 : ∀ (x1 : Int32) (x2 : Int32) (x3 : Int32) (x4 : Int32) (σ : SS), k12 x1 x2 x3 x4 σ = some res → G false X 10 12 [(0, rf X.2.2 0), (1, .int x1), (2, .int x2), (3, .int x3), (4, .int x4)] [] σ) (hk288 : ∀ (x1 : Int32) (x2 : Int32) (x3 : Int32) (x4 : Int32) (x5 : Int32) (x6 : Int32) (σ : SS), k288 x1 x2 x3 x4 x5 x6 σ = some res → G false X 10 288 [(0, rf X.2.2 0), (1, .int x1), (2, .int x2), (3, .int x3), (4, .int x4), (5, .int x5), (6, .int x6)] [] σ) : ∀ (x1 : Int32) (x2 : Int32) (x3 : Int32) (x4 : Int32) (x5 : Int32) (x6 : Int32) (t0 : Int32) (t1 : Int32) (s0 : SS), fX6_canByThird_388 N k12 k288 x1 x2 x3 x4 x5 x6 t0 t1 s0 = some res → G false X 10 388 [(0, rf X.2.2 0), (1, .int x1), (2, .int x2), (3, .int x3), (4, .int x4), (5, .int x5), (6, .int x6)] [.int t0, .int t1, rf X.2.2 14] s0 := by
  intro x1 x2 x3 x4 x5 x6 t0 t1 s0 h
  unfold fX6_canByThird_388 at h
  refine g_zast F (k := 14) pm14 dX6_canByThird_388 h (fun s1 h => ?_)
  exact wX6_canByThird_389 F R hk12 hk288 x1 x2 x3 x4 x5 x6 s1 h
set_option maxRecDepth 20000 in
theorem wX6_canByThird_383 {X : Cx} (F : Fx false X cX6_canByThird RX6 10 4 95) {res : Int32 × SS} (R : RZ false X cX6_canByThird 10 res) {N : Nat} {k12 : Int32 → Int32 → Int32 → Int32 → SS → Option (Int32 × SS)} {k288 : Int32 → Int32 → Int32 → Int32 → Int32 → Int32 → SS → Option (Int32 × SS)} (hk12 : ∀ (x1 : Int32) (x2 : Int32) (x3 : Int32) (x4 : Int32) (σ : SS), k12 x1 x2 x3 x4 σ = some res → G false X 10 12 [(0, rf X.2.2 0), (1, .int x1), (2, .int x2), (3, .int x3), (4, .int x4)] [] σ) (hk288 : ∀ (x1 : Int32) (x2 : Int32) (x3 : Int32) (x4 : Int32) (x5 : Int32) (x6 : Int32) (σ : SS), k288 x1 x2 x3 x4 x5 x6 σ = some res → G false X 10 288 [(0, rf X.2.2 0), (1, .int x1), (2, .int x2), (3, .int x3), (4, .int x4), (5, .int x5), (6, .int x6)] [] σ) : ∀ (x1 : Int32) (x2 : Int32) (x3 : Int32) (x4 : Int32) (x5 : Int32) (x6 : Int32) (t0 : Int32) (s0 : SS), fX6_canByThird_383 N k12 k288 x1 x2 x3 x4 x5 x6 t0 s0 = some res → G false X 10 383 [(0, rf X.2.2 0), (1, .int x1), (2, .int x2), (3, .int x3), (4, .int x4), (5, .int x5), (6, .int x6)] [.int t0, rf X.2.2 14] s0 := by
  intro x1 x2 x3 x4 x5 x6 t0 s0 h
  unfold fX6_canByThird_383 at h
  refine g_iconst F (v := 1) dX6_canByThird_383 (by decide) ?_
  refine g_goto F (tgt := 388) dX6_canByThird_384 (by decide) ?_
  exact wX6_canByThird_388 F R hk12 hk288 x1 x2 x3 x4 x5 x6 1 t0 s0 h
set_option maxRecDepth 20000 in
theorem wX6_canByThird_387 {X : Cx} (F : Fx false X cX6_canByThird RX6 10 4 95) {res : Int32 × SS} (R : RZ false X cX6_canByThird 10 res) {N : Nat} {k12 : Int32 → Int32 → Int32 → Int32 → SS → Option (Int32 × SS)} {k288 : Int32 → Int32 → Int32 → Int32 → Int32 → Int32 → SS → Option (Int32 × SS)} (hk12 : ∀ (x1 : Int32) (x2 : Int32) (x3 : Int32) (x4 : Int32) (σ : SS), k12 x1 x2 x3 x4 σ = some res → G false X 10 12 [(0, rf X.2.2 0), (1, .int x1), (2, .int x2), (3, .int x3), (4, .int x4)] [] σ) (hk288 : ∀ (x1 : Int32) (x2 : Int32) (x3 : Int32) (x4 : Int32) (x5 : Int32) (x6 : Int32) (σ : SS), k288 x1 x2 x3 x4 x5 x6 σ = some res → G false X 10 288 [(0, rf X.2.2 0), (1, .int x1), (2, .int x2), (3, .int x3), (4, .int x4), (5, .int x5), (6, .int x6)] [] σ) : ∀ (x1 : Int32) (x2 : Int32) (x3 : Int32) (x4 : Int32) (x5 : Int32) (x6 : Int32) (t0 : Int32) (s0 : SS), fX6_canByThird_387 N k12 k288 x1 x2 x3 x4 x5 x6 t0 s0 = some res → G false X 10 387 [(0, rf X.2.2 0), (1, .int x1), (2, .int x2), (3, .int x3), (4, .int x4), (5, .int x5), (6, .int x6)] [.int t0, rf X.2.2 14] s0 := by
  intro x1 x2 x3 x4 x5 x6 t0 s0 h
  unfold fX6_canByThird_387 at h
  refine g_iconst F (v := 0) dX6_canByThird_387 (by decide) ?_
  exact wX6_canByThird_388 F R hk12 hk288 x1 x2 x3 x4 x5 x6 0 t0 s0 h
set_option maxRecDepth 20000 in
theorem wX6_canByThird_458 {X : Cx} (F : Fx false X cX6_canByThird RX6 10 4 95) {res : Int32 × SS} (R : RZ false X cX6_canByThird 10 res) {N : Nat} {k12 : Int32 → Int32 → Int32 → Int32 → SS → Option (Int32 × SS)} (hk12 : ∀ (x1 : Int32) (x2 : Int32) (x3 : Int32) (x4 : Int32) (σ : SS), k12 x1 x2 x3 x4 σ = some res → G false X 10 12 [(0, rf X.2.2 0), (1, .int x1), (2, .int x2), (3, .int x3), (4, .int x4)] [] σ) : ∀ (x1 : Int32) (x2 : Int32) (x3 : Int32) (x4 : Int32) (s0 : SS), fX6_canByThird_458 N k12 x1 x2 x3 x4 s0 = some res → G false X 10 458 [(0, rf X.2.2 0), (1, .int x1), (2, .int x2), (3, .int x3), (4, .int x4)] [] s0 := by
  intro x1 x2 x3 x4 s0 h
  unfold fX6_canByThird_458 at h
  refine g_iinc F (j := 4) (v := x4 + (-1)) dX6_canByThird_458 rfl rfl (by decide) (lv' := [(0, rf X.2.2 0), (1, .int x1), (2, .int x2), (3, .int x3), (4, .int (x4 + (-1)))]) [1, 2, 3, 4, 0] rfl ?_
  refine g_goto F (tgt := 12) dX6_canByThird_461 (by decide) ?_
  exact hk12 x1 x2 x3 (x4 + (-1)) s0 h
set_option maxRecDepth 20000 in
theorem wX6_canByThird_457 {X : Cx} (F : Fx false X cX6_canByThird RX6 10 4 95) {res : Int32 × SS} (R : RZ false X cX6_canByThird 10 res) {N : Nat} {k12 : Int32 → Int32 → Int32 → Int32 → SS → Option (Int32 × SS)} (hk12 : ∀ (x1 : Int32) (x2 : Int32) (x3 : Int32) (x4 : Int32) (σ : SS), k12 x1 x2 x3 x4 σ = some res → G false X 10 12 [(0, rf X.2.2 0), (1, .int x1), (2, .int x2), (3, .int x3), (4, .int x4)] [] σ) : ∀ (x1 : Int32) (x2 : Int32) (x3 : Int32) (x4 : Int32) (t0 : Int32) (t1 : Int32) (s0 : SS), fX6_canByThird_457 N k12 x1 x2 x3 x4 t0 t1 s0 = some res → G false X 10 457 [(0, rf X.2.2 0), (1, .int x1), (2, .int x2), (3, .int x3), (4, .int x4)] [.int t0, .int t1, rf X.2.2 14] s0 := by
  intro x1 x2 x3 x4 t0 t1 s0 h
  unfold fX6_canByThird_457 at h
  refine g_zast F (k := 14) pm14 dX6_canByThird_457 h (fun s1 h => ?_)
  exact wX6_canByThird_458 F R hk12 x1 x2 x3 x4 s1 h
set_option maxRecDepth 20000 in
theorem wX6_canByThird_452 {X : Cx} (F : Fx false X cX6_canByThird RX6 10 4 95) {res : Int32 × SS} (R : RZ false X cX6_canByThird 10 res) {N : Nat} {k12 : Int32 → Int32 → Int32 → Int32 → SS → Option (Int32 × SS)} (hk12 : ∀ (x1 : Int32) (x2 : Int32) (x3 : Int32) (x4 : Int32) (σ : SS), k12 x1 x2 x3 x4 σ = some res → G false X 10 12 [(0, rf X.2.2 0), (1, .int x1), (2, .int x2), (3, .int x3), (4, .int x4)] [] σ) : ∀ (x1 : Int32) (x2 : Int32) (x3 : Int32) (x4 : Int32) (t0 : Int32) (s0 : SS), fX6_canByThird_452 N k12 x1 x2 x3 x4 t0 s0 = some res → G false X 10 452 [(0, rf X.2.2 0), (1, .int x1), (2, .int x2), (3, .int x3), (4, .int x4)] [.int t0, rf X.2.2 14] s0 := by
  intro x1 x2 x3 x4 t0 s0 h
  unfold fX6_canByThird_452 at h
  refine g_iconst F (v := 1) dX6_canByThird_452 (by decide) ?_
  refine g_goto F (tgt := 457) dX6_canByThird_453 (by decide) ?_
  exact wX6_canByThird_457 F R hk12 x1 x2 x3 x4 1 t0 s0 h
set_option maxRecDepth 20000 in
theorem wX6_canByThird_456 {X : Cx} (F : Fx false X cX6_canByThird RX6 10 4 95) {res : Int32 × SS} (R : RZ false X cX6_canByThird 10 res) {N : Nat} {k12 : Int32 → Int32 → Int32 → Int32 → SS → Option (Int32 × SS)} (hk12 : ∀ (x1 : Int32) (x2 : Int32) (x3 : Int32) (x4 : Int32) (σ : SS), k12 x1 x2 x3 x4 σ = some res → G false X 10 12 [(0, rf X.2.2 0), (1, .int x1), (2, .int x2), (3, .int x3), (4, .int x4)] [] σ) : ∀ (x1 : Int32) (x2 : Int32) (x3 : Int32) (x4 : Int32) (t0 : Int32) (s0 : SS), fX6_canByThird_456 N k12 x1 x2 x3 x4 t0 s0 = some res → G false X 10 456 [(0, rf X.2.2 0), (1, .int x1), (2, .int x2), (3, .int x3), (4, .int x4)] [.int t0, rf X.2.2 14] s0 := by
  intro x1 x2 x3 x4 t0 s0 h
  unfold fX6_canByThird_456 at h
  refine g_iconst F (v := 0) dX6_canByThird_456 (by decide) ?_
  exact wX6_canByThird_457 F R hk12 x1 x2 x3 x4 0 t0 s0 h
set_option maxRecDepth 20000 in
theorem wX6_canByThird_395 {X : Cx} (F : Fx false X cX6_canByThird RX6 10 4 95) {res : Int32 × SS} (R : RZ false X cX6_canByThird 10 res) {N : Nat} {k12 : Int32 → Int32 → Int32 → Int32 → SS → Option (Int32 × SS)} (hk12 : ∀ (x1 : Int32) (x2 : Int32) (x3 : Int32) (x4 : Int32) (σ : SS), k12 x1 x2 x3 x4 σ = some res → G false X 10 12 [(0, rf X.2.2 0), (1, .int x1), (2, .int x2), (3, .int x3), (4, .int x4)] [] σ) : ∀ (x1 : Int32) (x2 : Int32) (x3 : Int32) (x4 : Int32) (x5 : Int32) (s0 : SS), fX6_canByThird_395 N k12 x1 x2 x3 x4 x5 s0 = some res → G false X 10 395 [(0, rf X.2.2 0), (1, .int x1), (2, .int x2), (3, .int x3), (4, .int x4), (5, .int x5)] [] s0 := by
  intro x1 x2 x3 x4 x5 s0 h
  unfold fX6_canByThird_395 at h
  refine g_iload F (j := 5) dX6_canByThird_395 rfl ?_
  refine g_ifne F (tgt := 458) dX6_canByThird_397 (by decide) h (fun h => ?_) (fun h => ?_)
  · refine g_aload_n F (a := 0) (j := 0) dX6_canByThird_400 rfl rfl ?_
    refine g_iload F (j := 4) dX6_canByThird_401 rfl ?_
    refine g_iconst F (v := (-1)) dX6_canByThird_403 (by decide) ?_
    refine g_iconst F (v := (-1)) dX6_canByThird_404 (by decide) ?_
    refine g_vv F (k := 0) (As := [.int x4, .int (-1), .int (-1)]) (rest := []) (fun _ q => mX6_place N F.inj  q) mw_X6_place ml_X6_167 rfl ⟨Nat.le_of_ble_eq_true rfl, Nat.le_of_ble_eq_true rfl⟩ pm0 cl6 rfl (Nat.le_of_ble_eq_true rfl) dX6_canByThird_405 h (fun s1 h => ?_)
    refine g_aload_n F (a := 0) (j := 0) dX6_canByThird_408 rfl rfl ?_
    refine gt_X6_54 F (k := 0) pm0 dX6_canByThird_409 (v := rf X.2.2 14) rfl ?_
    refine g_iload F (j := 4) dX6_canByThird_412 rfl ?_
    refine g_aload_n F (a := 0) (j := 0) dX6_canByThird_414 rfl rfl ?_
    refine gt_X6_54 F (k := 0) pm0 dX6_canByThird_415 (v := rf X.2.2 14) rfl ?_
    refine g_iload F (j := 4) dX6_canByThird_418 rfl ?_
    refine g_zald F (k := 14) pm14 dX6_canByThird_420 h (fun h => ?_)
    refine g_ifne F (tgt := 452) dX6_canByThird_421 (by decide) h (fun h => ?_) (fun h => ?_)
    · refine g_aload_n F (a := 0) (j := 0) dX6_canByThird_424 rfl rfl ?_
      refine gt_X6_54 F (k := 0) pm0 dX6_canByThird_425 (v := rf X.2.2 14) rfl ?_
      refine g_sipush F (v := 256) dX6_canByThird_428 (by decide) ?_
      refine g_iload F (j := 4) dX6_canByThird_431 rfl ?_
      refine g_iadd F dX6_canByThird_433 ?_
      refine g_zald F (k := 14) pm14 dX6_canByThird_434 h (fun h => ?_)
      refine g_ifeq F (tgt := 456) dX6_canByThird_435 (by decide) h (fun h => ?_) (fun h => ?_)
      · refine g_sub (lv' := [(0, rf X.2.2 0), (1, .int x1), (2, .int x2), (3, .int x3), (4, .int x4)]) [0, 1, 2, 3, 4] rfl ?_
        exact wX6_canByThird_456 F R hk12 x1 x2 x3 x4 x4 s1 h
      · refine g_aload_n F (a := 0) (j := 0) dX6_canByThird_438 rfl rfl ?_
        refine g_aload_n F (a := 0) (j := 0) dX6_canByThird_439 rfl rfl ?_
        refine gt_X6_48 F (k := 0) pm0 dX6_canByThird_440 (v := rf X.2.2 12) rfl ?_
        refine g_iload_n F (j := 1) dX6_canByThird_443 rfl rfl ?_
        refine g_iald F (k := 12) pm12 dX6_canByThird_444 h (fun h => ?_)
        refine g_iload_n F (j := 2) dX6_canByThird_445 rfl rfl ?_
        refine g_vi F (k := 0) (As := [.int (s1 12 (Int32.toNatClampNeg x1)), .int x2]) (rest := [.int x4, rf X.2.2 14]) (fun _ q => mX6_comes N F.inj  q) mw_X6_comes ml_X6_171 rfl ⟨Nat.le_of_ble_eq_true rfl, Nat.le_of_ble_eq_true rfl⟩ pm0 cl6 rfl (Nat.le_of_ble_eq_true rfl) dX6_canByThird_446 h (fun v2 s2 h => ?_)
        refine g_ifeq F (tgt := 456) dX6_canByThird_449 (by decide) h (fun h => ?_) (fun h => ?_)
        · refine g_sub (lv' := [(0, rf X.2.2 0), (1, .int x1), (2, .int x2), (3, .int x3), (4, .int x4)]) [0, 1, 2, 3, 4] rfl ?_
          exact wX6_canByThird_456 F R hk12 x1 x2 x3 x4 x4 s2 h
        · refine g_sub (lv' := [(0, rf X.2.2 0), (1, .int x1), (2, .int x2), (3, .int x3), (4, .int x4)]) [0, 1, 2, 3, 4] rfl ?_
          exact wX6_canByThird_452 F R hk12 x1 x2 x3 x4 x4 s2 h
    · refine g_sub (lv' := [(0, rf X.2.2 0), (1, .int x1), (2, .int x2), (3, .int x3), (4, .int x4)]) [0, 1, 2, 3, 4] rfl ?_
      exact wX6_canByThird_452 F R hk12 x1 x2 x3 x4 x4 s1 h
  · refine g_sub (lv' := [(0, rf X.2.2 0), (1, .int x1), (2, .int x2), (3, .int x3), (4, .int x4)]) [0, 1, 2, 3, 4] rfl ?_
    exact wX6_canByThird_458 F R hk12 x1 x2 x3 x4 s0 h
set_option maxRecDepth 20000 in
theorem wX6_canByThird_288 {X : Cx} (F : Fx false X cX6_canByThird RX6 10 4 95) {res : Int32 × SS} (R : RZ false X cX6_canByThird 10 res) {N : Nat} {k12 : Int32 → Int32 → Int32 → Int32 → SS → Option (Int32 × SS)} {k288 : Int32 → Int32 → Int32 → Int32 → Int32 → Int32 → SS → Option (Int32 × SS)} (hk12 : ∀ (x1 : Int32) (x2 : Int32) (x3 : Int32) (x4 : Int32) (σ : SS), k12 x1 x2 x3 x4 σ = some res → G false X 10 12 [(0, rf X.2.2 0), (1, .int x1), (2, .int x2), (3, .int x3), (4, .int x4)] [] σ) (hk288 : ∀ (x1 : Int32) (x2 : Int32) (x3 : Int32) (x4 : Int32) (x5 : Int32) (x6 : Int32) (σ : SS), k288 x1 x2 x3 x4 x5 x6 σ = some res → G false X 10 288 [(0, rf X.2.2 0), (1, .int x1), (2, .int x2), (3, .int x3), (4, .int x4), (5, .int x5), (6, .int x6)] [] σ) : ∀ (x1 : Int32) (x2 : Int32) (x3 : Int32) (x4 : Int32) (x5 : Int32) (x6 : Int32) (s0 : SS), fX6_canByThird_288 N k12 k288 x1 x2 x3 x4 x5 x6 s0 = some res → G false X 10 288 [(0, rf X.2.2 0), (1, .int x1), (2, .int x2), (3, .int x3), (4, .int x4), (5, .int x5), (6, .int x6)] [] s0 := by
  intro x1 x2 x3 x4 x5 x6 s0 h
  unfold fX6_canByThird_288 at h
  refine g_iload F (j := 6) dX6_canByThird_288 rfl ?_
  refine g_aload_n F (a := 0) (j := 0) dX6_canByThird_290 rfl rfl ?_
  refine gt_X6_164 F (k := 0) pm0 dX6_canByThird_291 (v := .int (s0 0 23)) rfl ?_
  refine g_icmp_ge F (tgt := 395) dX6_canByThird_294 (by decide) h (fun h => ?_) (fun h => ?_)
  · refine g_sub (lv' := [(0, rf X.2.2 0), (1, .int x1), (2, .int x2), (3, .int x3), (4, .int x4), (5, .int x5)]) [0, 1, 2, 3, 4, 5] rfl ?_
    exact wX6_canByThird_395 F R hk12 x1 x2 x3 x4 x5 s0 h
  · refine g_iload F (j := 5) dX6_canByThird_297 rfl ?_
    refine g_ifne F (tgt := 395) dX6_canByThird_299 (by decide) h (fun h => ?_) (fun h => ?_)
    · refine g_iload F (j := 4) dX6_canByThird_302 rfl ?_
      refine g_iload F (j := 6) dX6_canByThird_304 rfl ?_
      refine g_ishr F dX6_canByThird_306 ?_
      refine g_iconst F (v := 1) dX6_canByThird_307 (by decide) ?_
      refine g_iand F dX6_canByThird_308 ?_
      refine g_ifne F (tgt := 389) dX6_canByThird_309 (by decide) h (fun h => ?_) (fun h => ?_)
      · refine g_iload F (j := 6) dX6_canByThird_312 rfl ?_
        refine g_iload_n F (j := 1) dX6_canByThird_314 rfl rfl ?_
        refine g_icmp_eq F (tgt := 389) dX6_canByThird_315 (by decide) h (fun h => ?_) (fun h => ?_)
        · exact wX6_canByThird_389 F R hk12 hk288 x1 x2 x3 x4 x5 x6 s0 h
        · refine g_aload_n F (a := 0) (j := 0) dX6_canByThird_318 rfl rfl ?_
          refine g_iload F (j := 4) dX6_canByThird_319 rfl ?_
          refine g_iconst F (v := (-1)) dX6_canByThird_321 (by decide) ?_
          refine g_iconst F (v := (-1)) dX6_canByThird_322 (by decide) ?_
          refine g_vv F (k := 0) (As := [.int x4, .int (-1), .int (-1)]) (rest := []) (fun _ q => mX6_place N F.inj  q) mw_X6_place ml_X6_167 rfl ⟨Nat.le_of_ble_eq_true rfl, Nat.le_of_ble_eq_true rfl⟩ pm0 cl6 rfl (Nat.le_of_ble_eq_true rfl) dX6_canByThird_323 h (fun s1 h => ?_)
          refine g_aload_n F (a := 0) (j := 0) dX6_canByThird_326 rfl rfl ?_
          refine gt_X6_54 F (k := 0) pm0 dX6_canByThird_327 (v := rf X.2.2 14) rfl ?_
          refine g_iload F (j := 4) dX6_canByThird_330 rfl ?_
          refine g_aload_n F (a := 0) (j := 0) dX6_canByThird_332 rfl rfl ?_
          refine gt_X6_54 F (k := 0) pm0 dX6_canByThird_333 (v := rf X.2.2 14) rfl ?_
          refine g_iload F (j := 4) dX6_canByThird_336 rfl ?_
          refine g_zald F (k := 14) pm14 dX6_canByThird_338 h (fun h => ?_)
          refine g_ifne F (tgt := 383) dX6_canByThird_339 (by decide) h (fun h => ?_) (fun h => ?_)
          · refine g_aload_n F (a := 0) (j := 0) dX6_canByThird_342 rfl rfl ?_
            refine gt_X6_54 F (k := 0) pm0 dX6_canByThird_343 (v := rf X.2.2 14) rfl ?_
            refine g_iload F (j := 4) dX6_canByThird_346 rfl ?_
            refine g_iconst F (v := 1) dX6_canByThird_348 (by decide) ?_
            refine g_iload F (j := 6) dX6_canByThird_349 rfl ?_
            refine g_ishl F dX6_canByThird_351 ?_
            refine g_ior F dX6_canByThird_352 ?_
            refine g_zald F (k := 14) pm14 dX6_canByThird_353 h (fun h => ?_)
            refine g_ifeq F (tgt := 387) dX6_canByThird_354 (by decide) h (fun h => ?_) (fun h => ?_)
            · exact wX6_canByThird_387 F R hk12 hk288 x1 x2 x3 x4 x5 x6 x4 s1 h
            · refine g_aload_n F (a := 0) (j := 0) dX6_canByThird_357 rfl rfl ?_
              refine g_aload_n F (a := 0) (j := 0) dX6_canByThird_358 rfl rfl ?_
              refine gt_X6_48 F (k := 0) pm0 dX6_canByThird_359 (v := rf X.2.2 12) rfl ?_
              refine g_iload F (j := 6) dX6_canByThird_362 rfl ?_
              refine g_iald F (k := 12) pm12 dX6_canByThird_364 h (fun h => ?_)
              refine g_aload_n F (a := 0) (j := 0) dX6_canByThird_365 rfl rfl ?_
              refine gt_X6_45 F (k := 0) pm0 dX6_canByThird_366 (v := rf X.2.2 11) rfl ?_
              refine g_aload_n F (a := 0) (j := 0) dX6_canByThird_369 rfl rfl ?_
              refine gt_X6_48 F (k := 0) pm0 dX6_canByThird_370 (v := rf X.2.2 12) rfl ?_
              refine g_iload F (j := 6) dX6_canByThird_373 rfl ?_
              refine g_iald F (k := 12) pm12 dX6_canByThird_375 h (fun h => ?_)
              refine g_iald F (k := 11) pm11 dX6_canByThird_376 h (fun h => ?_)
              refine g_vi F (k := 0) (As := [.int (s1 12 (Int32.toNatClampNeg x6)), .int (s1 11 (Int32.toNatClampNeg (s1 12 (Int32.toNatClampNeg x6))))]) (rest := [.int x4, rf X.2.2 14]) (fun _ q => mX6_comes N F.inj  q) mw_X6_comes ml_X6_171 rfl ⟨Nat.le_of_ble_eq_true rfl, Nat.le_of_ble_eq_true rfl⟩ pm0 cl6 rfl (Nat.le_of_ble_eq_true rfl) dX6_canByThird_377 h (fun v2 s2 h => ?_)
              refine g_ifeq F (tgt := 387) dX6_canByThird_380 (by decide) h (fun h => ?_) (fun h => ?_)
              · exact wX6_canByThird_387 F R hk12 hk288 x1 x2 x3 x4 x5 x6 x4 s2 h
              · exact wX6_canByThird_383 F R hk12 hk288 x1 x2 x3 x4 x5 x6 x4 s2 h
          · exact wX6_canByThird_383 F R hk12 hk288 x1 x2 x3 x4 x5 x6 x4 s1 h
      · exact wX6_canByThird_389 F R hk12 hk288 x1 x2 x3 x4 x5 x6 s0 h
    · refine g_sub (lv' := [(0, rf X.2.2 0), (1, .int x1), (2, .int x2), (3, .int x3), (4, .int x4), (5, .int x5)]) [0, 1, 2, 3, 4, 5] rfl ?_
      exact wX6_canByThird_395 F R hk12 x1 x2 x3 x4 x5 s0 h
theorem wX6_canByThird_288_lp {X : Cx} (F : Fx false X cX6_canByThird RX6 10 4 95) {res : Int32 × SS} (R : RZ false X cX6_canByThird 10 res) {N : Nat} {k12 : Int32 → Int32 → Int32 → Int32 → SS → Option (Int32 × SS)} (hk12 : ∀ (x1 : Int32) (x2 : Int32) (x3 : Int32) (x4 : Int32) (σ : SS), k12 x1 x2 x3 x4 σ = some res → G false X 10 12 [(0, rf X.2.2 0), (1, .int x1), (2, .int x2), (3, .int x3), (4, .int x4)] [] σ) : ∀ (n : Nat) (x1 : Int32) (x2 : Int32) (x3 : Int32) (x4 : Int32) (x5 : Int32) (x6 : Int32) (s0 : SS), lp (fX6_canByThird_288 N k12) (fun _ _ _ _ _ _ _ => none) n x1 x2 x3 x4 x5 x6 s0 = some res → G false X 10 288 [(0, rf X.2.2 0), (1, .int x1), (2, .int x2), (3, .int x3), (4, .int x4), (5, .int x5), (6, .int x6)] [] s0 := by
  intro n
  induction n with
  | zero => intro x1 x2 x3 x4 x5 x6 s0 h; cases (show (none : Option (Int32 × SS)) = some res from h)
  | succ n ih => intro x1 x2 x3 x4 x5 x6 s0 h; exact wX6_canByThird_288 F R hk12 ih x1 x2 x3 x4 x5 x6 s0 h
set_option maxRecDepth 20000 in
theorem wX6_canByThird_67 {X : Cx} (F : Fx false X cX6_canByThird RX6 10 4 95) {res : Int32 × SS} (R : RZ false X cX6_canByThird 10 res) {N : Nat} {k12 : Int32 → Int32 → Int32 → Int32 → SS → Option (Int32 × SS)} {k67 : Int32 → Int32 → Int32 → Int32 → Int32 → Int32 → SS → Option (Int32 × SS)} (hk12 : ∀ (x1 : Int32) (x2 : Int32) (x3 : Int32) (x4 : Int32) (σ : SS), k12 x1 x2 x3 x4 σ = some res → G false X 10 12 [(0, rf X.2.2 0), (1, .int x1), (2, .int x2), (3, .int x3), (4, .int x4)] [] σ) (hk67 : ∀ (x1 : Int32) (x2 : Int32) (x3 : Int32) (x4 : Int32) (x5 : Int32) (x6 : Int32) (σ : SS), k67 x1 x2 x3 x4 x5 x6 σ = some res → G false X 10 67 [(0, rf X.2.2 0), (1, .int x1), (2, .int x2), (3, .int x3), (4, .int x4), (5, .int x5), (6, .int x6)] [] σ) : ∀ (x1 : Int32) (x2 : Int32) (x3 : Int32) (x4 : Int32) (x5 : Int32) (x6 : Int32) (s0 : SS), fX6_canByThird_67 N k12 k67 x1 x2 x3 x4 x5 x6 s0 = some res → G false X 10 67 [(0, rf X.2.2 0), (1, .int x1), (2, .int x2), (3, .int x3), (4, .int x4), (5, .int x5), (6, .int x6)] [] s0 := by
  intro x1 x2 x3 x4 x5 x6 s0 h
  unfold fX6_canByThird_67 at h
  refine g_iload F (j := 6) dX6_canByThird_67 rfl ?_
  refine g_aload_n F (a := 0) (j := 0) dX6_canByThird_69 rfl rfl ?_
  refine gt_X6_164 F (k := 0) pm0 dX6_canByThird_70 (v := .int (s0 0 23)) rfl ?_
  refine g_icmp_ge F (tgt := 285) dX6_canByThird_73 (by decide) h (fun h => ?_) (fun h => ?_)
  · refine g_iconst F (v := 0) dX6_canByThird_285 (by decide) ?_
    refine g_istore F dX6_canByThird_286 (by decide) (lv' := [(0, rf X.2.2 0), (1, .int x1), (2, .int x2), (3, .int x3), (4, .int x4), (5, .int x5), (6, .int 0)]) [1, 2, 3, 4, 5, 6, 0] rfl ?_
    exact wX6_canByThird_288_lp F R hk12 N x1 x2 x3 x4 x5 0 s0 h
  · refine g_iload F (j := 4) dX6_canByThird_76 rfl ?_
    refine g_iload F (j := 6) dX6_canByThird_78 rfl ?_
    refine g_ishr F dX6_canByThird_80 ?_
    refine g_iconst F (v := 1) dX6_canByThird_81 (by decide) ?_
    refine g_iand F dX6_canByThird_82 ?_
    refine g_ifne F (tgt := 279) dX6_canByThird_83 (by decide) h (fun h => ?_) (fun h => ?_)
    · refine g_aload_n F (a := 0) (j := 0) dX6_canByThird_86 rfl rfl ?_
      refine gt_X6_54 F (k := 0) pm0 dX6_canByThird_87 (v := rf X.2.2 14) rfl ?_
      refine g_iload F (j := 4) dX6_canByThird_90 rfl ?_
      refine g_iconst F (v := 1) dX6_canByThird_92 (by decide) ?_
      refine g_iload F (j := 6) dX6_canByThird_93 rfl ?_
      refine g_ishl F dX6_canByThird_95 ?_
      refine g_ior F dX6_canByThird_96 ?_
      refine g_zald F (k := 14) pm14 dX6_canByThird_97 h (fun h => ?_)
      refine g_istore F dX6_canByThird_98 (by decide) (lv' := [(0, rf X.2.2 0), (1, .int x1), (2, .int x2), (3, .int x3), (4, .int x4), (5, .int x5), (6, .int x6), (7, .int (s0 14 (Int32.toNatClampNeg (x4 ||| ((1 : Int32) <<< (x6 &&& (31 : Int32)))))))]) [1, 2, 3, 4, 5, 6, 7, 0] rfl ?_
      refine g_aload_n F (a := 0) (j := 0) dX6_canByThird_100 rfl rfl ?_
      refine gt_X6_54 F (k := 0) pm0 dX6_canByThird_101 (v := rf X.2.2 14) rfl ?_
      refine g_sipush F (v := 256) dX6_canByThird_104 (by decide) ?_
      refine g_iload F (j := 4) dX6_canByThird_107 rfl ?_
      refine g_iconst F (v := 1) dX6_canByThird_109 (by decide) ?_
      refine g_iload F (j := 6) dX6_canByThird_110 rfl ?_
      refine g_ishl F dX6_canByThird_112 ?_
      refine g_ior F dX6_canByThird_113 ?_
      refine g_iadd F dX6_canByThird_114 ?_
      refine g_zald F (k := 14) pm14 dX6_canByThird_115 h (fun h => ?_)
      refine g_istore F dX6_canByThird_116 (by decide) (lv' := [(0, rf X.2.2 0), (1, .int x1), (2, .int x2), (3, .int x3), (4, .int x4), (5, .int x5), (6, .int x6), (7, .int (s0 14 (Int32.toNatClampNeg (x4 ||| ((1 : Int32) <<< (x6 &&& (31 : Int32))))))), (8, .int (s0 14 (Int32.toNatClampNeg (256 + (x4 ||| ((1 : Int32) <<< (x6 &&& (31 : Int32))))))))]) [1, 2, 3, 4, 5, 6, 7, 8, 0] rfl ?_
      refine g_iload F (j := 5) dX6_canByThird_118 rfl ?_
      refine g_ifeq F (tgt := 187) dX6_canByThird_120 (by decide) h (fun h => ?_) (fun h => ?_)
      · refine g_aload_n F (a := 0) (j := 0) dX6_canByThird_187 rfl rfl ?_
        refine g_iload F (j := 4) dX6_canByThird_188 rfl ?_
        refine g_aload_n F (a := 0) (j := 0) dX6_canByThird_190 rfl rfl ?_
        refine gt_X6_48 F (k := 0) pm0 dX6_canByThird_191 (v := rf X.2.2 12) rfl ?_
        refine g_iload_n F (j := 1) dX6_canByThird_194 rfl rfl ?_
        refine g_iald F (k := 12) pm12 dX6_canByThird_195 h (fun h => ?_)
        refine g_iload_n F (j := 2) dX6_canByThird_196 rfl rfl ?_
        refine g_vv F (k := 0) (As := [.int x4, .int (s0 12 (Int32.toNatClampNeg x1)), .int x2]) (rest := []) (fun _ q => mX6_place N F.inj  q) mw_X6_place ml_X6_167 rfl ⟨Nat.le_of_ble_eq_true rfl, Nat.le_of_ble_eq_true rfl⟩ pm0 cl6 rfl (Nat.le_of_ble_eq_true rfl) dX6_canByThird_197 h (fun s1 h => ?_)
        refine g_aload_n F (a := 0) (j := 0) dX6_canByThird_200 rfl rfl ?_
        refine g_aload_n F (a := 0) (j := 0) dX6_canByThird_201 rfl rfl ?_
        refine gt_X6_48 F (k := 0) pm0 dX6_canByThird_202 (v := rf X.2.2 12) rfl ?_
        refine g_iload F (j := 6) dX6_canByThird_205 rfl ?_
        refine g_iald F (k := 12) pm12 dX6_canByThird_207 h (fun h => ?_)
        refine g_aload_n F (a := 0) (j := 0) dX6_canByThird_208 rfl rfl ?_
        refine gt_X6_45 F (k := 0) pm0 dX6_canByThird_209 (v := rf X.2.2 11) rfl ?_
        refine g_aload_n F (a := 0) (j := 0) dX6_canByThird_212 rfl rfl ?_
        refine gt_X6_48 F (k := 0) pm0 dX6_canByThird_213 (v := rf X.2.2 12) rfl ?_
        refine g_iload F (j := 6) dX6_canByThird_216 rfl ?_
        refine g_iald F (k := 12) pm12 dX6_canByThird_218 h (fun h => ?_)
        refine g_iald F (k := 11) pm11 dX6_canByThird_219 h (fun h => ?_)
        refine g_vi F (k := 0) (As := [.int (s1 12 (Int32.toNatClampNeg x6)), .int (s1 11 (Int32.toNatClampNeg (s1 12 (Int32.toNatClampNeg x6))))]) (rest := []) (fun _ q => mX6_comes N F.inj  q) mw_X6_comes ml_X6_171 rfl ⟨Nat.le_of_ble_eq_true rfl, Nat.le_of_ble_eq_true rfl⟩ pm0 cl6 rfl (Nat.le_of_ble_eq_true rfl) dX6_canByThird_220 h (fun v2 s2 h => ?_)
        refine g_istore F dX6_canByThird_223 (by decide) (lv' := [(0, rf X.2.2 0), (1, .int x1), (2, .int x2), (3, .int x3), (4, .int x4), (5, .int x5), (6, .int x6), (7, .int (s0 14 (Int32.toNatClampNeg (x4 ||| ((1 : Int32) <<< (x6 &&& (31 : Int32))))))), (8, .int (s0 14 (Int32.toNatClampNeg (256 + (x4 ||| ((1 : Int32) <<< (x6 &&& (31 : Int32)))))))), (9, .int v2)]) [1, 2, 3, 4, 5, 6, 7, 8, 9, 0] rfl ?_
        refine g_aload_n F (a := 0) (j := 0) dX6_canByThird_225 rfl rfl ?_
        refine gt_X6_54 F (k := 0) pm0 dX6_canByThird_226 (v := rf X.2.2 14) rfl ?_
        refine g_sipush F (v := 256) dX6_canByThird_229 (by decide) ?_
        refine g_iload F (j := 4) dX6_canByThird_232 rfl ?_
        refine g_iadd F dX6_canByThird_234 ?_
        refine g_aload_n F (a := 0) (j := 0) dX6_canByThird_235 rfl rfl ?_
        refine gt_X6_54 F (k := 0) pm0 dX6_canByThird_236 (v := rf X.2.2 14) rfl ?_
        refine g_sipush F (v := 256) dX6_canByThird_239 (by decide) ?_
        refine g_iload F (j := 4) dX6_canByThird_242 rfl ?_
        refine g_iadd F dX6_canByThird_244 ?_
        refine g_zald F (k := 14) pm14 dX6_canByThird_245 h (fun h => ?_)
        refine g_ifne F (tgt := 273) dX6_canByThird_246 (by decide) h (fun h => ?_) (fun h => ?_)
        · refine g_iload F (j := 9) dX6_canByThird_249 rfl ?_
          refine g_ifeq F (tgt := 277) dX6_canByThird_251 (by decide) h (fun h => ?_) (fun h => ?_)
          · refine g_sub (lv' := [(0, rf X.2.2 0), (1, .int x1), (2, .int x2), (3, .int x3), (4, .int x4), (5, .int x5), (6, .int x6)]) [0, 1, 2, 3, 4, 5, 6] rfl ?_
            exact wX6_canByThird_277 F R hk12 hk67 x1 x2 x3 x4 x5 x6 (256 + x4) s2 h
          · refine g_iload F (j := 6) dX6_canByThird_254 rfl ?_
            refine g_iload_n F (j := 1) dX6_canByThird_256 rfl rfl ?_
            refine g_icmp_ne F (tgt := 268) dX6_canByThird_257 (by decide) h (fun h => ?_) (fun h => ?_)
            · refine g_iload F (j := 7) dX6_canByThird_260 rfl ?_
              refine g_ifeq F (tgt := 277) dX6_canByThird_262 (by decide) h (fun h => ?_) (fun h => ?_)
              · refine g_sub (lv' := [(0, rf X.2.2 0), (1, .int x1), (2, .int x2), (3, .int x3), (4, .int x4), (5, .int x5), (6, .int x6)]) [0, 1, 2, 3, 4, 5, 6] rfl ?_
                exact wX6_canByThird_277 F R hk12 hk67 x1 x2 x3 x4 x5 x6 (256 + x4) s2 h
              · refine g_goto F (tgt := 273) dX6_canByThird_265 (by decide) ?_
                refine g_sub (lv' := [(0, rf X.2.2 0), (1, .int x1), (2, .int x2), (3, .int x3), (4, .int x4), (5, .int x5), (6, .int x6)]) [0, 1, 2, 3, 4, 5, 6] rfl ?_
                exact wX6_canByThird_273 F R hk12 hk67 x1 x2 x3 x4 x5 x6 (256 + x4) s2 h
            · refine g_iload F (j := 8) dX6_canByThird_268 rfl ?_
              refine g_ifeq F (tgt := 277) dX6_canByThird_270 (by decide) h (fun h => ?_) (fun h => ?_)
              · refine g_sub (lv' := [(0, rf X.2.2 0), (1, .int x1), (2, .int x2), (3, .int x3), (4, .int x4), (5, .int x5), (6, .int x6)]) [0, 1, 2, 3, 4, 5, 6] rfl ?_
                exact wX6_canByThird_277 F R hk12 hk67 x1 x2 x3 x4 x5 x6 (256 + x4) s2 h
              · refine g_sub (lv' := [(0, rf X.2.2 0), (1, .int x1), (2, .int x2), (3, .int x3), (4, .int x4), (5, .int x5), (6, .int x6)]) [0, 1, 2, 3, 4, 5, 6] rfl ?_
                exact wX6_canByThird_273 F R hk12 hk67 x1 x2 x3 x4 x5 x6 (256 + x4) s2 h
        · refine g_sub (lv' := [(0, rf X.2.2 0), (1, .int x1), (2, .int x2), (3, .int x3), (4, .int x4), (5, .int x5), (6, .int x6)]) [0, 1, 2, 3, 4, 5, 6] rfl ?_
          exact wX6_canByThird_273 F R hk12 hk67 x1 x2 x3 x4 x5 x6 (256 + x4) s2 h
      · refine g_aload_n F (a := 0) (j := 0) dX6_canByThird_123 rfl rfl ?_
        refine g_iload F (j := 4) dX6_canByThird_124 rfl ?_
        refine g_iconst F (v := (-1)) dX6_canByThird_126 (by decide) ?_
        refine g_iconst F (v := (-1)) dX6_canByThird_127 (by decide) ?_
        refine g_vv F (k := 0) (As := [.int x4, .int (-1), .int (-1)]) (rest := []) (fun _ q => mX6_place N F.inj  q) mw_X6_place ml_X6_167 rfl ⟨Nat.le_of_ble_eq_true rfl, Nat.le_of_ble_eq_true rfl⟩ pm0 cl6 rfl (Nat.le_of_ble_eq_true rfl) dX6_canByThird_128 h (fun s3 h => ?_)
        refine g_aload_n F (a := 0) (j := 0) dX6_canByThird_131 rfl rfl ?_
        refine gt_X6_54 F (k := 0) pm0 dX6_canByThird_132 (v := rf X.2.2 14) rfl ?_
        refine g_iload F (j := 4) dX6_canByThird_135 rfl ?_
        refine g_aload_n F (a := 0) (j := 0) dX6_canByThird_137 rfl rfl ?_
        refine gt_X6_54 F (k := 0) pm0 dX6_canByThird_138 (v := rf X.2.2 14) rfl ?_
        refine g_iload F (j := 4) dX6_canByThird_141 rfl ?_
        refine g_zald F (k := 14) pm14 dX6_canByThird_143 h (fun h => ?_)
        refine g_ifne F (tgt := 178) dX6_canByThird_144 (by decide) h (fun h => ?_) (fun h => ?_)
        · refine g_iload F (j := 7) dX6_canByThird_147 rfl ?_
          refine g_ifeq F (tgt := 182) dX6_canByThird_149 (by decide) h (fun h => ?_) (fun h => ?_)
          · refine g_sub (lv' := [(0, rf X.2.2 0), (1, .int x1), (2, .int x2), (3, .int x3), (4, .int x4), (5, .int x5), (6, .int x6)]) [0, 1, 2, 3, 4, 5, 6] rfl ?_
            exact wX6_canByThird_182 F R hk12 hk67 x1 x2 x3 x4 x5 x6 x4 s3 h
          · refine g_aload_n F (a := 0) (j := 0) dX6_canByThird_152 rfl rfl ?_
            refine g_aload_n F (a := 0) (j := 0) dX6_canByThird_153 rfl rfl ?_
            refine gt_X6_48 F (k := 0) pm0 dX6_canByThird_154 (v := rf X.2.2 12) rfl ?_
            refine g_iload F (j := 6) dX6_canByThird_157 rfl ?_
            refine g_iald F (k := 12) pm12 dX6_canByThird_159 h (fun h => ?_)
            refine g_aload_n F (a := 0) (j := 0) dX6_canByThird_160 rfl rfl ?_
            refine gt_X6_45 F (k := 0) pm0 dX6_canByThird_161 (v := rf X.2.2 11) rfl ?_
            refine g_aload_n F (a := 0) (j := 0) dX6_canByThird_164 rfl rfl ?_
            refine gt_X6_48 F (k := 0) pm0 dX6_canByThird_165 (v := rf X.2.2 12) rfl ?_
            refine g_iload F (j := 6) dX6_canByThird_168 rfl ?_
            refine g_iald F (k := 12) pm12 dX6_canByThird_170 h (fun h => ?_)
            refine g_iald F (k := 11) pm11 dX6_canByThird_171 h (fun h => ?_)
            refine g_vi F (k := 0) (As := [.int (s3 12 (Int32.toNatClampNeg x6)), .int (s3 11 (Int32.toNatClampNeg (s3 12 (Int32.toNatClampNeg x6))))]) (rest := [.int x4, rf X.2.2 14]) (fun _ q => mX6_comes N F.inj  q) mw_X6_comes ml_X6_171 rfl ⟨Nat.le_of_ble_eq_true rfl, Nat.le_of_ble_eq_true rfl⟩ pm0 cl6 rfl (Nat.le_of_ble_eq_true rfl) dX6_canByThird_172 h (fun v4 s4 h => ?_)
            refine g_ifeq F (tgt := 182) dX6_canByThird_175 (by decide) h (fun h => ?_) (fun h => ?_)
            · refine g_sub (lv' := [(0, rf X.2.2 0), (1, .int x1), (2, .int x2), (3, .int x3), (4, .int x4), (5, .int x5), (6, .int x6)]) [0, 1, 2, 3, 4, 5, 6] rfl ?_
              exact wX6_canByThird_182 F R hk12 hk67 x1 x2 x3 x4 x5 x6 x4 s4 h
            · refine g_sub (lv' := [(0, rf X.2.2 0), (1, .int x1), (2, .int x2), (3, .int x3), (4, .int x4), (5, .int x5), (6, .int x6)]) [0, 1, 2, 3, 4, 5, 6] rfl ?_
              exact wX6_canByThird_178 F R hk12 hk67 x1 x2 x3 x4 x5 x6 x4 s4 h
        · refine g_sub (lv' := [(0, rf X.2.2 0), (1, .int x1), (2, .int x2), (3, .int x3), (4, .int x4), (5, .int x5), (6, .int x6)]) [0, 1, 2, 3, 4, 5, 6] rfl ?_
          exact wX6_canByThird_178 F R hk12 hk67 x1 x2 x3 x4 x5 x6 x4 s3 h
    · exact wX6_canByThird_279 F R hk12 hk67 x1 x2 x3 x4 x5 x6 s0 h
theorem wX6_canByThird_67_lp {X : Cx} (F : Fx false X cX6_canByThird RX6 10 4 95) {res : Int32 × SS} (R : RZ false X cX6_canByThird 10 res) {N : Nat} {k12 : Int32 → Int32 → Int32 → Int32 → SS → Option (Int32 × SS)} (hk12 : ∀ (x1 : Int32) (x2 : Int32) (x3 : Int32) (x4 : Int32) (σ : SS), k12 x1 x2 x3 x4 σ = some res → G false X 10 12 [(0, rf X.2.2 0), (1, .int x1), (2, .int x2), (3, .int x3), (4, .int x4)] [] σ) : ∀ (n : Nat) (x1 : Int32) (x2 : Int32) (x3 : Int32) (x4 : Int32) (x5 : Int32) (x6 : Int32) (s0 : SS), lp (fX6_canByThird_67 N k12) (fun _ _ _ _ _ _ _ => none) n x1 x2 x3 x4 x5 x6 s0 = some res → G false X 10 67 [(0, rf X.2.2 0), (1, .int x1), (2, .int x2), (3, .int x3), (4, .int x4), (5, .int x5), (6, .int x6)] [] s0 := by
  intro n
  induction n with
  | zero => intro x1 x2 x3 x4 x5 x6 s0 h; cases (show (none : Option (Int32 × SS)) = some res from h)
  | succ n ih => intro x1 x2 x3 x4 x5 x6 s0 h; exact wX6_canByThird_67 F R hk12 ih x1 x2 x3 x4 x5 x6 s0 h
set_option maxRecDepth 20000 in
theorem wX6_canByThird_51 {X : Cx} (F : Fx false X cX6_canByThird RX6 10 4 95) {res : Int32 × SS} (R : RZ false X cX6_canByThird 10 res) {N : Nat} {k12 : Int32 → Int32 → Int32 → Int32 → SS → Option (Int32 × SS)} (hk12 : ∀ (x1 : Int32) (x2 : Int32) (x3 : Int32) (x4 : Int32) (σ : SS), k12 x1 x2 x3 x4 σ = some res → G false X 10 12 [(0, rf X.2.2 0), (1, .int x1), (2, .int x2), (3, .int x3), (4, .int x4)] [] σ) : ∀ (x1 : Int32) (x2 : Int32) (x3 : Int32) (x4 : Int32) (x5 : Int32) (t0 : Int32) (t1 : Int32) (s0 : SS), fX6_canByThird_51 N k12 x1 x2 x3 x4 x5 t0 t1 s0 = some res → G false X 10 51 [(0, rf X.2.2 0), (1, .int x1), (2, .int x2), (3, .int x3), (4, .int x4), (5, .int x5)] [.int t0, .int t1, rf X.2.2 14] s0 := by
  intro x1 x2 x3 x4 x5 t0 t1 s0 h
  unfold fX6_canByThird_51 at h
  refine g_zast F (k := 14) pm14 dX6_canByThird_51 h (fun s1 h => ?_)
  refine g_aload_n F (a := 0) (j := 0) dX6_canByThird_52 rfl rfl ?_
  refine gt_X6_54 F (k := 0) pm0 dX6_canByThird_53 (v := rf X.2.2 14) rfl ?_
  refine g_sipush F (v := 256) dX6_canByThird_56 (by decide) ?_
  refine g_iload F (j := 4) dX6_canByThird_59 rfl ?_
  refine g_iadd F dX6_canByThird_61 ?_
  refine g_iconst F (v := 0) dX6_canByThird_62 (by decide) ?_
  refine g_zast F (k := 14) pm14 dX6_canByThird_63 h (fun s2 h => ?_)
  refine g_iconst F (v := 0) dX6_canByThird_64 (by decide) ?_
  refine g_istore F dX6_canByThird_65 (by decide) (lv' := [(0, rf X.2.2 0), (1, .int x1), (2, .int x2), (3, .int x3), (4, .int x4), (5, .int x5), (6, .int 0)]) [1, 2, 3, 4, 5, 6, 0] rfl ?_
  exact wX6_canByThird_67_lp F R hk12 N x1 x2 x3 x4 x5 0 s2 h
set_option maxRecDepth 20000 in
theorem wX6_canByThird_32 {X : Cx} (F : Fx false X cX6_canByThird RX6 10 4 95) {res : Int32 × SS} (R : RZ false X cX6_canByThird 10 res) {N : Nat} {k12 : Int32 → Int32 → Int32 → Int32 → SS → Option (Int32 × SS)} (hk12 : ∀ (x1 : Int32) (x2 : Int32) (x3 : Int32) (x4 : Int32) (σ : SS), k12 x1 x2 x3 x4 σ = some res → G false X 10 12 [(0, rf X.2.2 0), (1, .int x1), (2, .int x2), (3, .int x3), (4, .int x4)] [] σ) : ∀ (x1 : Int32) (x2 : Int32) (x3 : Int32) (x4 : Int32) (t0 : Int32) (s0 : SS), fX6_canByThird_32 N k12 x1 x2 x3 x4 t0 s0 = some res → G false X 10 32 [(0, rf X.2.2 0), (1, .int x1), (2, .int x2), (3, .int x3), (4, .int x4)] [.int t0] s0 := by
  intro x1 x2 x3 x4 t0 s0 h
  unfold fX6_canByThird_32 at h
  refine g_istore F dX6_canByThird_32 (by decide) (lv' := [(0, rf X.2.2 0), (1, .int x1), (2, .int x2), (3, .int x3), (4, .int x4), (5, .int t0)]) [1, 2, 3, 4, 5, 0] rfl ?_
  refine g_aload_n F (a := 0) (j := 0) dX6_canByThird_34 rfl rfl ?_
  refine gt_X6_54 F (k := 0) pm0 dX6_canByThird_35 (v := rf X.2.2 14) rfl ?_
  refine g_iload F (j := 4) dX6_canByThird_38 rfl ?_
  refine g_iload F (j := 4) dX6_canByThird_40 rfl ?_
  refine g_iload_n F (j := 3) dX6_canByThird_42 rfl rfl ?_
  refine g_icmp_ne F (tgt := 50) dX6_canByThird_43 (by decide) h (fun h => ?_) (fun h => ?_)
  · refine g_iconst F (v := 1) dX6_canByThird_46 (by decide) ?_
    refine g_goto F (tgt := 51) dX6_canByThird_47 (by decide) ?_
    exact wX6_canByThird_51 F R hk12 x1 x2 x3 x4 t0 1 x4 s0 h
  · refine g_iconst F (v := 0) dX6_canByThird_50 (by decide) ?_
    exact wX6_canByThird_51 F R hk12 x1 x2 x3 x4 t0 0 x4 s0 h
set_option maxRecDepth 20000 in
theorem wX6_canByThird_12 {X : Cx} (F : Fx false X cX6_canByThird RX6 10 4 95) {res : Int32 × SS} (R : RZ false X cX6_canByThird 10 res) {N : Nat} {k12 : Int32 → Int32 → Int32 → Int32 → SS → Option (Int32 × SS)} (hk12 : ∀ (x1 : Int32) (x2 : Int32) (x3 : Int32) (x4 : Int32) (σ : SS), k12 x1 x2 x3 x4 σ = some res → G false X 10 12 [(0, rf X.2.2 0), (1, .int x1), (2, .int x2), (3, .int x3), (4, .int x4)] [] σ) : ∀ (x1 : Int32) (x2 : Int32) (x3 : Int32) (x4 : Int32) (s0 : SS), fX6_canByThird_12 N k12 x1 x2 x3 x4 s0 = some res → G false X 10 12 [(0, rf X.2.2 0), (1, .int x1), (2, .int x2), (3, .int x3), (4, .int x4)] [] s0 := by
  intro x1 x2 x3 x4 s0 h
  unfold fX6_canByThird_12 at h
  refine g_iload F (j := 4) dX6_canByThird_12 rfl ?_
  refine g_iflt F (tgt := 464) dX6_canByThird_14 (by decide) h (fun h => ?_) (fun h => ?_)
  · refine g_aload_n F (a := 0) (j := 0) dX6_canByThird_464 rfl rfl ?_
    refine gt_X6_54 F (k := 0) pm0 dX6_canByThird_465 (v := rf X.2.2 14) rfl ?_
    refine g_iconst F (v := 0) dX6_canByThird_468 (by decide) ?_
    refine g_zald F (k := 14) pm14 dX6_canByThird_469 h (fun h => ?_)
    exact R _ _ _ _ dX6_canByThird_470 h
  · refine g_iload F (j := 4) dX6_canByThird_17 rfl ?_
    refine g_iload_n F (j := 1) dX6_canByThird_19 rfl rfl ?_
    refine g_ishr F dX6_canByThird_20 ?_
    refine g_iconst F (v := 1) dX6_canByThird_21 (by decide) ?_
    refine g_iand F dX6_canByThird_22 ?_
    refine g_iconst F (v := 1) dX6_canByThird_23 (by decide) ?_
    refine g_icmp_ne F (tgt := 31) dX6_canByThird_24 (by decide) h (fun h => ?_) (fun h => ?_)
    · refine g_iconst F (v := 1) dX6_canByThird_27 (by decide) ?_
      refine g_goto F (tgt := 32) dX6_canByThird_28 (by decide) ?_
      exact wX6_canByThird_32 F R hk12 x1 x2 x3 x4 1 s0 h
    · refine g_iconst F (v := 0) dX6_canByThird_31 (by decide) ?_
      exact wX6_canByThird_32 F R hk12 x1 x2 x3 x4 0 s0 h
theorem wX6_canByThird_12_lp {X : Cx} (F : Fx false X cX6_canByThird RX6 10 4 95) {res : Int32 × SS} (R : RZ false X cX6_canByThird 10 res) {N : Nat} : ∀ (n : Nat) (x1 : Int32) (x2 : Int32) (x3 : Int32) (x4 : Int32) (s0 : SS), lp (fX6_canByThird_12 N) (fun _ _ _ _ _ => none) n x1 x2 x3 x4 s0 = some res → G false X 10 12 [(0, rf X.2.2 0), (1, .int x1), (2, .int x2), (3, .int x3), (4, .int x4)] [] s0 := by
  intro n
  induction n with
  | zero => intro x1 x2 x3 x4 s0 h; cases (show (none : Option (Int32 × SS)) = some res from h)
  | succ n ih => intro x1 x2 x3 x4 s0 h; exact wX6_canByThird_12 F R ih x1 x2 x3 x4 s0 h
set_option maxRecDepth 20000 in
theorem wX6_canByThird_e {X : Cx} (F : Fx false X cX6_canByThird RX6 10 4 95) {res : Int32 × SS} (R : RZ false X cX6_canByThird 10 res) {N : Nat} : ∀ (a1 : Int32) (a2 : Int32) (s0 : SS), fX6_canByThird N a1 a2 s0 = some res → G false X 10 0 [(0, rf X.2.2 0), (1, .int a1), (2, .int a2)] [] s0 := by
  intro a1 a2 s0 h
  unfold fX6_canByThird at h
  refine g_iconst F (v := 1) dX6_canByThird_0 (by decide) ?_
  refine g_aload_n F (a := 0) (j := 0) dX6_canByThird_1 rfl rfl ?_
  refine gt_X6_164 F (k := 0) pm0 dX6_canByThird_2 (v := .int (s0 0 23)) rfl ?_
  refine g_ishl F dX6_canByThird_5 ?_
  refine g_iconst F (v := 1) dX6_canByThird_6 (by decide) ?_
  refine g_isub F dX6_canByThird_7 ?_
  refine g_istore_n F dX6_canByThird_8 rfl (by decide) (lv' := [(0, rf X.2.2 0), (1, .int a1), (2, .int a2), (3, .int (((1 : Int32) <<< ((s0 0 23) &&& (31 : Int32))) - 1))]) [1, 2, 3, 0] rfl ?_
  refine g_iload_n F (j := 3) dX6_canByThird_9 rfl rfl ?_
  refine g_istore F dX6_canByThird_10 (by decide) (lv' := [(0, rf X.2.2 0), (1, .int a1), (2, .int a2), (3, .int (((1 : Int32) <<< ((s0 0 23) &&& (31 : Int32))) - 1)), (4, .int (((1 : Int32) <<< ((s0 0 23) &&& (31 : Int32))) - 1))]) [1, 2, 3, 4, 0] rfl ?_
  exact wX6_canByThird_12_lp F R N a1 a2 (((1 : Int32) <<< ((s0 0 23) &&& (31 : Int32))) - 1) (((1 : Int32) <<< ((s0 0 23) &&& (31 : Int32))) - 1) s0 h
theorem mX6_canByThird {l : Launch} {w : Wd} (N : Nat) (hi : inj false w)  {res : Int32 × SS} {a1 a2 : Int32} {s0 : SS} (h : fX6_canByThird N a1 a2 s0 = some res) : MI false l yX6_canByThird cX6_canByThird 10 (some .boolean) { frames := 4, cells := 0, slots := 0, locals := 95 } w [rf w 0, .int a1, .int a2] s0 res := by
  refine mk_z (by decide) hi (Nat.le_of_ble_eq_true rfl) (fun X hX hL F R => ?_)
  subst hX; subst hL
  exact wX6_canByThird_e F R a1 a2 s0 h
set_option maxRecDepth 20000 in
theorem wX6_third_15 {X : Cx} (F : Fx false X cX6_third RX6 3 6 140) {res : Int32 × SS} (R : RI false X cX6_third 3 res) {N : Nat} : ∀  (s0 : SS), fX6_third_15 N s0 = some res → G false X 3 15 [] [] s0 := by
  intro  s0 h
  unfold fX6_third_15 at h
  refine g_bipush F (v := (-3)) dX6_third_15 (by decide) ?_
  exact R _ _ _ _ dX6_third_17 h
set_option maxRecDepth 20000 in
theorem wX6_third_89 {X : Cx} (F : Fx false X cX6_third RX6 3 6 140) {res : Int32 × SS} (R : RI false X cX6_third 3 res) {N : Nat} {k20 : Int32 → SS → Option (Int32 × SS)} {k30 : Int32 → Int32 → SS → Option (Int32 × SS)} (hk20 : ∀ (x1 : Int32) (σ : SS), k20 x1 σ = some res → G false X 3 20 [(0, rf X.2.2 0), (1, .int x1)] [] σ) (hk30 : ∀ (x1 : Int32) (x2 : Int32) (σ : SS), k30 x1 x2 σ = some res → G false X 3 30 [(0, rf X.2.2 0), (1, .int x1), (2, .int x2)] [] σ) : ∀ (x1 : Int32) (x2 : Int32) (s0 : SS), fX6_third_89 N k20 k30 x1 x2 s0 = some res → G false X 3 89 [(0, rf X.2.2 0), (1, .int x1), (2, .int x2)] [] s0 := by
  intro x1 x2 s0 h
  unfold fX6_third_89 at h
  refine g_iinc F (j := 2) (v := x2 + 1) dX6_third_89 rfl rfl (by decide) (lv' := [(0, rf X.2.2 0), (1, .int x1), (2, .int (x2 + 1))]) [1, 2, 0] rfl ?_
  refine g_goto F (tgt := 30) dX6_third_92 (by decide) ?_
  exact hk30 x1 (x2 + 1) s0 h
set_option maxRecDepth 20000 in
theorem wX6_third_30 {X : Cx} (F : Fx false X cX6_third RX6 3 6 140) {res : Int32 × SS} (R : RI false X cX6_third 3 res) {N : Nat} {k20 : Int32 → SS → Option (Int32 × SS)} {k30 : Int32 → Int32 → SS → Option (Int32 × SS)} (hk20 : ∀ (x1 : Int32) (σ : SS), k20 x1 σ = some res → G false X 3 20 [(0, rf X.2.2 0), (1, .int x1)] [] σ) (hk30 : ∀ (x1 : Int32) (x2 : Int32) (σ : SS), k30 x1 x2 σ = some res → G false X 3 30 [(0, rf X.2.2 0), (1, .int x1), (2, .int x2)] [] σ) : ∀ (x1 : Int32) (x2 : Int32) (s0 : SS), fX6_third_30 N k20 k30 x1 x2 s0 = some res → G false X 3 30 [(0, rf X.2.2 0), (1, .int x1), (2, .int x2)] [] s0 := by
  intro x1 x2 s0 h
  unfold fX6_third_30 at h
  refine g_iload_n F (j := 2) dX6_third_30 rfl rfl ?_
  refine g_aload_n F (a := 0) (j := 0) dX6_third_31 rfl rfl ?_
  refine gt_X6_64 F (k := 0) pm0 dX6_third_32 (v := .int (s0 0 0)) rfl ?_
  refine g_icmp_ge F (tgt := 95) dX6_third_35 (by decide) h (fun h => ?_) (fun h => ?_)
  · refine g_iinc F (j := 1) (v := x1 + 1) dX6_third_95 rfl rfl (by decide) (lv' := [(0, rf X.2.2 0), (1, .int (x1 + 1))]) [1, 0] rfl ?_
    refine g_goto F (tgt := 20) dX6_third_98 (by decide) ?_
    exact hk20 (x1 + 1) s0 h
  · refine g_iload_n F (j := 2) dX6_third_38 rfl rfl ?_
    refine g_aload_n F (a := 0) (j := 0) dX6_third_39 rfl rfl ?_
    refine gt_X6_28 F (k := 0) pm0 dX6_third_40 (v := rf X.2.2 7) rfl ?_
    refine g_aload_n F (a := 0) (j := 0) dX6_third_43 rfl rfl ?_
    refine gt_X6_48 F (k := 0) pm0 dX6_third_44 (v := rf X.2.2 12) rfl ?_
    refine g_iload_n F (j := 1) dX6_third_47 rfl rfl ?_
    refine g_iald F (k := 12) pm12 dX6_third_48 h (fun h => ?_)
    refine g_iald F (k := 7) pm7 dX6_third_49 h (fun h => ?_)
    refine g_icmp_eq F (tgt := 89) dX6_third_50 (by decide) h (fun h => ?_) (fun h => ?_)
    · exact wX6_third_89 F R hk20 hk30 x1 x2 s0 h
    · refine g_iload_n F (j := 2) dX6_third_53 rfl rfl ?_
      refine g_aload_n F (a := 0) (j := 0) dX6_third_54 rfl rfl ?_
      refine gt_X6_45 F (k := 0) pm0 dX6_third_55 (v := rf X.2.2 11) rfl ?_
      refine g_aload_n F (a := 0) (j := 0) dX6_third_58 rfl rfl ?_
      refine gt_X6_48 F (k := 0) pm0 dX6_third_59 (v := rf X.2.2 12) rfl ?_
      refine g_iload_n F (j := 1) dX6_third_62 rfl rfl ?_
      refine g_iald F (k := 12) pm12 dX6_third_63 h (fun h => ?_)
      refine g_iald F (k := 11) pm11 dX6_third_64 h (fun h => ?_)
      refine g_icmp_eq F (tgt := 89) dX6_third_65 (by decide) h (fun h => ?_) (fun h => ?_)
      · exact wX6_third_89 F R hk20 hk30 x1 x2 s0 h
      · refine g_aload_n F (a := 0) (j := 0) dX6_third_68 rfl rfl ?_
        refine g_iload_n F (j := 1) dX6_third_69 rfl rfl ?_
        refine g_iload_n F (j := 2) dX6_third_70 rfl rfl ?_
        refine g_vi F (k := 0) (As := [.int x1, .int x2]) (rest := []) (fun _ q => mX6_canByThird N F.inj  q) mw_X6_canByThird ml_X6_186 rfl ⟨Nat.le_of_ble_eq_true rfl, Nat.le_of_ble_eq_true rfl⟩ pm0 cl6 rfl (Nat.le_of_ble_eq_true rfl) dX6_third_71 h (fun v1 s1 h => ?_)
        refine g_ifeq F (tgt := 89) dX6_third_74 (by decide) h (fun h => ?_) (fun h => ?_)
        · exact wX6_third_89 F R hk20 hk30 x1 x2 s1 h
        · refine g_bipush F (v := 8) dX6_third_77 (by decide) ?_
          refine g_aload_n F (a := 0) (j := 0) dX6_third_79 rfl rfl ?_
          refine gt_X6_48 F (k := 0) pm0 dX6_third_80 (v := rf X.2.2 12) rfl ?_
          refine g_iload_n F (j := 1) dX6_third_83 rfl rfl ?_
          refine g_iald F (k := 12) pm12 dX6_third_84 h (fun h => ?_)
          refine g_imul F dX6_third_85 ?_
          refine g_iload_n F (j := 2) dX6_third_86 rfl rfl ?_
          refine g_iadd F dX6_third_87 ?_
          exact R _ _ _ _ dX6_third_88 h
theorem wX6_third_30_lp {X : Cx} (F : Fx false X cX6_third RX6 3 6 140) {res : Int32 × SS} (R : RI false X cX6_third 3 res) {N : Nat} {k20 : Int32 → SS → Option (Int32 × SS)} (hk20 : ∀ (x1 : Int32) (σ : SS), k20 x1 σ = some res → G false X 3 20 [(0, rf X.2.2 0), (1, .int x1)] [] σ) : ∀ (n : Nat) (x1 : Int32) (x2 : Int32) (s0 : SS), lp (fX6_third_30 N k20) (fun _ _ _ => none) n x1 x2 s0 = some res → G false X 3 30 [(0, rf X.2.2 0), (1, .int x1), (2, .int x2)] [] s0 := by
  intro n
  induction n with
  | zero => intro x1 x2 s0 h; cases (show (none : Option (Int32 × SS)) = some res from h)
  | succ n ih => intro x1 x2 s0 h; exact wX6_third_30 F R hk20 ih x1 x2 s0 h
set_option maxRecDepth 20000 in
theorem wX6_third_20 {X : Cx} (F : Fx false X cX6_third RX6 3 6 140) {res : Int32 × SS} (R : RI false X cX6_third 3 res) {N : Nat} {k20 : Int32 → SS → Option (Int32 × SS)} (hk20 : ∀ (x1 : Int32) (σ : SS), k20 x1 σ = some res → G false X 3 20 [(0, rf X.2.2 0), (1, .int x1)] [] σ) : ∀ (x1 : Int32) (s0 : SS), fX6_third_20 N k20 x1 s0 = some res → G false X 3 20 [(0, rf X.2.2 0), (1, .int x1)] [] s0 := by
  intro x1 s0 h
  unfold fX6_third_20 at h
  refine g_iload_n F (j := 1) dX6_third_20 rfl rfl ?_
  refine g_aload_n F (a := 0) (j := 0) dX6_third_21 rfl rfl ?_
  refine gt_X6_164 F (k := 0) pm0 dX6_third_22 (v := .int (s0 0 23)) rfl ?_
  refine g_icmp_ge F (tgt := 101) dX6_third_25 (by decide) h (fun h => ?_) (fun h => ?_)
  · refine g_iconst F (v := (-1)) dX6_third_101 (by decide) ?_
    exact R _ _ _ _ dX6_third_102 h
  · refine g_iconst F (v := 0) dX6_third_28 (by decide) ?_
    refine g_istore_n F dX6_third_29 rfl (by decide) (lv' := [(0, rf X.2.2 0), (1, .int x1), (2, .int 0)]) [1, 2, 0] rfl ?_
    exact wX6_third_30_lp F R hk20 N x1 0 s0 h
theorem wX6_third_20_lp {X : Cx} (F : Fx false X cX6_third RX6 3 6 140) {res : Int32 × SS} (R : RI false X cX6_third 3 res) {N : Nat} : ∀ (n : Nat) (x1 : Int32) (s0 : SS), lp (fX6_third_20 N) (fun _ _ => none) n x1 s0 = some res → G false X 3 20 [(0, rf X.2.2 0), (1, .int x1)] [] s0 := by
  intro n
  induction n with
  | zero => intro x1 s0 h; cases (show (none : Option (Int32 × SS)) = some res from h)
  | succ n ih => intro x1 s0 h; exact wX6_third_20 F R ih x1 s0 h
set_option maxRecDepth 20000 in
theorem wX6_third_e {X : Cx} (F : Fx false X cX6_third RX6 3 6 140) {res : Int32 × SS} (R : RI false X cX6_third 3 res) {N : Nat} : ∀  (s0 : SS), fX6_third N s0 = some res → G false X 3 0 [(0, rf X.2.2 0)] [] s0 := by
  intro  s0 h
  unfold fX6_third at h
  refine g_aload_n F (a := 0) (j := 0) dX6_third_0 rfl rfl ?_
  refine gt_X6_88 F (k := 0) pm0 dX6_third_1 (v := .int (s0 0 21)) rfl ?_
  refine g_ifeq F (tgt := 15) dX6_third_4 (by decide) h (fun h => ?_) (fun h => ?_)
  · refine g_sub (lv' := []) [] rfl ?_
    exact wX6_third_15 F R s0 h
  · refine g_aload_n F (a := 0) (j := 0) dX6_third_7 rfl rfl ?_
    refine g_vi F (k := 0) (As := []) (rest := []) (fun _ q => mX6_order N F.inj  q) mw_X6_order ml_X6_183 rfl ⟨Nat.le_of_ble_eq_true rfl, Nat.le_of_ble_eq_true rfl⟩ pm0 cl6 rfl (Nat.le_of_ble_eq_true rfl) dX6_third_8 h (fun v1 s1 h => ?_)
    refine g_iconst F (v := 1) dX6_third_11 (by decide) ?_
    refine g_icmp_ne F (tgt := 18) dX6_third_12 (by decide) h (fun h => ?_) (fun h => ?_)
    · refine g_sub (lv' := []) [] rfl ?_
      exact wX6_third_15 F R s1 h
    · refine g_iconst F (v := 0) dX6_third_18 (by decide) ?_
      refine g_istore_n F dX6_third_19 rfl (by decide) (lv' := [(0, rf X.2.2 0), (1, .int 0)]) [1, 0] rfl ?_
      exact wX6_third_20_lp F R N 0 s1 h
theorem mX6_third {l : Launch} {w : Wd} (N : Nat) (hi : inj false w)  {res : Int32 × SS} {s0 : SS} (h : fX6_third N s0 = some res) : MI false l yX6_third cX6_third 3 (some .int) { frames := 6, cells := 0, slots := 0, locals := 140 } w [rf w 0] s0 res := by
  refine mk_i (by decide) hi (Nat.le_of_ble_eq_true rfl) (fun X hX hL F R => ?_)
  subst hX; subst hL
  exact wX6_third_e F R  s0 h
set_option maxRecDepth 20000 in
theorem wX1_removeBlock_31 {X : Cx} (F : Fx true X cX1_removeBlock RX1 3 1 22) {res : SS} (R : RV true X cX1_removeBlock 3 res) {N : Nat} {r : Nat} (hr : isRow X.2.2 r) {k2 : Int32 → Int32 → SS → Option (SS)} (hk2 : ∀ (x1 : Int32) (x2 : Int32) (σ : SS), k2 x1 x2 σ = some res → G true X 3 2 [(0, rf X.2.2 r), (1, .int x1), (2, .int x2)] [] σ) : ∀ (x1 : Int32) (x2 : Int32) (s0 : SS), fX1_removeBlock_31 N r k2 x1 x2 s0 = some res → G true X 3 31 [(0, rf X.2.2 r), (1, .int x1), (2, .int x2)] [] s0 := by
  intro x1 x2 s0 h
  unfold fX1_removeBlock_31 at h
  refine g_iinc F (j := 2) (v := x2 + 1) dX1_removeBlock_31 rfl rfl (by decide) (lv' := [(0, rf X.2.2 r), (1, .int x1), (2, .int (x2 + 1))]) [1, 2, 0] rfl ?_
  refine g_goto F (tgt := 2) dX1_removeBlock_34 (by decide) ?_
  exact hk2 x1 (x2 + 1) s0 h
set_option maxRecDepth 20000 in
theorem wX1_removeBlock_2 {X : Cx} (F : Fx true X cX1_removeBlock RX1 3 1 22) {res : SS} (R : RV true X cX1_removeBlock 3 res) {N : Nat} {r : Nat} (hr : isRow X.2.2 r) {k2 : Int32 → Int32 → SS → Option (SS)} (hk2 : ∀ (x1 : Int32) (x2 : Int32) (σ : SS), k2 x1 x2 σ = some res → G true X 3 2 [(0, rf X.2.2 r), (1, .int x1), (2, .int x2)] [] σ) : ∀ (x1 : Int32) (x2 : Int32) (s0 : SS), fX1_removeBlock_2 N r k2 x1 x2 s0 = some res → G true X 3 2 [(0, rf X.2.2 r), (1, .int x1), (2, .int x2)] [] s0 := by
  intro x1 x2 s0 h
  unfold fX1_removeBlock_2 at h
  refine g_iload_n F (j := 2) dX1_removeBlock_2 rfl rfl ?_
  refine g_aload_n F (a := r) (j := 0) dX1_removeBlock_3 rfl rfl ?_
  refine gt_X1_31 F (k := r) hr.1 dX1_removeBlock_4 (v := rf X.2.2 1) rfl ?_
  refine gt_X1_74 F (k := 1) pc1 dX1_removeBlock_7 (v := .int (s0 1 1)) rfl ?_
  refine g_icmp_ge F (tgt := 37) dX1_removeBlock_10 (by decide) h (fun h => ?_) (fun h => ?_)
  · exact R _ _ _ dX1_removeBlock_37 h
  · refine g_aload_n F (a := r) (j := 0) dX1_removeBlock_13 rfl rfl ?_
    refine gt_X1_31 F (k := r) hr.1 dX1_removeBlock_14 (v := rf X.2.2 1) rfl ?_
    refine gt_X1_49 F (k := 1) pc1 dX1_removeBlock_17 (v := rf X.2.2 10) rfl ?_
    refine g_iload_n F (j := 2) dX1_removeBlock_20 rfl rfl ?_
    refine g_iald F (k := 10) pc10 dX1_removeBlock_21 h (fun h => ?_)
    refine g_iload_n F (j := 1) dX1_removeBlock_22 rfl rfl ?_
    refine g_icmp_ne F (tgt := 31) dX1_removeBlock_23 (by decide) h (fun h => ?_) (fun h => ?_)
    · refine g_aload_n F (a := r) (j := 0) dX1_removeBlock_26 rfl rfl ?_
      refine g_iload_n F (j := 2) dX1_removeBlock_27 rfl rfl ?_
      refine g_vv F (k := r) (As := [.int x2]) (rest := []) (fun _ q => mX1_remove N F.inj hr q) mw_X1_remove ml_X1_77 rfl ⟨Nat.le_of_ble_eq_true rfl, Nat.le_of_ble_eq_true rfl⟩ hr.1 cl1 rfl (Nat.le_of_ble_eq_true rfl) dX1_removeBlock_28 h (fun s1 h => ?_)
      exact wX1_removeBlock_31 F R hr hk2 x1 x2 s1 h
    · exact wX1_removeBlock_31 F R hr hk2 x1 x2 s0 h
theorem wX1_removeBlock_2_lp {X : Cx} (F : Fx true X cX1_removeBlock RX1 3 1 22) {res : SS} (R : RV true X cX1_removeBlock 3 res) {N : Nat} {r : Nat} (hr : isRow X.2.2 r) : ∀ (n : Nat) (x1 : Int32) (x2 : Int32) (s0 : SS), lp (fX1_removeBlock_2 N r) (fun _ _ _ => none) n x1 x2 s0 = some res → G true X 3 2 [(0, rf X.2.2 r), (1, .int x1), (2, .int x2)] [] s0 := by
  intro n
  induction n with
  | zero => intro x1 x2 s0 h; cases (show (none : Option (SS)) = some res from h)
  | succ n ih => intro x1 x2 s0 h; exact wX1_removeBlock_2 F R hr ih x1 x2 s0 h
set_option maxRecDepth 20000 in
theorem wX1_removeBlock_e {X : Cx} (F : Fx true X cX1_removeBlock RX1 3 1 22) {res : SS} (R : RV true X cX1_removeBlock 3 res) {N : Nat} {r : Nat} (hr : isRow X.2.2 r) : ∀ (a1 : Int32) (s0 : SS), fX1_removeBlock N r a1 s0 = some res → G true X 3 0 [(0, rf X.2.2 r), (1, .int a1)] [] s0 := by
  intro a1 s0 h
  unfold fX1_removeBlock at h
  refine g_iload_n F (j := 1) dX1_removeBlock_0 rfl rfl ?_
  refine g_istore_n F dX1_removeBlock_1 rfl (by decide) (lv' := [(0, rf X.2.2 r), (1, .int a1), (2, .int a1)]) [1, 2, 0] rfl ?_
  exact wX1_removeBlock_2_lp F R hr N a1 a1 s0 h
theorem mX1_removeBlock {l : Launch} {w : Wd} (N : Nat) (hi : inj true w) {r : Nat} (hr : isRow w r) {res : SS} {a1 : Int32} {s0 : SS} (h : fX1_removeBlock N r a1 s0 = some res) : MV true l yX1_removeBlock cX1_removeBlock 3 none { frames := 1, cells := 0, slots := 0, locals := 22 } w [rf w r, .int a1] s0 res := by
  refine mk_v (by decide) hi (Nat.le_of_ble_eq_true rfl) (fun X hX hL F R => ?_)
  subst hX; subst hL
  exact wX1_removeBlock_e F R hr a1 s0 h
set_option maxRecDepth 20000 in
theorem wX0_hasStop_e {X : Cx} (F : Fx true X cX0_hasStop RX0 3 15 378) {res : Int32 × SS} (R : RZ true X cX0_hasStop 3 res) {N : Nat} {q : Nat} (hq : IsI true X.2.2 q 8) : ∀ (a2 : Int32) (s0 : SS), fX0_hasStop N q a2 s0 = some res → G true X 3 0 [(0, rf X.2.2 27), (1, rf X.2.2 q), (2, .int a2)] [] s0 := by
  intro a2 s0 h
  unfold fX0_hasStop at h
  refine g_aload_n F (a := 27) (j := 0) dX0_hasStop_0 rfl rfl ?_
  refine g_aload_n F (a := q) (j := 1) dX0_hasStop_1 rfl rfl ?_
  refine g_iload_n F (j := 2) dX0_hasStop_2 rfl rfl ?_
  refine g_vv F (k := 27) (As := [rf X.2.2 q, .int a2]) (rest := []) (fun _ q => mX0_gather N F.inj hq q) mw_X0_gather ml_X0_48 rfl ⟨Nat.le_of_ble_eq_true rfl, Nat.le_of_ble_eq_true rfl⟩ pc27 cl0 rfl (Nat.le_of_ble_eq_true rfl) dX0_hasStop_3 h (fun s1 h => ?_)
  refine g_aload_n F (a := 27) (j := 0) dX0_hasStop_6 rfl rfl ?_
  refine gt_X0_45 F (k := 27) pc27 dX0_hasStop_7 (v := rf X.2.2 33) rfl ?_
  refine g_iload_n F (j := 2) dX0_hasStop_10 rfl rfl ?_
  refine g_vv F (k := 33) (As := [.int a2]) (rest := []) (fun _ q => mX1_removeBlock N F.inj row33 q) mw_X1_removeBlock ml_X0_87 rfl ⟨Nat.le_of_ble_eq_true rfl, Nat.le_of_ble_eq_true rfl⟩ pc33 cl1 rfl (Nat.le_of_ble_eq_true rfl) dX0_hasStop_11 h (fun s2 h => ?_)
  refine g_aload_n F (a := 27) (j := 0) dX0_hasStop_14 rfl rfl ?_
  refine g_vi F (k := 27) (As := []) (rest := []) (fun _ q => mX0_seekAnew N F.inj  q) mw_X0_seekAnew ml_X0_52 rfl ⟨Nat.le_of_ble_eq_true rfl, Nat.le_of_ble_eq_true rfl⟩ pc27 cl0 rfl (Nat.le_of_ble_eq_true rfl) dX0_hasStop_15 h (fun v3 s3 h => ?_)
  exact R _ _ _ _ dX0_hasStop_18 h
theorem mX0_hasStop {l : Launch} {w : Wd} (N : Nat) (hi : inj true w) {q : Nat} (hq : IsI true w q 8) {res : Int32 × SS} {a2 : Int32} {s0 : SS} (h : fX0_hasStop N q a2 s0 = some res) : MI true l yX0_hasStop cX0_hasStop 3 (some .boolean) { frames := 15, cells := 0, slots := 0, locals := 378 } w [rf w 27, rf w q, .int a2] s0 res := by
  refine mk_z (by decide) hi (Nat.le_of_ble_eq_true rfl) (fun X hX hL F R => ?_)
  subst hX; subst hL
  exact wX0_hasStop_e F R hq a2 s0 h
