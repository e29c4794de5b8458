def liv (h : Ro) (n : Nat) : Int := sm n (fun w => if h w = none then 0 else 1)
section CNT
variable {k : Nat} {σ τ : SS} {K : Kt} {h : Ro} {t : Int} {pl : Bool} {π : Ro} {N : Nat}
theorem working_spec (hN : 10 ≤ N) (q : RelX k σ τ K h t pl π) : fX1_working N 13 σ = some (J (liv h (kW K)), σ) := by
  obtain ⟨q1, q2, q3, q4, q5, q6, q7, -⟩ := q
  have hW := q1.2.1
  have hM := q1.1
  have hb : ∀ w m, h w = some m → m < 2147483647 := fun w m z => by have := (q2.1 w m z).2; omega
  have key : ∀ (d j n : Nat), j + d = kW K → d < n → lp (fX1_working_4 N 13) (fun _ _ _ => none) n (J (liv h j)) (J j) σ = some (J (liv h (kW K)), σ) := by
    intro d
    induction d with
    | zero =>
      intro j n hj hn
      obtain ⟨n, rfl⟩ : ∃ n', n = n' + 1 := ⟨n - 1, by omega⟩
      rw [lp_succ, fX1_working_4, q3.2.1, if_pos ((J_le (by omega) (by omega) (by omega) (by omega)).mpr (by omega))]
      have : j = kW K := by omega
      subst this
      rfl
    | succ d ih =>
      intro j n hj hn
      obtain ⟨n, rfl⟩ : ∃ n', n = n' + 1 := ⟨n - 1, by omega⟩
      have hx := ih (j + 1) n (by omega) (by omega)
      have es : liv h (j + 1) = liv h j + (if h j = none then 0 else 1) := rfl
      rw [es] at hx
      rw [lp_succ, fX1_working_4, q3.2.1, if_neg (fun q => by have := (J_le (by omega) (by omega) (by omega) (by omega)).mp q; omega), ck_J (by omega) (by omega) (by omega), J_nn (by omega), q4.1 j (by omega), Jm1]
      by_cases c : h j = none
      · rw [if_pos ((rv_none (hb j)).mpr c), fX1_working_28, J1, J_add]
        rw [if_pos c, Int.add_zero] at hx
        exact hx
      · rw [if_neg (fun z => c ((rv_none (hb j)).mp z)), fX1_working_28, J1, J_add, J_add]
        rw [if_neg c] at hx
        exact hx
  exact key (kW K) 0 N (by omega) (by omega)
theorem liv_bd {h : Ro} {n : Nat} : 0 ≤ liv h n ∧ liv h n ≤ n := by
  have := sm_bd (n := n) (f := fun w => if h w = none then 0 else 1) (c := 1) (fun w _ => by by_cases e : h w = none <;> simp [e])
  unfold liv
  omega
theorem over_spec (hN : 10 ≤ N) (q : RelX k σ τ K h t pl π) : lp (fX6_count_56 N) (fun _ _ _ => none) N 0 0 τ = some (J ((kW K : Int) - liv h (kW K)), τ) := by
  obtain ⟨q1, q2, q3, q4, q5, q6, q7, -⟩ := q
  have hW := q1.2.1
  have key : ∀ (d j n : Nat), j + d = kW K → d < n → lp (fX6_count_56 N) (fun _ _ _ => none) n (J ((j : Int) - liv h j)) (J j) τ = some (J ((kW K : Int) - liv h (kW K)), τ) := by
    intro d
    induction d with
    | zero =>
      intro j n hj hn
      obtain ⟨n, rfl⟩ : ∃ n', n = n' + 1 := ⟨n - 1, by omega⟩
      rw [lp_succ, fX6_count_56, q5.2.1, if_pos ((J_le (by omega) (by omega) (by omega) (by omega)).mpr (by omega))]
      have : j = kW K := by omega
      subst this
      rfl
    | succ d ih =>
      intro j n hj hn
      obtain ⟨n, rfl⟩ : ∃ n', n = n' + 1 := ⟨n - 1, by omega⟩
      have hx := ih (j + 1) n (by omega) (by omega)
      have es : liv h (j + 1) = liv h j + (if h j = none then 0 else 1) := rfl
      rw [es] at hx
      rw [lp_succ, fX6_count_56, q5.2.1, if_neg (fun q => by have := (J_le (by omega) (by omega) (by omega) (by omega)).mp q; omega), ck_J (by omega) (by omega) (by omega), J_nn (by omega), q6 j (by omega)]
      unfold ovf
      cases z : h j with
      | none =>
        rw [if_neg (by decide), fX6_count_79, J1, J_add, J_add]
        rw [if_pos z] at hx
        rw [show ((j + 1 : Nat) : Int) - (liv h j + 0) = (j : Int) - liv h j + 1 by omega] at hx
        exact hx
      | some x =>
        rw [if_pos (by rfl), fX6_count_79, J0, J1, J_add, J_add]
        rw [if_neg (by rw [z]; exact fun r => by cases r)] at hx
        rw [show ((j + 1 : Nat) : Int) - (liv h j + 1) = (j : Int) - liv h j + 0 by omega] at hx
        exact hx
  exact key (kW K) 0 N (by omega) (by omega)
theorem occ_spec (hN : 10 ≤ N) (q : RelX k σ τ K h t pl π) : lp (fX6_count_101 N) (fun _ _ _ => none) N 0 0 τ = some (J (oc h), τ) := by
  obtain ⟨q1, q2, q3, q4, q5, q6, q7, -⟩ := q
  have hM := q1.1
  have key : ∀ (d j n : Nat), j + d = kM K → d < n → lp (fX6_count_101 N) (fun _ _ _ => none) n (J (sm j (fun m => if cn h m = 0 then 0 else 1))) (J j) τ = some (J (sm (kM K) (fun m => if cn h m = 0 then 0 else 1)), τ) := by
    intro d
    induction d with
    | zero =>
      intro j n hj hn
      obtain ⟨n, rfl⟩ : ∃ n', n = n' + 1 := ⟨n - 1, by omega⟩
      rw [lp_succ, fX6_count_101, q5.1, if_pos ((J_le (by omega) (by omega) (by omega) (by omega)).mpr (by omega))]
      have : j = kM K := by omega
      subst this
      rfl
    | succ d ih =>
      intro j n hj hn
      obtain ⟨n, rfl⟩ : ∃ n', n = n' + 1 := ⟨n - 1, by omega⟩
      have hx := ih (j + 1) n (by omega) (by omega)
      have hc := cn_bd h j
      have es : sm (j + 1) (fun m => if cn h m = 0 then (0 : Int) else 1) = sm j (fun m => if cn h m = 0 then 0 else 1) + (if cn h j = 0 then 0 else 1) := rfl
      rw [es] at hx
      have hle := J_le (a := cn h j) (b := 0) (by omega) (by omega) (by omega) (by omega)
      rw [lp_succ, fX6_count_101, q5.1, if_neg (fun q => by have := (J_le (by omega) (by omega) (by omega) (by omega)).mp q; omega), many_spec hN q1 q2.1 q5 q6 q7 (by omega), cali_s, J0]
      by_cases c : cn h j = 0
      · rw [if_pos (hle.mpr (by omega)), fX6_count_123, J1, J_add, J_add]
        rw [if_pos c] at hx
        exact hx
      · rw [if_neg (fun z => c (by have := hle.mp z; omega)), fX6_count_123, J1, J_add, J_add]
        rw [if_neg c] at hx
        exact hx
  have h1 := key (kM K) 0 N (by omega) (by omega)
  have e : oc h = sm (kM K) (fun m => if cn h m = 0 then 0 else 1) := sm_ext (by omega) (fun i i1 i2 => by
    rw [if_pos (cn_zero.mpr (fun v _ z => by have := (q2.1 v i z).2; omega))])
  rw [e]
  exact h1
def countV (σ : SS) (K : Kt) (h : Ro) (y : Int) : Int32 := if y = 0 then J (kM K : Int) else if y = 1 then J (kW K : Int) else if y = 2 then J ((kW K : Int) - liv h (kW K)) else if y = 3 then σ 0 8 else if y = 4 then σ 0 7 else if y = 5 then J (oc h) else if y = 6 then σ 0 10 else -2
theorem count_eq (hN : 10 ≤ N) (q : RelX k σ τ K h t pl π) (a : Int32) : Same N (fX5_count N a σ) (fX6_count N a τ) σ τ := by
  obtain ⟨y, rfl, hy⟩ := J_ex a
  have w1 := working_spec hN q
  have w2 := over_spec hN q
  have w3 := occ_spec hN q
  obtain ⟨q1, q2, q3, q4, q5, q6, q7, ⟨t1, t2, -⟩, ⟨p1, p2, p3, -⟩, -⟩ := q
  have yc0 : J y = (0 : Int32) ↔ y = 0 := J_eq (a := y) (b := 0) hy.1 hy.2 (by omega) (by omega)
  have yc1 : J y = (1 : Int32) ↔ y = 1 := J_eq (a := y) (b := 1) hy.1 hy.2 (by omega) (by omega)
  have yc2 : J y = (2 : Int32) ↔ y = 2 := J_eq (a := y) (b := 2) hy.1 hy.2 (by omega) (by omega)
  have yc3 : J y = (3 : Int32) ↔ y = 3 := J_eq (a := y) (b := 3) hy.1 hy.2 (by omega) (by omega)
  have yc4 : J y = (4 : Int32) ↔ y = 4 := J_eq (a := y) (b := 4) hy.1 hy.2 (by omega) (by omega)
  have yc5 : J y = (5 : Int32) ↔ y = 5 := J_eq (a := y) (b := 5) hy.1 hy.2 (by omega) (by omega)
  have yc6 : J y = (6 : Int32) ↔ y = 6 := J_eq (a := y) (b := 6) hy.1 hy.2 (by omega) (by omega)
  have side : ∀ (x0 x1 x2 x3 x4 x5 x6 : Option (Int32 × SS)) (ρ : SS), x0 = some (J (kM K : Int), ρ) → x1 = some (J (kW K : Int), ρ) → x2 = some (J ((kW K : Int) - liv h (kW K)), ρ) → x3 = some (σ 0 8, ρ) → x4 = some (σ 0 7, ρ) → x5 = some (J (oc h), ρ) → x6 = some (σ 0 10, ρ) → (if J y = 0 then x0 else if J y = 1 then x1 else if J y = 2 then x2 else if J y = 3 then x3 else if J y = 4 then x4 else if J y = 5 then x5 else if J y = 6 then x6 else some (-2, ρ)) = some (countV σ K h y, ρ) := by
    intro x0 x1 x2 x3 x4 x5 x6 ρ e0 e1 e2 e3 e4 e5 e6
    unfold countV
    by_cases c0 : y = 0
    · rw [if_pos (yc0.mpr c0), if_pos c0]; exact e0
    rw [if_neg (fun z => c0 (yc0.mp z)), if_neg c0]
    by_cases c1 : y = 1
    · rw [if_pos (yc1.mpr c1), if_pos c1]; exact e1
    rw [if_neg (fun z => c1 (yc1.mp z)), if_neg c1]
    by_cases c2 : y = 2
    · rw [if_pos (yc2.mpr c2), if_pos c2]; exact e2
    rw [if_neg (fun z => c2 (yc2.mp z)), if_neg c2]
    by_cases c3 : y = 3
    · rw [if_pos (yc3.mpr c3), if_pos c3]; exact e3
    rw [if_neg (fun z => c3 (yc3.mp z)), if_neg c3]
    by_cases c4 : y = 4
    · rw [if_pos (yc4.mpr c4), if_pos c4]; exact e4
    rw [if_neg (fun z => c4 (yc4.mp z)), if_neg c4]
    by_cases c5 : y = 5
    · rw [if_pos (yc5.mpr c5), if_pos c5]; exact e5
    rw [if_neg (fun z => c5 (yc5.mp z)), if_neg c5]
    by_cases c6 : y = 6
    · rw [if_pos (yc6.mpr c6), if_pos c6]; exact e6
    rw [if_neg (fun z => c6 (yc6.mp z)), if_neg c6]
  refine ⟨countV σ K h y, ?_, ?_⟩
  · rw [fX5_count]
    exact side _ _ _ _ _ _ _ σ (by rw [q3.1]) (by rw [q3.2.1]) (by rw [w1, cali_s, q3.2.1, J_sub]) rfl rfl (by rw [q4.2.2]) rfl
  · rw [fX6_count]
    exact side _ _ _ _ _ _ _ τ (by rw [q5.1]) (by rw [q5.2.1]) w2 (by rw [t1, t2]) (by rw [p1.1]) w3 (by rw [p2])
def SameL (x : Option (Int64 × SS)) (y : Option (Int64 × SS)) (σ τ : SS) : Prop := ∃ v, x = some (v, σ) ∧ y = some (v, τ)
theorem digest_eq (hN : 20 ≤ N) (q : RelX k σ τ K h t pl π) : SameL (fX5_digest N σ) (fX6_digest N τ) σ τ := by
  have hM := q.1.1
  have hW := q.1.2.1
  have qS := q.2.2.1
  have qR := q.2.2.2.2.1
  -- machines
  have m1 : ∀ (d j n5 n6 : Nat), j + d = kM K → d < n5 → d < n6 → ∀ x : Int64, SameL (lp (fX5_digest_95 N) (fun _ _ _ => none) n5 x (J j) σ) (lp (fX6_digest_93 N) (fun _ _ _ => none) n6 x (J j) τ) σ τ := by
    intro d
    induction d with
    | zero =>
      intro j n5 n6 hj h5 h6 x
      obtain ⟨n5, rfl⟩ : ∃ n', n5 = n' + 1 := ⟨n5 - 1, by omega⟩
      obtain ⟨n6, rfl⟩ : ∃ n', n6 = n' + 1 := ⟨n6 - 1, by omega⟩
      refine ⟨x, ?_, ?_⟩
      · rw [lp_succ, fX5_digest_95, qS.1, if_pos ((J_le (by omega) (by omega) (by omega) (by omega)).mpr (by omega))]
      · rw [lp_succ, fX6_digest_93, qR.1, if_pos ((J_le (by omega) (by omega) (by omega) (by omega)).mpr (by omega))]
    | succ d ih =>
      intro j n5 n6 hj h5 h6 x
      obtain ⟨n5, rfl⟩ : ∃ n', n5 = n' + 1 := ⟨n5 - 1, by omega⟩
      obtain ⟨n6, rfl⟩ : ∃ n', n6 = n' + 1 := ⟨n6 - 1, by omega⟩
      have inner : ∀ (d2 c i5 i6 : Nat), c + d2 = 3 → d2 < i5 → d2 < i6 → ∀ x : Int64, SameL (lp (fX5_digest_109 N (lp (fX5_digest_95 N) (fun _ _ _ => none) n5)) (fun _ _ _ _ => none) i5 x (J j) (J c) σ) (lp (fX6_digest_104 N (lp (fX6_digest_93 N) (fun _ _ _ => none) n6)) (fun _ _ _ _ => none) i6 x (J j) (J c) τ) σ τ := by
        intro d2
        induction d2 with
        | zero =>
          intro c i5 i6 hc g5 g6 x
          obtain ⟨i5, rfl⟩ : ∃ n', i5 = n' + 1 := ⟨i5 - 1, by omega⟩
          obtain ⟨i6, rfl⟩ : ∃ n', i6 = n' + 1 := ⟨i6 - 1, by omega⟩
          obtain ⟨v, e5, e6⟩ := ih (j + 1) n5 n6 (by omega) (by omega) (by omega) x
          refine ⟨v, ?_, ?_⟩
          · rw [lp_succ, fX5_digest_109, J2, if_pos ((J_lt (by omega) (by omega) (by omega) (by omega)).mpr (by omega)), J1, J_add]; exact e5
          · rw [lp_succ, fX6_digest_104, J3, if_pos ((J_le (by omega) (by omega) (by omega) (by omega)).mpr (by omega)), J1, J_add]; exact e6
        | succ d2 ih2 =>
          intro c i5 i6 hc g5 g6 x
          obtain ⟨i5, rfl⟩ : ∃ n', i5 = n' + 1 := ⟨i5 - 1, by omega⟩
          obtain ⟨i6, rfl⟩ : ∃ n', i6 = n' + 1 := ⟨i6 - 1, by omega⟩
          obtain ⟨v, f5, f6⟩ := free_eq (N := N) (by omega) q (J j) (J c)
          obtain ⟨w, e5, e6⟩ := ih2 (c + 1) i5 i6 (by omega) (by omega) (by omega) (31 * x + v.toInt64)
          refine ⟨w, ?_, ?_⟩
          · rw [lp_succ, fX5_digest_109, J2, if_neg (fun z => by have := (J_lt (by omega) (by omega) (by omega) (by omega)).mp z; omega), f5, cali_s, J1, J_add]; exact e5
          · rw [lp_succ, fX6_digest_104, J3, if_neg (fun z => by have := (J_le (by omega) (by omega) (by omega) (by omega)).mp z; omega), f6, cali_s, J1, J_add]; exact e6
      obtain ⟨v, e5, e6⟩ := inner 3 0 N N (by omega) (by omega) (by omega) x
      refine ⟨v, ?_, ?_⟩
      · rw [lp_succ, fX5_digest_95, qS.1, if_neg (fun z => by have := (J_le (by omega) (by omega) (by omega) (by omega)).mp z; omega)]; exact e5
      · rw [lp_succ, fX6_digest_93, qR.1, if_neg (fun z => by have := (J_le (by omega) (by omega) (by omega) (by omega)).mp z; omega)]; exact e6
  have m2 : ∀ (d j n5 n6 : Nat), j + d = kW K → d < n5 → d < n6 → ∀ x : Int64, SameL (lp (fX5_digest_33 N) (fun _ _ _ => none) n5 x (J j) σ) (lp (fX6_digest_33 N) (fun _ _ _ => none) n6 x (J j) τ) σ τ := by
    intro d
    induction d with
    | zero =>
      intro j n5 n6 hj h5 h6 x
      obtain ⟨n5, rfl⟩ : ∃ n', n5 = n' + 1 := ⟨n5 - 1, by omega⟩
      obtain ⟨n6, rfl⟩ : ∃ n', n6 = n' + 1 := ⟨n6 - 1, by omega⟩
      obtain ⟨v, e5, e6⟩ := m1 (kM K) 0 N N (by omega) (by omega) (by omega) x
      refine ⟨v, ?_, ?_⟩
      · rw [lp_succ, fX5_digest_33, qS.2.1, if_pos ((J_le (by omega) (by omega) (by omega) (by omega)).mpr (by omega))]; exact e5
      · rw [lp_succ, fX6_digest_33, qR.2.1, if_pos ((J_le (by omega) (by omega) (by omega) (by omega)).mpr (by omega))]; exact e6
    | succ d ih =>
      intro j n5 n6 hj h5 h6 x
      obtain ⟨n5, rfl⟩ : ∃ n', n5 = n' + 1 := ⟨n5 - 1, by omega⟩
      obtain ⟨n6, rfl⟩ : ∃ n', n6 = n' + 1 := ⟨n6 - 1, by omega⟩
      have inner : ∀ (d2 c i5 i6 : Nat), c + d2 = 6 → d2 < i5 → d2 < i6 → ∀ x : Int64, SameL (lp (fX5_digest_47 N (lp (fX5_digest_33 N) (fun _ _ _ => none) n5)) (fun _ _ _ _ => none) i5 x (J j) (J c) σ) (lp (fX6_digest_44 N (lp (fX6_digest_33 N) (fun _ _ _ => none) n6)) (fun _ _ _ _ => none) i6 x (J j) (J c) τ) σ τ := by
        intro d2
        induction d2 with
        | zero =>
          intro c i5 i6 hc g5 g6 x
          obtain ⟨i5, rfl⟩ : ∃ n', i5 = n' + 1 := ⟨i5 - 1, by omega⟩
          obtain ⟨i6, rfl⟩ : ∃ n', i6 = n' + 1 := ⟨i6 - 1, by omega⟩
          obtain ⟨v, f5, f6⟩ := planAt_eq (N := N) q (J j)
          obtain ⟨w, e5, e6⟩ := ih (j + 1) n5 n6 (by omega) (by omega) (by omega) (31 * x + v.toInt64)
          refine ⟨w, ?_, ?_⟩
          · rw [lp_succ, fX5_digest_47, J5, if_pos ((J_lt (by omega) (by omega) (by omega) (by omega)).mpr (by omega)), f5, cali_s, J1, J_add]; exact e5
          · rw [lp_succ, fX6_digest_44, J6, if_pos ((J_le (by omega) (by omega) (by omega) (by omega)).mpr (by omega)), f6, cali_s, J1, J_add]; exact e6
        | succ d2 ih2 =>
          intro c i5 i6 hc g5 g6 x
          obtain ⟨i5, rfl⟩ : ∃ n', i5 = n' + 1 := ⟨i5 - 1, by omega⟩
          obtain ⟨i6, rfl⟩ : ∃ n', i6 = n' + 1 := ⟨i6 - 1, by omega⟩
          obtain ⟨v, f5, f6⟩ := about_eq (N := N) (by omega) q (J j) (J c)
          obtain ⟨w, e5, e6⟩ := ih2 (c + 1) i5 i6 (by omega) (by omega) (by omega) (31 * x + v.toInt64)
          refine ⟨w, ?_, ?_⟩
          · rw [lp_succ, fX5_digest_47, J5, if_neg (fun z => by have := (J_lt (by omega) (by omega) (by omega) (by omega)).mp z; omega), f5, cali_s, J1, J_add]; exact e5
          · rw [lp_succ, fX6_digest_44, J6, if_neg (fun z => by have := (J_le (by omega) (by omega) (by omega) (by omega)).mp z; omega), f6, cali_s, J1, J_add]; exact e6
      obtain ⟨v, e5, e6⟩ := inner 6 0 N N (by omega) (by omega) (by omega) x
      refine ⟨v, ?_, ?_⟩
      · rw [lp_succ, fX5_digest_33, qS.2.1, if_neg (fun z => by have := (J_le (by omega) (by omega) (by omega) (by omega)).mp z; omega)]; exact e5
      · rw [lp_succ, fX6_digest_33, qR.2.1, if_neg (fun z => by have := (J_le (by omega) (by omega) (by omega) (by omega)).mp z; omega)]; exact e6
  have m3 : ∀ (d j n5 n6 : Nat), j + d = 7 → d < n5 → d < n6 → ∀ x : Int64, SameL (lp (fX5_digest_6 N) (fun _ _ _ => none) n5 x (J j) σ) (lp (fX6_digest_6 N) (fun _ _ _ => none) n6 x (J j) τ) σ τ := by
    intro d
    induction d with
    | zero =>
      intro j n5 n6 hj h5 h6 x
      obtain ⟨n5, rfl⟩ : ∃ n', n5 = n' + 1 := ⟨n5 - 1, by omega⟩
      obtain ⟨n6, rfl⟩ : ∃ n', n6 = n' + 1 := ⟨n6 - 1, by omega⟩
      obtain ⟨v, e5, e6⟩ := m2 (kW K) 0 N N (by omega) (by omega) (by omega) x
      refine ⟨v, ?_, ?_⟩
      · rw [lp_succ, fX5_digest_6, J6, if_pos ((J_lt (by omega) (by omega) (by omega) (by omega)).mpr (by omega))]; exact e5
      · rw [lp_succ, fX6_digest_6, J7, if_pos ((J_le (by omega) (by omega) (by omega) (by omega)).mpr (by omega))]; exact e6
    | succ d ih =>
      intro j n5 n6 hj h5 h6 x
      obtain ⟨n5, rfl⟩ : ∃ n', n5 = n' + 1 := ⟨n5 - 1, by omega⟩
      obtain ⟨n6, rfl⟩ : ∃ n', n6 = n' + 1 := ⟨n6 - 1, by omega⟩
      obtain ⟨v, f5, f6⟩ := count_eq (N := N) (by omega) q (J j)
      obtain ⟨w, e5, e6⟩ := ih (j + 1) n5 n6 (by omega) (by omega) (by omega) (31 * x + v.toInt64)
      refine ⟨w, ?_, ?_⟩
      · rw [lp_succ, fX5_digest_6, J6, if_neg (fun z => by have := (J_lt (by omega) (by omega) (by omega) (by omega)).mp z; omega), f5, cali_s, J1, J_add]; exact e5
      · rw [lp_succ, fX6_digest_6, J7, if_neg (fun z => by have := (J_le (by omega) (by omega) (by omega) (by omega)).mp z; omega), f6, cali_s, J1, J_add]; exact e6
  rw [fX5_digest, fX6_digest]
  exact m3 7 0 N N (by omega) (by omega) (by omega) 127
end CNT
theorem S_about_ok {N : Nat} (hN : 20 ≤ N) : S_about N Rel := by
  rintro k a0 a1 σ τ hk ⟨K, h, t, pl, π, q⟩
  obtain ⟨v, e5, e6⟩ := about_eq (N := N) (by omega) q a0 a1
  exact ⟨v, σ, τ, e5, e6, K, h, t, pl, π, q.up⟩
theorem S_free_ok {N : Nat} (hN : 20 ≤ N) : S_free N Rel := by
  rintro k a0 a1 σ τ hk ⟨K, h, t, pl, π, q⟩
  obtain ⟨v, e5, e6⟩ := free_eq (N := N) (by omega) q a0 a1
  exact ⟨v, σ, τ, e5, e6, K, h, t, pl, π, q.up⟩
theorem S_planAt_ok (N : Nat) : S_planAt N Rel := by
  rintro k a0 σ τ hk ⟨K, h, t, pl, π, q⟩
  obtain ⟨v, e5, e6⟩ := planAt_eq (N := N) q a0
  exact ⟨v, σ, τ, e5, e6, K, h, t, pl, π, q.up⟩
theorem S_count_ok {N : Nat} (hN : 20 ≤ N) : S_count N Rel := by
  rintro k a0 σ τ hk ⟨K, h, t, pl, π, q⟩
  obtain ⟨v, e5, e6⟩ := count_eq (N := N) (by omega) q a0
  exact ⟨v, σ, τ, e5, e6, K, h, t, pl, π, q.up⟩
theorem S_digest_ok {N : Nat} (hN : 20 ≤ N) : S_digest N Rel := by
  rintro k σ τ hk ⟨K, h, t, pl, π, q⟩
  obtain ⟨v, e5, e6⟩ := digest_eq (N := N) hN q
  exact ⟨v, σ, τ, e5, e6, K, h, t, pl, π, q.up⟩
