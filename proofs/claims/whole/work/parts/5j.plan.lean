theorem isOf_spec {τ : SS} {K : Kt} {o : Nat → Bool} {w N : Nat} (hN : 10 ≤ N) (hK : KOk K) (hR : MdRep τ K) (hO : MdOv τ K o) (ho : OvOk K o) (hw : w < kW K) {b : Int} (hb : -2147483648 ≤ b ∧ b < 2147483648) : fX6_isOf N (J w) (J b) τ = some (bz (!(o w) && decide ((blk K w : Int) = b)), τ) := by
  have hW := hK.2.1
  have hbl := blk_le K w
  rw [fX6_isOf, ck_J (by omega) (by omega) (by omega), J_nn (by omega), hO w hw]
  simp only [fX6_isOf_22, fX6_isOf_23]
  cases co : o w with
  | true => rw [if_neg (by decide)]; rfl
  | false =>
    rw [if_pos (by rfl), blockOf_spec hN hK hR hO ho hw, cali_s]
    have e := J_eq (a := (blk K w : Int)) (b := b) (by omega) (by omega) hb.1 hb.2
    by_cases c : (blk K w : Int) = b
    · rw [if_pos (e.mpr c), decide_eq_true c]; rfl
    · rw [if_neg (fun q => c (e.mp q)), decide_eq_false c]; rfl
/-- what a block that lives needs, both -/
theorem costOf_spec {τ : SS} {K : Kt} {o : Nat → Bool} {b N : Nat} (hN : 10 ≤ N) (hK : KOk K) (hR : MdRep τ K) (hO : MdOv τ K o) (ho : OvOk K o) (hb : b < kW K) (hob : o b = false) : fX6_costOf N (J b) τ = some (J (bA K b + bB K b), τ) := by
  have hW := hK.2.1
  have key : ∀ (d j n : Nat), j + d = kW K → d < n → lp (fX6_costOf_4 N) (fun _ _ _ _ => none) n (J b) (J (sm j (fun w => if blk K w = b then kA K w + kB K w else 0))) (J j) τ = some (J (sm (kW K) (fun w => if blk K w = b then kA K w + kB K w else 0)), τ) := by
    intro d
    induction d with
    | zero =>
      intro j n hj hn
      obtain ⟨n, rfl⟩ : ∃ n', n = n' + 1 := ⟨n - 1, by omega⟩
      rw [lp_succ, fX6_costOf_4, hR.2.1, if_pos ((J_le (by omega) (by omega) (by omega) (by omega)).mpr (by omega))]
      have : j = kW K := by omega
      subst this
      rfl
    | succ d ih =>
      intro j n hj hn
      obtain ⟨n, rfl⟩ : ∃ n', n = n' + 1 := ⟨n - 1, by omega⟩
      have hx := ih (j + 1) n (by omega) (by omega)
      have es : sm (j + 1) (fun w => if blk K w = b then kA K w + kB K w else 0) = sm j (fun w => if blk K w = b then kA K w + kB K w else 0) + (if blk K j = b then kA K j + kB K j else 0) := rfl
      rw [es] at hx
      obtain ⟨m3, m4, -⟩ := hR.2.2.2 j (by omega)
      rw [lp_succ, fX6_costOf_4, hR.2.1, if_neg (fun q => by have := (J_le (by omega) (by omega) (by omega) (by omega)).mp q; omega), isOf_spec hN hK hR hO ho (by omega) (by omega), cali_s]
      have eb : (!(o j) && decide ((blk K j : Int) = (b : Int))) = decide (blk K j = b) := by
        by_cases c : blk K j = b
        · have : o j = false := by
            cases z : o j with
            | false => rfl
            | true =>
              have hk4 := ho j (by omega) z
              have := blk_own (K := K) (w := j) (by omega)
              rw [← c, this] at hob
              rw [z] at hob
              cases hob
          rw [this, decide_eq_true c, decide_eq_true (by omega : (blk K j : Int) = (b : Int))]; rfl
        · rw [decide_eq_false c, decide_eq_false (by omega : ¬ (blk K j : Int) = (b : Int)), Bool.and_false]
      rw [eb]
      by_cases c : blk K j = b
      · rw [decide_eq_true c, if_neg (by decide)]
        simp (disch := omega) only [ck_J, J_nn, m3, m4]
        rw [fX6_costOf_39, J1, J_add, J_add, J_add]
        rw [if_pos c] at hx
        exact hx
      · rw [decide_eq_false c, if_pos (by rfl), fX6_costOf_39, J0, J1, J_add, J_add]
        rw [if_neg c] at hx
        exact hx
  have h1 := key (kW K) 0 N (by omega) (by omega)
  have e : bA K b + bB K b = sm (kW K) (fun w => if blk K w = b then kA K w + kB K w else 0) := by
    unfold bA bB
    rw [← sm_add]
    refine sm_congr (fun i _ => ?_)
    by_cases c : blk K i = b
    · rw [if_pos c, if_pos c, if_pos c]
    · rw [if_neg c, if_neg c, if_neg c]; rfl
  rw [fX6_costOf, e]
  exact h1
section COST
variable {k : Nat} {σ τ : SS} {K : Kt} {h : Ro} {t : Int} {pl : Bool} {π : Ro} {N : Nat}
theorem mcost_spec (hN : 10 ≤ N) (q : RelX k σ τ K h t true π) : lp (fX6_cost_14 N) (fun _ _ _ => none) N 0 0 τ = some (J (cst K h π (kW K)), τ) := by
  obtain ⟨q1, q2, q3, q4, q5, q6, q7, -, -, q10⟩ := q
  have hW := q1.2.1
  have hM := q1.1
  obtain ⟨z1, z2, z3⟩ := q10 rfl
  have key : ∀ (d j n : Nat), j + d = kW K → d < n → lp (fX6_cost_14 N) (fun _ _ _ => none) n (J (cst K h π j)) (J j) τ = some (J (cst K h π (kW K)), τ) := by
    intro d
    induction d with
    | zero =>
      intro j n hj hn
      obtain ⟨n, rfl⟩ : ∃ n', n = n' + 1 := ⟨n - 1, by omega⟩
      rw [lp_succ, fX6_cost_14, q5.2.1, if_pos ((J_le (by omega) (by omega) (by omega) (by omega)).mpr (by omega))]
      have : j = kW K := by omega
      subst this
      rfl
    | succ d ih =>
      intro j n hj hn
      obtain ⟨n, rfl⟩ : ∃ n', n = n' + 1 := ⟨n - 1, by omega⟩
      have hx := ih (j + 1) n (by omega) (by omega)
      have es : cst K h π (j + 1) = cst K h π j + (if mvd K h π j then bA K j + bB K j else 0) := rfl
      rw [es] at hx
      rw [lp_succ, fX6_cost_14, q5.2.1, if_neg (fun q => by have := (J_le (by omega) (by omega) (by omega) (by omega)).mp q; omega), isBlock_spec hN q1 q5 q6 q2.ov (by omega), cali_s]
      have no : mvd K h π j = false → fX6_cost_54 N (lp (fX6_cost_14 N) (fun _ _ _ => none) n) (J j) (J (cst K h π j)) τ = some (J (cst K h π (kW K)), τ) := by
        intro z
        rw [z, if_neg (by decide)] at hx
        rw [fX6_cost_54, fX6_cost_55, J0, J1, J_add, J_add]
        exact hx
      have hs := z1.2.2.2.2.1 j
      cases hh : h j with
      | none =>
        have e : isB K (ovf h) j = false := by unfold isB ovf; rw [hh]; rfl
        rw [e, if_pos (by rfl)]
        exact no (by unfold mvd; rw [hh]; simp)
      | some x =>
        have hπs : (π j).isSome = true := hs.mpr (by rw [hh]; rfl)
        obtain ⟨y, hy⟩ : ∃ y, π j = some y := by
          cases z : π j with
          | none => rw [z] at hπs; cases hπs
          | some y => exact ⟨y, rfl⟩
        have hxM := (q2.1 j x hh).2
        have hyM := (z1.1 j y hy).2
        by_cases cb : blk K j = j
        · have e : isB K (ovf h) j = true := by unfold isB ovf; rw [hh, cb]; simp
          rw [e, if_neg (by decide), ck_J (by omega) (by omega) (by omega), ck_J (by omega) (by omega) (by omega), J_nn (by omega), z3 j (by omega), q7 j x (by omega) hh, hy]
          have cxy := J_eq (a := (y : Int)) (b := (x : Int)) (by omega) (by omega) (by omega) (by omega)
          by_cases c : y = x
          · rw [if_pos (show rv (some y) = J (x : Int) from cxy.mpr (by omega))]
            exact no (by unfold mvd; rw [hh, hy, c]; simp)
          · rw [if_neg (fun z => c (by have := cxy.mp z; omega)), costOf_spec hN q1 q5 q6 q2.ov (by omega) (by unfold ovf; rw [hh]; rfl), cali_s, fX6_cost_55, J1, J_add, J_add]
            have : mvd K h π j = true := by unfold mvd; rw [hh, hy, cb]; simp [c]
            rw [this, if_pos rfl] at hx
            exact hx
        · have e : isB K (ovf h) j = false := by unfold isB; simp [cb]
          rw [e, if_pos (by rfl)]
          exact no (by unfold mvd; simp [cb])
  exact key (kW K) 0 N (by omega) (by omega)
end COST
theorem S_cost_ok {N : Nat} (hN : 20 ≤ N) : S_cost N Rel := by
  rintro k σ τ hk ⟨K, h, t, pl, π, q⟩
  obtain ⟨q1, q2, q3, q4, q5, q6, q7, -, ⟨-, -, -, p4, p5⟩, q10⟩ := id q
  rw [fX5_cost, fX6_cost, p4, p5]
  cases pl with
  | false =>
    rw [if_pos (by rfl), if_pos (by rfl), fX5_cost_23]
    exact ⟨-3, σ, τ, rfl, rfl, K, h, t, _, π, q.up⟩
  | true =>
    obtain ⟨z1, z2, z3⟩ := q10 rfl
    rw [if_neg (by decide), if_neg (by decide), costTo_spec (by omega) q1 q3 q4 q2.1 z2 z1.1, cali_s, fX5_cost_23, mcost_spec (by omega) q]
    exact ⟨_, σ, τ, rfl, rfl, K, h, t, _, π, q.up⟩
/-- a goal as told, by numbers -/
def goalB (K : Kt) (x0 x1 x2 x3 : Int) : Bool := if x0 = 0 then decide (0 ≤ x1) && decide (x1 ≤ (kM K : Int) - 1) else if x0 = 1 then (decide (0 ≤ x1) && decide (x1 ≤ (kM K : Int) - 1)) && ((decide (0 ≤ x2) && decide (x2 ≤ 1000)) && (decide (0 ≤ x3) && decide (x3 ≤ 1000))) else if x0 = 2 then decide (1 ≤ x2) && decide (x2 ≤ 5) else false
theorem isGoal_spec {σ : SS} {K : Kt} {N : Nat} {x0 x1 x2 x3 : Int} (hK : KOk K) (hS : StRep σ K) (b0 : -2147483648 ≤ x0 ∧ x0 < 2147483648) (b1 : -2147483648 ≤ x1 ∧ x1 < 2147483648) (b2 : -2147483648 ≤ x2 ∧ x2 < 2147483648) (b3 : -2147483648 ≤ x3 ∧ x3 < 2147483648) : fX5_isGoal N (J x0) (J x1) (J x2) (J x3) σ = some (bz (goalB K x0 x1 x2 x3), σ) := by
  have e0 : J x0 = (0 : Int32) ↔ x0 = 0 := J_eq (a := x0) (b := 0) b0.1 b0.2 (by omega) (by omega)
  have e1 : J x0 = (1 : Int32) ↔ x0 = 1 := J_eq (a := x0) (b := 1) b0.1 b0.2 (by omega) (by omega)
  have e2 : J x0 = (2 : Int32) ↔ x0 = 2 := J_eq (a := x0) (b := 2) b0.1 b0.2 (by omega) (by omega)
  unfold goalB
  rw [fX5_isGoal, hasMachine_spec N hK hS b1, cali_s, cali_s, isAmount_spec N b2, cali_s, isAmount_spec N b3, cali_s, fX5_isGoal_67, fX5_isGoal_68, fX5_isGoal_68, fX5_isGoal_83, fX5_isGoal_84, fX5_isGoal_84]
  by_cases c0 : x0 = 0
  · rw [if_pos (e0.mpr c0), if_pos c0]
    cases (decide (0 ≤ x1) && decide (x1 ≤ (kM K : Int) - 1)) <;> rfl
  · rw [if_neg (fun z => c0 (e0.mp z)), if_neg c0]
    by_cases c1 : x0 = 1
    · rw [if_pos (e1.mpr c1), if_pos c1]
      cases (decide (0 ≤ x1) && decide (x1 ≤ (kM K : Int) - 1)) <;> cases (decide (0 ≤ x2) && decide (x2 ≤ 1000)) <;> cases (decide (0 ≤ x3) && decide (x3 ≤ 1000)) <;> rfl
    · rw [if_neg (fun z => c1 (e1.mp z)), if_neg c1]
      by_cases c2 : x0 = 2
      · have f1 : J x2 < (1 : Int32) ↔ x2 < 1 := J_lt (a := x2) (b := 1) b2.1 b2.2 (by omega) (by omega)
        have f2 : (5 : Int32) < J x2 ↔ 5 < x2 := J_lt (a := 5) (b := x2) (by omega) (by omega) b2.1 b2.2
        rw [if_pos (e2.mpr c2), if_pos c2]
        by_cases d1 : x2 < 1
        · rw [if_pos (f1.mpr d1), decide_eq_false (by omega)]; rfl
        · rw [if_neg (fun z => d1 (f1.mp z)), decide_eq_true (by omega : 1 ≤ x2)]
          by_cases d2 : 5 < x2
          · rw [if_pos (f2.mpr d2), decide_eq_false (by omega)]; rfl
          · rw [if_neg (fun z => d2 (f2.mp z)), decide_eq_true (by omega : x2 ≤ 5)]; rfl
      · rw [if_neg (fun z => c2 (e2.mp z)), if_neg c2]; rfl
theorem mgoal_spec {τ : SS} {K : Kt} {N : Nat} {x0 x1 x2 x3 : Int} (hK : KOk K) (hR : MdRep τ K) (b0 : -2147483648 ≤ x0 ∧ x0 < 2147483648) (b1 : -2147483648 ≤ x1 ∧ x1 < 2147483648) (b2 : -2147483648 ≤ x2 ∧ x2 < 2147483648) (b3 : -2147483648 ≤ x3 ∧ x3 < 2147483648) : (cali (fX6_in N (J x0) 0 2 τ) (fun v2 s2 => if v2 = 0 then (fX6_plan_43 N (J x0) (J x1) (J x2) (J x3) s2) else (if J x0 = 2 then (cali (fX6_in N (J x2) 1 5 s2) (fun v3 s3 => if v3 = 0 then (fX6_plan_43 N (J x0) (J x1) (J x2) (J x3) s3) else (fX6_plan_39 N (J x0) (J x1) (J x2) (J x3) s3))) else (cali (fX6_isMachine N (J x1) s2) (fun v4 s4 => if v4 = 0 then (fX6_plan_43 N (J x0) (J x1) (J x2) (J x3) s4) else (fX6_plan_39 N (J x0) (J x1) (J x2) (J x3) s4)))))) = fX6_plan_84 N (J x0) (J x1) (J x2) (J x3) (bz (goalB K x0 x1 x2 x3)) τ := by
  have hM := hK.1
  have e1 : J x0 = (1 : Int32) ↔ x0 = 1 := J_eq (a := x0) (b := 1) b0.1 b0.2 (by omega) (by omega)
  have e2 : J x0 = (2 : Int32) ↔ x0 = 2 := J_eq (a := x0) (b := 2) b0.1 b0.2 (by omega) (by omega)
  have i0 : fX6_in N (J x0) 0 2 τ = some (bz (decide (0 ≤ x0) && decide (x0 ≤ 2)), τ) := in_spec (lo := 0) (hi := 2) N b0 (by omega) (by omega)
  have i1 : fX6_in N (J x2) 1 5 τ = some (bz (decide (1 ≤ x2) && decide (x2 ≤ 5)), τ) := in_spec (lo := 1) (hi := 5) N b2 (by omega) (by omega)
  have i2 : fX6_in N (J x2) 0 1000 τ = some (bz (decide (0 ≤ x2) && decide (x2 ≤ 1000)), τ) := in_spec (lo := 0) (hi := 1000) N b2 (by omega) (by omega)
  have i3 : fX6_in N (J x3) 0 1000 τ = some (bz (decide (0 ≤ x3) && decide (x3 ≤ 1000)), τ) := in_spec (lo := 0) (hi := 1000) N b3 (by omega) (by omega)
  have p43 : fX6_plan_43 N (J x0) (J x1) (J x2) (J x3) τ = fX6_plan_84 N (J x0) (J x1) (J x2) (J x3) 0 τ := by
    rw [fX6_plan_43, fX6_plan_44, if_pos rfl, fX6_plan_83]
  have p39 : fX6_plan_39 N (J x0) (J x1) (J x2) (J x3) τ = fX6_plan_84 N (J x0) (J x1) (J x2) (J x3) (bz (if x0 = 1 then ((decide (0 ≤ x2) && decide (x2 ≤ 1000)) && (decide (0 ≤ x3) && decide (x3 ≤ 1000))) else true)) τ := by
    rw [fX6_plan_39, fX6_plan_44, if_neg (by decide), i2, cali_s, i3, cali_s, fX6_plan_83, fX6_plan_79]
    by_cases c1 : x0 = 1
    · rw [if_pos (e1.mpr c1), if_pos c1]
      cases (decide (0 ≤ x2) && decide (x2 ≤ 1000)) <;> cases (decide (0 ≤ x3) && decide (x3 ≤ 1000)) <;> rfl
    · rw [if_neg (fun z => c1 (e1.mp z)), if_neg c1]; rfl
  rw [i0, cali_s, i1, cali_s, isMachine_spec N hK hR b1, cali_s, p43, p39]
  unfold goalB
  by_cases c0 : x0 = 0
  · subst c0
    cases (decide (0 ≤ x1) && decide (x1 ≤ (kM K : Int) - 1)) <;> rfl
  by_cases c1 : x0 = 1
  · subst c1
    cases (decide (0 ≤ x1) && decide (x1 ≤ (kM K : Int) - 1)) <;> rfl
  by_cases c2 : x0 = 2
  · subst c2
    cases (decide (1 ≤ x2) && decide (x2 ≤ 5)) <;> rfl
  have hn : (decide (0 ≤ x0) && decide (x0 ≤ 2)) = false := by
    by_cases z : 0 ≤ x0
    · rw [decide_eq_false (by omega : ¬ x0 ≤ 2), Bool.and_false]
    · rw [decide_eq_false z, Bool.false_and]
  rw [hn, if_pos (by rfl), if_neg c0, if_neg c1, if_neg c2]
  rfl
