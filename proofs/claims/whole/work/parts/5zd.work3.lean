def kgB (t x g : Int) : Bool := if x = 1 ∨ x = 2 then decide (0 ≤ g) && decide (g ≤ 3) else if x = 4 then decide (t < g) else decide (0 ≤ x) && decide (x ≤ 4)
def goodW (K : Kt) (t a b x g y : Int) : Bool := ((decide (0 ≤ a) && decide (a ≤ 1000)) && (decide (0 ≤ b) && decide (b ≤ 1000))) && (kgB t x g && (decide (0 ≤ y) && decide (y ≤ (kM K : Int) - 1)))
theorem isKind_spec {σ : SS} {t x g : Int} (N : Nat) (h8 : σ 0 8 = J t) (ht : -2147483648 ≤ t ∧ t < 2147483648) (hx : -2147483648 ≤ x ∧ x < 2147483648) (hg : -2147483648 ≤ g ∧ g < 2147483648) : fX5_isKindWithGroup N (J x) (J g) σ = some (bz (kgB t x g), σ) := by
  have e1 : J x = (1 : Int32) ↔ x = 1 := J_eq (a := x) (b := 1) hx.1 hx.2 (by omega) (by omega)
  have e2 : J x = (2 : Int32) ↔ x = 2 := J_eq (a := x) (b := 2) hx.1 hx.2 (by omega) (by omega)
  have e4 : J x = (4 : Int32) ↔ x = 4 := J_eq (a := x) (b := 4) hx.1 hx.2 (by omega) (by omega)
  have e0 : J x = (0 : Int32) ↔ x = 0 := J_eq (a := x) (b := 0) hx.1 hx.2 (by omega) (by omega)
  have e3 : J x = (3 : Int32) ↔ x = 3 := J_eq (a := x) (b := 3) hx.1 hx.2 (by omega) (by omega)
  have g0 : J g < (0 : Int32) ↔ g < 0 := J_lt (a := g) (b := 0) hg.1 hg.2 (by omega) (by omega)
  have g4 : (4 : Int32) ≤ J g ↔ 4 ≤ g := J_le (a := 4) (b := g) (by omega) (by omega) hg.1 hg.2
  have gt : J g ≤ J t ↔ g ≤ t := J_le hg.1 hg.2 ht.1 ht.2
  have grp : x = 1 ∨ x = 2 → fX5_isKindWithGroup_10 N (J g) σ = some (bz (kgB t x g), σ) := by
    intro hx
    unfold kgB
    rw [if_pos hx, fX5_isKindWithGroup_10, fX5_isKindWithGroup_23, fX5_isKindWithGroup_24, fX5_isKindWithGroup_24]
    by_cases c : g < 0
    · rw [if_pos (g0.mpr c), decide_eq_false (by omega), Bool.false_and]; rfl
    · rw [if_neg (fun z => c (g0.mp z)), decide_eq_true (by omega : 0 ≤ g), Bool.true_and]
      by_cases c2 : 4 ≤ g
      · rw [if_pos (g4.mpr c2), decide_eq_false (by omega)]; rfl
      · rw [if_neg (fun z => c2 (g4.mp z)), decide_eq_true (by omega : g ≤ 3)]; rfl
  rw [fX5_isKindWithGroup, h8]
  by_cases c1 : x = 1
  · rw [if_pos (e1.mpr c1)]; exact grp (Or.inl c1)
  rw [if_neg (fun z => c1 (e1.mp z))]
  by_cases c2 : x = 2
  · rw [if_pos (e2.mpr c2)]; exact grp (Or.inr c2)
  rw [if_neg (fun z => c2 (e2.mp z))]
  unfold kgB
  rw [if_neg (show ¬ (x = 1 ∨ x = 2) from fun z => z.elim c1 c2)]
  by_cases c4 : x = 4
  · rw [if_pos (e4.mpr c4), if_pos c4, fX5_isKindWithGroup_43, fX5_isKindWithGroup_43]
    by_cases c : g ≤ t
    · rw [if_pos (gt.mpr c), decide_eq_false (by omega)]; rfl
    · rw [if_neg (fun z => c (gt.mp z)), decide_eq_true (by omega)]; rfl
  · rw [if_neg (fun z => c4 (e4.mp z)), if_neg c4, fX5_isKindWithGroup_53, fX5_isKindWithGroup_58, fX5_isKindWithGroup_58]
    by_cases c : x = 0
    · rw [if_pos (e0.mpr c), decide_eq_true (by omega : 0 ≤ x), decide_eq_true (by omega : x ≤ 4)]; rfl
    · rw [if_neg (fun z => c (e0.mp z))]
      by_cases c5 : x = 3
      · rw [if_pos (e3.mpr c5), decide_eq_true (by omega : 0 ≤ x), decide_eq_true (by omega : x ≤ 4)]; rfl
      · rw [if_neg (fun z => c5 (e3.mp z))]
        by_cases c6 : x < 0
        · rw [decide_eq_false (by omega : ¬ 0 ≤ x), Bool.false_and]; rfl
        · rw [decide_eq_false (by omega : ¬ x ≤ 4), Bool.and_false]; rfl
theorem mwork_spec {τ : SS} {K : Kt} {N : Nat} {t a b x g y : Int} (hK : KOk K) (hR : MdRep τ K) (h10 : τ 0 10 = J t) (ht : -2147483648 ≤ t ∧ t < 2147483648) (ba : -2147483648 ≤ a ∧ a < 2147483648) (bb : -2147483648 ≤ b ∧ b < 2147483648) (hx : -2147483648 ≤ x ∧ x < 2147483648) (hg : -2147483648 ≤ g ∧ g < 2147483648) (hy : -2147483648 ≤ y ∧ y < 2147483648) : fX6_work N (J a) (J b) (J x) (J g) (J y) τ = fX6_work_91 N (J a) (J b) (J x) (J g) (J y) (bz (goodW K t a b x g y)) τ := by
  have i1 : fX6_in N (J a) 0 1000 τ = some (bz (decide (0 ≤ a) && decide (a ≤ 1000)), τ) := in_spec (lo := 0) (hi := 1000) N ba (by omega) (by omega)
  have i2 : fX6_in N (J b) 0 1000 τ = some (bz (decide (0 ≤ b) && decide (b ≤ 1000)), τ) := in_spec (lo := 0) (hi := 1000) N bb (by omega) (by omega)
  have i3 : fX6_in N (J x) 0 4 τ = some (bz (decide (0 ≤ x) && decide (x ≤ 4)), τ) := in_spec (lo := 0) (hi := 4) N hx (by omega) (by omega)
  have i4 : fX6_in N (J g) 0 3 τ = some (bz (decide (0 ≤ g) && decide (g ≤ 3)), τ) := in_spec (lo := 0) (hi := 3) N hg (by omega) (by omega)
  have e1 : J x = (1 : Int32) ↔ x = 1 := J_eq (a := x) (b := 1) hx.1 hx.2 (by omega) (by omega)
  have e2 : J x = (2 : Int32) ↔ x = 2 := J_eq (a := x) (b := 2) hx.1 hx.2 (by omega) (by omega)
  have e4 : J x = (4 : Int32) ↔ x = 4 := J_eq (a := x) (b := 4) hx.1 hx.2 (by omega) (by omega)
  have gt : J g ≤ J t ↔ g ≤ t := J_le hg.1 hg.2 ht.1 ht.2
  have bad : goodW K t a b x g y = false → fX6_work_44 N (J a) (J b) (J x) (J g) (J y) τ = fX6_work_91 N (J a) (J b) (J x) (J g) (J y) (bz (goodW K t a b x g y)) τ := by
    intro e
    rw [e, fX6_work_44, fX6_work_45, if_pos rfl, fX6_work_90]
    rfl
  rw [fX6_work, i1, cali_s]
  cases cA : (decide (0 ≤ a) && decide (a ≤ 1000)) with
  | false =>
    rw [if_pos bz_f]
    exact bad (by unfold goodW; rw [cA]; rfl)
  | true =>
    rw [if_neg (by decide), i2, cali_s]
    cases cB : (decide (0 ≤ b) && decide (b ≤ 1000)) with
    | false =>
      rw [if_pos bz_f]
      exact bad (by unfold goodW; rw [cA, cB]; rfl)
    | true =>
      rw [if_neg (by decide), i3, cali_s]
      cases cX : (decide (0 ≤ x) && decide (x ≤ 4)) with
      | false =>
        rw [if_pos bz_f]
        refine bad ?_
        have hx4 : ¬ (0 ≤ x ∧ x ≤ 4) := fun z => by
          rw [decide_eq_true z.1, decide_eq_true z.2] at cX
          cases cX
        unfold goodW kgB
        rw [if_neg (by omega), if_neg (by omega), cX, Bool.false_and, Bool.and_false]
      | true =>
        rw [if_neg (by decide), isMachine_spec N hK hR hy, cali_s]
        cases cY : (decide (0 ≤ y) && decide (y ≤ (kM K : Int) - 1)) with
        | false =>
          rw [if_pos bz_f]
          exact bad (by unfold goodW; rw [cY, Bool.and_false, Bool.and_false])
        | true =>
          have eg : goodW K t a b x g y = kgB t x g := by unfold goodW; rw [cA, cB, cY]; simp
          have h90 : kgB t x g = false → fX6_work_90 N (J a) (J b) (J x) (J g) (J y) τ = fX6_work_91 N (J a) (J b) (J x) (J g) (J y) (bz (goodW K t a b x g y)) τ := by
            intro e
            rw [eg, e, fX6_work_90]
            rfl
          have h86 : kgB t x g = true → fX6_work_86 N (J a) (J b) (J x) (J g) (J y) τ = fX6_work_91 N (J a) (J b) (J x) (J g) (J y) (bz (goodW K t a b x g y)) τ := by
            intro e
            rw [eg, e, fX6_work_86]
            rfl
          have h62 : x = 1 ∨ x = 2 → fX6_work_62 N (J a) (J b) (J x) (J g) (J y) τ = fX6_work_91 N (J a) (J b) (J x) (J g) (J y) (bz (goodW K t a b x g y)) τ := by
            intro hx12
            have ek : kgB t x g = (decide (0 ≤ g) && decide (g ≤ 3)) := by unfold kgB; rw [if_pos hx12]
            rw [fX6_work_62, i4, cali_s]
            rw [ek] at h90 h86
            cases cG : (decide (0 ≤ g) && decide (g ≤ 3)) with
            | false => rw [if_pos bz_f]; exact h90 cG
            | true =>
              rw [if_neg (by decide), fX6_work_72, if_neg (fun z => by have := e4.mp z; omega)]
              exact h86 cG
          rw [if_neg (by decide), fX6_work_45, if_neg (by decide)]
          by_cases c1 : x = 1
          · rw [if_pos (e1.mpr c1)]; exact h62 (Or.inl c1)
          rw [if_neg (fun z => c1 (e1.mp z))]
          by_cases c2 : x = 2
          · rw [if_pos (e2.mpr c2)]; exact h62 (Or.inr c2)
          rw [if_neg (fun z => c2 (e2.mp z)), fX6_work_72, h10]
          by_cases c4 : x = 4
          · have ek : kgB t x g = decide (t < g) := by unfold kgB; rw [if_neg (fun z => z.elim c1 c2), if_pos c4]
            rw [if_pos (e4.mpr c4)]
            by_cases c : g ≤ t
            · rw [if_pos (gt.mpr c)]
              exact h90 (by rw [ek]; exact decide_eq_false (by omega))
            · rw [if_neg (fun z => c (gt.mp z))]
              exact h86 (by rw [ek]; exact decide_eq_true (by omega))
          · rw [if_neg (fun z => c4 (e4.mp z))]
            refine h86 ?_
            unfold kgB
            rw [if_neg (fun z => z.elim c1 c2), if_neg c4]
            exact cX
theorem RelX.wide {k k1 : Nat} {σ τ σ1 τ1 : SS} {K : Kt} {h : Ro} {t : Int} {pl : Bool} {π : Ro} (q : RelX k σ τ K h t pl π) (hk : k ≤ k1) (s1 : ∀ x, x < 4 ∨ 10 < x → σ1 x = σ x) (s2 : ∀ x i, i < kW K → σ1 x i = σ x i) (r0 : ∀ i, τ1 0 i = τ 0 i) (r1 : ∀ x, 1 ≤ x → x < 3 ∨ 8 < x → τ1 x = τ x) (r2 : ∀ x i, 1 ≤ x → i < kW K → τ1 x i = τ x i) : RelX k1 σ1 τ1 K h t pl π := by
  obtain ⟨q1, q2, q3, q4, q5, q6, q7, ⟨t1, t2, t3, t4, t5⟩, ⟨p1, p2, p3, p4, p5⟩, q10⟩ := q
  refine ⟨q1, q2, q3.below (fun x _ _ hx => s1 x hx) (fun x i _ _ hi => s2 x i hi), q4.keep (fun x _ _ => s1 x (by omega)), ⟨by rw [r0]; exact q5.1, by rw [r0]; exact q5.2.1, fun m hm => by rw [r1 1 (by omega) (by omega), r1 2 (by omega) (by omega)]; exact q5.2.2.1 m hm, fun w hw => by rw [r2 3 w (by omega) hw, r2 4 w (by omega) hw, r2 5 w (by omega) hw, r2 6 w (by omega) hw]; exact q5.2.2.2 w hw⟩, fun w hw => by rw [r2 8 w (by omega) hw]; exact q6 w hw, fun w m hw hm => by rw [r2 7 w (by omega) hw]; exact q7 w m hw hm, ⟨by rw [s1 0 (by omega)]; exact t1, by rw [r0]; exact t2, t3, by omega, t5⟩, ⟨by rw [s1 0 (by omega), r0]; exact p1, by rw [s1 0 (by omega), r0]; exact p2, by rw [s1 0 (by omega), r0]; exact p3, by rw [s1 0 (by omega)]; exact p4, by rw [r0]; exact p5⟩, fun z => ?_⟩
  obtain ⟨z1, z2, z3⟩ := q10 z
  exact ⟨z1, fun w hw => by rw [s1 40 (by omega)]; exact z2 w hw, fun w hw => by rw [r1 11 (by omega) (by omega)]; exact z3 w hw⟩
theorem S_work_ok {N : Nat} (hN : 20 ≤ N) : S_work N Rel := by
  rintro n0 a0 a1 a2 a3 a4 σ τ hk ⟨K, h, t, pl, π, q⟩
  obtain ⟨q1, q2, q3, q4, q5, q6, q7, ⟨t1, t2, t3, t4, t5⟩, ⟨p1, p2, p3, p4, p5⟩, q10⟩ := id q
  have hW := q1.2.1
  have hM := q1.1
  obtain ⟨a, rfl, ba⟩ := J_ex a0
  obtain ⟨b, rfl, bb⟩ := J_ex a1
  obtain ⟨x, rfl, bx⟩ := J_ex a2
  obtain ⟨g, rfl, bg⟩ := J_ex a3
  obtain ⟨y, rfl, by'⟩ := J_ex a4
  rw [mwork_spec q1 q5 t2 (by omega) ba bb bx bg by', fX5_work, isAmount_spec N ba, cali_s, fX6_work_91]
  have bad' : goodW K t a b x g y = false → ∀ z : Option (Int32 × SS), ∃ v σ1 τ1, fX5_work_36 N σ = some (v, σ1) ∧ (if bz (goodW K t a b x g y) = 0 then (some ((-2 : Int32), τ)) else z) = some (v, τ1) ∧ Rel (n0 + 1) σ1 τ1 := by
    intro e z
    rw [e, if_pos bz_f]
    exact ⟨-2, σ, τ, rfl, rfl, K, h, t, pl, π, q.up⟩
  cases cA : (decide (0 ≤ a) && decide (a ≤ 1000)) with
  | false =>
    rw [if_pos bz_f]
    exact bad' (by unfold goodW; rw [cA]; rfl) _
  | true =>
  rw [if_neg (by decide), isAmount_spec N bb, cali_s]
  cases cB : (decide (0 ≤ b) && decide (b ≤ 1000)) with
  | false =>
    rw [if_pos bz_f]
    exact bad' (by unfold goodW; rw [cA, cB]; rfl) _
  | true =>
  rw [if_neg (by decide), isKind_spec N t1 (by omega) bx bg, cali_s]
  cases cX : kgB t x g with
  | false =>
    rw [if_pos bz_f]
    exact bad' (by unfold goodW; rw [cX, Bool.false_and, Bool.and_false]) _
  | true =>
  rw [if_neg (by decide), hasMachine_spec N q1 q3 by', cali_s]
  cases cY : (decide (0 ≤ y) && decide (y ≤ (kM K : Int) - 1)) with
  | false =>
    rw [if_pos bz_f]
    exact bad' (by unfold goodW; rw [cY, Bool.and_false, Bool.and_false]) _
  | true =>
  have eg : goodW K t a b x g y = true := by unfold goodW; rw [cA, cB, cX, cY]; rfl
  rw [if_neg (by decide), eg, if_neg (show ¬ bz true = 0 by decide), q5.2.1]
  simp only [Bool.and_eq_true, decide_eq_true_eq] at cA cB cY
  -- kind, group, machine
  obtain ⟨k, rfl⟩ : ∃ k : Nat, x = (k : Int) := ⟨x.toNat, by
    unfold kgB at cX
    by_cases c : x = 1 ∨ x = 2
    · omega
    · rw [if_neg c] at cX
      by_cases c4 : x = 4
      · omega
      · rw [if_neg c4] at cX
        simp only [Bool.and_eq_true, decide_eq_true_eq] at cX
        omega⟩
  obtain ⟨m, rfl⟩ : ∃ m : Nat, y = (m : Int) := ⟨y.toNat, by omega⟩
  have hm : m < kM K := by omega
  have hk4 : k ≤ 4 := by
    unfold kgB at cX
    by_cases c : (k : Int) = 1 ∨ (k : Int) = 2
    · omega
    · rw [if_neg c] at cX
      by_cases c4 : (k : Int) = 4
      · omega
      · rw [if_neg c4] at cX
        simp only [Bool.and_eq_true, decide_eq_true_eq] at cX
        omega
  have hg2 : k = 1 ∨ k = 2 → 0 ≤ g ∧ g < 4 := by
    intro c
    unfold kgB at cX
    rw [if_pos (by omega)] at cX
    simp only [Bool.and_eq_true, decide_eq_true_eq] at cX
    omega
  have hg4 : k = 4 → t < g := by
    intro c
    unfold kgB at cX
    rw [if_neg (by omega), if_pos (by omega)] at cX
    simpa using cX
  obtain ⟨σ1, d1, d2, d3, d4⟩ := describe_spec (a := a) (b := b) (g := g) hN q1 q3 hk4 hg2
  have hS1 : StRep σ1 K := q3.below (fun x _ _ hx => d3 x hx) (fun x i _ _ hi => d4 x i hi)
  have hR1 : RowRep σ1 13 K h := q4.keep (fun x _ _ => d3 x (by omega))
  have hbl := blk_le (addW K a b k g) (kW K)
  have d2' := d2
  obtain ⟨n4, n5, n6, n7, n7', n8, n9, n10⟩ := d2'
  rw [d1, cali_s, takes_spec (ld := blk (addW K a b k g) (kW K)) N (by omega : 13 ≤ 13) q1 hS1 hR1 q2.1 (by omega) hm (by omega) n4 n5 n8 n10 cA cB (fun z => hg2 (Or.inl z)), cali_s]
  have c8 : J (kW K : Int) = (8 : Int32) ↔ (kW K : Int) = 8 := J_eq (a := (kW K : Int)) (b := 8) (by omega) (by omega) (by omega) (by omega)
  have c8' : J (kW K : Int) < (8 : Int32) ↔ (kW K : Int) < 8 := J_lt (a := (kW K : Int)) (b := 8) (by omega) (by omega) (by omega) (by omega)
  have e11 : σ1 1 1 = J (kW K : Int) := by rw [d3 1 (by omega)]; exact q3.2.1
  by_cases c : kW K = 8
  · rw [if_pos (c8.mpr (by omega)), fitsNinth_spec hN q1 q2.1 q5 q6 q7 hm cA cB hk4 bg, cali_s, nin_tk q2 hg2 hW, fX6_work_131, fX6_work_131]
    have r1 : Rel (n0 + 1) σ1 τ := ⟨K, h, t, pl, π, q.wide (by omega) d3 d4 (fun _ => rfl) (fun _ _ _ => rfl) (fun _ _ _ _ => rfl)⟩
    cases tk K h (kW K) m a b k g (blk (addW K a b k g) (kW K)) with
    | false =>
      rw [if_pos bz_f, if_pos bz_f]
      exact ⟨-3, σ1, τ, rfl, rfl, r1⟩
    | true =>
      rw [if_neg (show ¬ bz true = (0 : Int32) by decide), if_neg (show ¬ bz true = (0 : Int32) by decide), e11, if_neg (show ¬ J (kW K : Int) < (8 : Int32) from fun z => by have := c8'.mp z; omega)]
      exact ⟨-4, σ1, τ, rfl, rfl, r1⟩
  · rw [if_neg (show ¬ J (kW K : Int) = (8 : Int32) from fun z => c (by have := c8.mp z; omega))]
    have hK1 : KOk (addW K a b k g) := aw_K q1 (by omega) cA cB hk4 bg hg2
    simp (disch := omega) only [ck_J, J_nn, sg, stp_s, stp_n, q5.2.1]
    generalize hτ8 : stp (stp (stp (stp (stp (stp (stp τ 3 (upd (τ 3) (kW K) (J a))) 4 (upd (τ 4) (kW K) (J b))) 5 (upd (τ 5) (kW K) (J (k : Int)))) 6 (upd (τ 6) (kW K) (J g))) 7 (upd (τ 7) (kW K) (J (m : Int)))) 8 (upd (τ 8) (kW K) (0 &&& 1))) 0 (upd (τ 0) 3 (J (kW K : Int) + 1)) = τ8
    have u0 : ∀ i, i ≠ 3 → τ8 0 i = τ 0 i := fun i hi => by rw [← hτ8, stp_s, upd_n hi]
    have u3 : τ8 0 3 = J (kW K : Int) + 1 := by rw [← hτ8, stp_s, upd_s]
    have u1 : ∀ x, 1 ≤ x → x < 3 ∨ 8 < x → τ8 x = τ x := fun x h1 h2 => by rw [← hτ8]; simp (disch := omega) only [stp_n]
    have u2 : ∀ x i, 1 ≤ x → i < kW K → τ8 x i = τ x i := by
      intro x i h1 hi
      by_cases x3 : x = 3
      · subst x3; rw [← hτ8]; simp (disch := omega) only [stp_s, stp_n, upd_n]
      by_cases x4 : x = 4
      · subst x4; rw [← hτ8]; simp (disch := omega) only [stp_s, stp_n, upd_n]
      by_cases x5 : x = 5
      · subst x5; rw [← hτ8]; simp (disch := omega) only [stp_s, stp_n, upd_n]
      by_cases x6 : x = 6
      · subst x6; rw [← hτ8]; simp (disch := omega) only [stp_s, stp_n, upd_n]
      by_cases x7 : x = 7
      · subst x7; rw [← hτ8]; simp (disch := omega) only [stp_s, stp_n, upd_n]
      by_cases x8 : x = 8
      · subst x8; rw [← hτ8]; simp (disch := omega) only [stp_s, stp_n, upd_n]
      rw [u1 x h1 (by omega)]
    have w3 : τ8 3 (kW K) = J a := by rw [← hτ8]; simp (disch := omega) only [stp_s, stp_n, upd_s]
    have w4 : τ8 4 (kW K) = J b := by rw [← hτ8]; simp (disch := omega) only [stp_s, stp_n, upd_s]
    have w5 : τ8 5 (kW K) = J (k : Int) := by rw [← hτ8]; simp (disch := omega) only [stp_s, stp_n, upd_s]
    have w6 : τ8 6 (kW K) = J g := by rw [← hτ8]; simp (disch := omega) only [stp_s, stp_n, upd_s]
    have w7 : τ8 7 (kW K) = J (m : Int) := by rw [← hτ8]; simp (disch := omega) only [stp_s, stp_n, upd_s]
    have w8 : τ8 8 (kW K) = 0 := by rw [← hτ8]; simp (disch := omega) only [stp_s, stp_n, upd_s]; rfl
    have hR8 : MdRep τ8 (addW K a b k g) := by
      refine ⟨by rw [u0 0 (by omega)]; exact q5.1, by rw [u3, J1, J_add]; rfl, fun x hx => by rw [u1 1 (by omega) (by omega), u1 2 (by omega) (by omega)]; exact q5.2.2.1 x hx, fun w hw => ?_⟩
      have hw2 : w < kW K + 1 := hw
      by_cases cw : w = kW K
      · subst cw
        obtain ⟨i1, i2, i3, i4⟩ := aw_new (K := K) (a := a) (b := b) (k := k) (g := g)
        rw [i1, i2, i3, i4]
        exact ⟨w3, w4, w5, w6⟩
      · obtain ⟨i1, i2, i3, i4⟩ := aw_old (K := K) (a := a) (b := b) (k := k) (g := g) cw
        rw [i1, i2, i3, i4, u2 3 w (by omega) (by omega), u2 4 w (by omega) (by omega), u2 5 w (by omega) (by omega), u2 6 w (by omega) (by omega)]
        exact q5.2.2.2 w (by omega)
    have hO8 : MdOv τ8 (addW K a b k g) (ovf (rset h (kW K) (some m))) := by
      intro w hw
      have hw2 : w < kW K + 1 := hw
      by_cases cw : w = kW K
      · subst cw
        rw [w8]
        unfold ovf
        rw [rset_self]
        rfl
      · rw [u2 8 w (by omega) (by omega), q6 w (by omega)]
        unfold ovf rset
        rw [if_neg cw]
    have hA8 : MdAt τ8 (addW K a b k g) 7 (rset h (kW K) (some m)) := by
      intro w z hw hz
      have hw2 : w < kW K + 1 := hw
      by_cases cw : w = kW K
      · subst cw
        rw [rset_self] at hz
        cases hz
        exact w7
      · unfold rset at hz
        rw [if_neg cw] at hz
        rw [u2 7 w (by omega) (by omega)]
        exact q7 w z (by omega) hz
    have hro : RoOk (addW K a b k g) (rset h (kW K) (some m)) := rset_ok (aw_ro q2.1) (Nat.lt_succ_self (kW K)) hm
    have hrt := isRight_spec (h := rset h (kW K) (some m)) hN hK1 hro hR8 hO8 hA8
    have hrt' : fX6_isRight N τ8 = some (bz (tk K h (kW K) m a b k g (blk (addW K a b k g) (kW K))), τ8) := by
      rw [hrt]
      show some (bz (capB (addW K a b k g) (rset h (kW K) (some m)) (kM K) && prB (addW K a b k g) (rset h (kW K) (some m)) (kW K + 1)), τ8) = _
      rw [rgt_new hK1 q2 hm]
    rw [hrt', cali_s]
    cases htk : tk K h (kW K) m a b k g (blk (addW K a b k g) (kW K)) with
    | false =>
      rw [if_pos bz_f, if_pos bz_f]
      refine ⟨-3, σ1, _, rfl, rfl, K, h, t, pl, π, q.wide (by omega) d3 d4 (fun i => ?_) (fun x h1 h2 => ?_) (fun x i h1 hi => ?_)⟩
      · by_cases ci : i = 3
        · subst ci
          rw [stp_s, upd_s, u3, J1, J_add, J_sub, q5.2.1]
          congr 1
          omega
        · rw [stp_s, upd_n ci, u0 i ci]
      · rw [stp_n (by omega), u1 x h1 h2]
      · rw [stp_n (by omega), u2 x i h1 hi]
    | true =>
      obtain ⟨σ2, s1, s2, s3⟩ := addNewcomer_spec N (by omega) hS1 d2
      have hR2 : RowRep (stp σ2 14 (upd (σ2 14) (kW K) (-1))) 13 (addW K a b k g) h := aw_row q2.1 (hR1.keep (fun x _ _ => s3 x (by omega) (by omega) (by omega)))
      have s2' : StRep (stp σ2 14 (upd (σ2 14) (kW K) (-1))) (addW K a b k g) := s2.keep (fun x _ _ => stp_n (by omega))
      obtain ⟨σ3, f1, f2, f3⟩ := put_spec (w := kW K) (m := m) N (by omega : 13 ≤ 13) hK1 s2' hR2 (Nat.lt_succ_self (kW K)) (by omega) (aw_none q2.1)
      have f1 : fX1_put N 13 (J (kW K : Int)) (J (m : Int)) σ2 = some σ3 := by rw [← f1, put_over N (by omega)]
      have f3 : ∀ x, (x < 13 ∨ 18 < x) → σ3 x = σ2 x := fun x hx => by rw [f3 x (by omega), stp_n (by omega)]
      rw [if_neg (show ¬ bz true = (0 : Int32) by decide), if_neg (show ¬ bz true = (0 : Int32) by decide), e11, if_pos (c8'.mpr (by omega)), s1, calv_s, f1, calv_s]
      have g0 : σ3 0 = σ 0 := by rw [f3 0 (by omega), s3 0 (by omega) (by omega) (by omega), d3 0 (by omega)]
      refine ⟨J (kW K : Int), stp σ3 0 (upd (σ3 0) 6 0), stp τ8 0 (upd (τ8 0) 21 0), rfl, ?_, addW K a b k g, rset h (kW K) (some m), t, false, π, hK1, aw_H hK1 q2 hm htk, s2.keep (fun x h1 h2 => by rw [stp_n (by omega), f3 x (by omega)]), f2.keep (fun x h1 h2 => stp_n (by omega)), hR8.keep (by rw [stp_s, upd_n (by omega)]) (by rw [stp_s, upd_n (by omega)]) (fun x h1 h2 => stp_n (by omega)), fun w hw => by rw [stp_n (by omega)]; exact hO8 w hw, fun w z hw hz => by rw [stp_n (by omega)]; exact hA8 w z hw hz, ⟨by rw [stp_s, upd_n (by omega), g0]; exact t1, by rw [stp_s, upd_n (by omega), u0 10 (by omega)]; exact t2, t3, by omega, fun w hw h4 => ?_⟩, ⟨by rw [stp_s, upd_n (by omega), g0, stp_s, upd_n (by omega), u0 11 (by omega)]; exact p1, by rw [stp_s, upd_n (by omega), g0, stp_s, upd_n (by omega), u0 12 (by omega)]; exact p2, by rw [stp_s, upd_n (by omega), g0, stp_s, upd_n (by omega), u0 13 (by omega)]; exact p3, by rw [stp_s, upd_s]; rfl, by rw [stp_s, upd_s]; rfl⟩, fun z => by cases z⟩
      · rw [upd_n (by omega), u3, J1, J_add, J_sub]
        congr 3
        omega
      · by_cases cw : w = kW K
        · subst cw
          rw [aw_new.2.2.1] at h4
          rw [aw_new.2.2.2]
          exact hg4 h4
        · rw [(aw_old cw).2.2.1] at h4
          rw [(aw_old cw).2.2.2]
          unfold rset at hw
          rw [if_neg cw] at hw
          exact t5 w hw h4
