theorem wv_m1 {wt : Ro → Int} {o : Option Ro} (hb : ∀ b, 0 ≤ wt b ∧ wt b ≤ 8) : wv wt o = -1 ↔ o = none := by
  cases o with
  | none => exact ⟨fun _ => rfl, fun _ => rfl⟩
  | some b =>
    have := hb b
    refine ⟨fun z => ?_, fun z => by cases z⟩
    have e := J_eq (a := wt b) (b := -1) (by omega) (by omega) (by omega) (by omega)
    have := e.mp z
    omega
theorem planLoop {τ : SS} {K : Kt} {o : Nat → Bool} {π : Ro} {N : Nat} {v : Int32} (hK : KOk K) (hπ : ∀ w, w < kW K → (o w = true → π w = none) ∧ (o w = false → ∃ m, π w = some m)) : ∀ (d j n : Nat) (τ0 : SS), j + d = kW K → d < n → τ0 0 3 = J (kW K) → τ0 0 16 = v → (∀ w, w < kW K → τ0 8 w = bz (o w)) → (∀ w m, π w = some m → τ0 10 w = J (m : Int)) → (∀ w, w < j → τ0 11 w = rv (π w)) → ∃ τ1, lp (fX6_plan_143 N) (fun _ _ => none) n (J j) τ0 = some (v, τ1) ∧ (∀ w, w < kW K → τ1 11 w = rv (π w)) ∧ (∀ k, k ≠ 11 → τ1 k = τ0 k) := by
  have hW := hK.2.1
  intro d
  induction d with
  | zero =>
    intro j n τ0 hj hn h3 h16 h8 h10 h11
    obtain ⟨n, rfl⟩ : ∃ n', n = n' + 1 := ⟨n - 1, by omega⟩
    rw [lp_succ, fX6_plan_143, h3, if_pos ((J_le (by omega) (by omega) (by omega) (by omega)).mpr (by omega)), h16]
    exact ⟨τ0, rfl, fun w hw => h11 w (by omega), fun _ _ => rfl⟩
  | succ d ih =>
    intro j n τ0 hj hn h3 h16 h8 h10 h11
    obtain ⟨n, rfl⟩ : ∃ n', n = n' + 1 := ⟨n - 1, by omega⟩
    have step : ∀ x, x = rv (π j) → ∃ τ1, fX6_plan_179 N (lp (fX6_plan_143 N) (fun _ _ => none) n) (J j) x (J j) τ0 = some (v, τ1) ∧ (∀ w, w < kW K → τ1 11 w = rv (π w)) ∧ (∀ k, k ≠ 11 → τ1 k = τ0 k) := by
      intro x hx
      rw [fX6_plan_179, ck_J (by omega) (by omega) (by omega), J_nn (by omega), sg, J1, J_add]
      obtain ⟨τ1, e1, e2, e3⟩ := ih (j + 1) n (stp τ0 11 (upd (τ0 11) j x)) (by omega) (by omega) (by rw [stp_n (by omega)]; exact h3) (by rw [stp_n (by omega)]; exact h16) (fun w hw => by rw [stp_n (by omega)]; exact h8 w hw) (fun w m hw => by rw [stp_n (by omega)]; exact h10 w m hw) (fun w hw => by
        by_cases e : w = j
        · subst e; rw [stp_s, upd_s]; exact hx
        · rw [stp_s, upd_n e]; exact h11 w (by omega))
      exact ⟨τ1, e1, e2, fun k hk => by rw [e3 k hk, stp_n hk]⟩
    rw [lp_succ, fX6_plan_143, h3, if_neg (fun q => by have := (J_le (by omega) (by omega) (by omega) (by omega)).mp q; omega), ck_J (by omega) (by omega) (by omega), J_nn (by omega), h8 j (by omega)]
    obtain ⟨p1, p2⟩ := hπ j (by omega)
    cases co : o j with
    | true =>
      rw [if_neg (by decide)]
      exact step _ (by rw [p1 co]; rfl)
    | false =>
      obtain ⟨m, hm⟩ := p2 co
      rw [if_pos (by rfl), ck_J (by omega) (by omega) (by omega)]
      exact step _ (by rw [h10 j m hm, hm]; rfl)
theorem S_plan_ok {N : Nat} (hN : 1000000 ≤ N) : S_plan N Rel := by
  rintro k a0 a1 a2 a3 σ τ hk ⟨K, h, t, pl, π, q⟩
  obtain ⟨x0, rfl, b0⟩ := J_ex a0
  obtain ⟨x1, rfl, b1⟩ := J_ex a1
  obtain ⟨x2, rfl, b2⟩ := J_ex a2
  obtain ⟨x3, rfl, b3⟩ := J_ex a3
  obtain ⟨q1, q2, q3, q4, q5, q6, q7, ⟨t1, t2, t3, t4, t5⟩, ⟨p1, p2, p3, p4, p5⟩, -⟩ := id q
  have hM := q1.1
  -- no plan to begin with
  generalize hσ1 : stp σ 0 (upd (σ 0) 6 0) = σ1
  generalize hτ1 : stp τ 0 (upd (τ 0) 21 0) = τ1
  have ks1 : ∀ x, x ≠ 0 → σ1 x = σ x := fun x hx => by rw [← hσ1, stp_n hx]
  have kt1 : ∀ x, x ≠ 0 → τ1 x = τ x := fun x hx => by rw [← hτ1, stp_n hx]
  have fs1 : ∀ i, i ≠ 6 → σ1 0 i = σ 0 i := fun i hi => by rw [← hσ1, stp_s, upd_n hi]
  have ft1 : ∀ i, i ≠ 21 → τ1 0 i = τ 0 i := fun i hi => by rw [← hτ1, stp_s, upd_n hi]
  have r1 : RelX (k + 1) σ1 τ1 K h t false π := by
    refine ⟨q1, q2, q3.keep (fun x _ _ => ks1 x (by omega)), q4.keep (fun x _ _ => ks1 x (by omega)), q5.keep (ft1 0 (by omega)) (ft1 3 (by omega)) (fun x _ _ => kt1 x (by omega)), fun w hw => by rw [kt1 8 (by omega)]; exact q6 w hw, fun w m hw hm => by rw [kt1 7 (by omega)]; exact q7 w m hw hm, ⟨by rw [fs1 8 (by omega)]; exact t1, by rw [ft1 10 (by omega)]; exact t2, t3, by omega, t5⟩, ⟨by rw [fs1 7 (by omega), ft1 11 (by omega)]; exact p1, by rw [fs1 10 (by omega), ft1 12 (by omega)]; exact p2, by rw [fs1 9 (by omega), ft1 13 (by omega)]; exact p3, by rw [← hσ1, stp_s, upd_s]; rfl, by rw [← hτ1, stp_s, upd_s]; rfl⟩, fun z => by cases z⟩
  rw [fX5_plan, sg, hσ1, isGoal_spec q1 r1.2.2.1 b0 b1 b2 b3, cali_s, fX6_plan, sg, hτ1, mgoal_spec q1 r1.2.2.2.2.1 b0 b1 b2 b3, fX6_plan_84]
  cases hgb : goalB K x0 x1 x2 x3 with
  | false =>
    rw [if_pos (by rfl), if_pos (by rfl)]
    exact ⟨-2, σ1, τ1, rfl, rfl, K, h, t, false, π, r1⟩
  | true =>
    rw [if_neg (by decide), if_neg (by decide)]
    -- the goal
    obtain ⟨g, hg, eg0, eg1, eg2, eg3⟩ : ∃ g : Gl, GlOk K g ∧ x0 = (g.1 : Int) ∧ (g.1 = 0 ∨ g.1 = 1 → x1 = (g.2.1 : Int)) ∧ (g.1 = 1 ∨ g.1 = 2 → x2 = g.2.2.1) ∧ (g.1 = 1 → x3 = g.2.2.2) := by
      unfold goalB at hgb
      by_cases c0 : x0 = 0
      · rw [if_pos c0] at hgb
        simp only [Bool.and_eq_true, decide_eq_true_eq] at hgb
        exact ⟨(0, x1.toNat, x2, x3), ⟨(show (0 : Nat) ≤ 3 from by decide), fun _ => by show x1.toNat < kM K; omega, fun z => absurd z (by simp), fun z => absurd z (by simp)⟩, by rw [c0]; rfl, fun _ => by show x1 = (x1.toNat : Int); omega, fun z => absurd z (by simp), fun z => absurd z (by simp)⟩
      · rw [if_neg c0] at hgb
        by_cases c1 : x0 = 1
        · rw [if_pos c1] at hgb
          simp only [Bool.and_eq_true, decide_eq_true_eq] at hgb
          exact ⟨(1, x1.toNat, x2, x3), ⟨(show (1 : Nat) ≤ 3 from by decide), fun _ => by show x1.toNat < kM K; omega, fun _ => ⟨hgb.2.1.1, hgb.2.1.2, hgb.2.2.1, hgb.2.2.2⟩, fun z => absurd z (by simp)⟩, by rw [c1]; rfl, fun _ => by show x1 = (x1.toNat : Int); omega, fun _ => rfl, fun _ => rfl⟩
        · rw [if_neg c1] at hgb
          by_cases c2 : x0 = 2
          · rw [if_pos c2] at hgb
            simp only [Bool.and_eq_true, decide_eq_true_eq] at hgb
            exact ⟨(2, 0, x2, x3), ⟨(show (2 : Nat) ≤ 3 from by decide), fun z => absurd z (by simp), fun z => absurd z (by simp), fun _ => hgb⟩, by rw [c2]; rfl, fun z => absurd z (by simp), fun _ => rfl, fun z => absurd z (by simp)⟩
          · rw [if_neg c2] at hgb
            cases hgb
    have hg3 : g.1 ≠ 3 := by
      intro z
      unfold goalB at hgb
      rw [eg0, z, if_neg (by decide), if_neg (by decide), if_neg (by decide)] at hgb
      cases hgb
    obtain ⟨σ2, a1, a2, a3, a4, a5, a6⟩ := aim_spec (σ := σ1) N (J x0) (J x1) (J x2) (J x3)
    obtain ⟨σ3, c1, c2, c3⟩ := run_spec (σ := σ2) (g := g) (t := t) (h := h) (N := N) (by omega) q1 (r1.2.2.1.keep (fun x _ _ => a6 x (by omega))) (r1.2.2.2.1.keep (fun x _ _ => a6 x (by omega))) q2.1 hg (by omega) (by rw [a2, eg0]) (fun z => by rw [a3, eg1 z]) (fun z => by rw [a4, eg2 z]) (fun z => by rw [a5, eg3 z])
    rw [srch_eq (o := ovf h) (lvC_ovf t5)] at c2
    have e8 : σ2 0 8 = J t := by rw [a6 0 (by omega), fs1 8 (by omega)]; exact t1
    rw [a1, calv_s, e8, c1, calv_s, sg]
    simp only [sg]
    generalize hτ2 : stp (stp (stp (stp τ1 0 (upd (τ1 0) 17 (J x0))) 0 (upd (stp τ1 0 (upd (τ1 0) 17 (J x0)) 0) 18 (J x1))) 0 (upd (stp (stp τ1 0 (upd (τ1 0) 17 (J x0))) 0 (upd (stp τ1 0 (upd (τ1 0) 17 (J x0)) 0) 18 (J x1)) 0) 19 (J x2))) 0 (upd (stp (stp (stp τ1 0 (upd (τ1 0) 17 (J x0))) 0 (upd (stp τ1 0 (upd (τ1 0) 17 (J x0)) 0) 18 (J x1))) 0 (upd (stp (stp τ1 0 (upd (τ1 0) 17 (J x0))) 0 (upd (stp τ1 0 (upd (τ1 0) 17 (J x0)) 0) 18 (J x1)) 0) 19 (J x2)) 0) 20 (J x3)) = τ2
    have kt2 : ∀ x, x ≠ 0 → τ2 x = τ1 x := fun x hx => by rw [← hτ2]; simp (disch := omega) only [stp_n]
    have ft2 : ∀ i, i ≠ 17 → i ≠ 18 → i ≠ 19 → i ≠ 20 → τ2 0 i = τ1 0 i := fun i h1 h2 h3 h4 => by rw [← hτ2]; simp (disch := omega) only [stp_s, upd_n]
    have hG : GlM τ2 g := by
      refine ⟨?_, fun z => ?_, fun z => ?_, fun z => ?_⟩
      · rw [← hτ2]; simp (disch := omega) only [stp_s, upd_n, upd_s]; rw [eg0]
      · rw [← hτ2]; simp (disch := omega) only [stp_s, upd_n, upd_s]; rw [eg1 z]
      · rw [← hτ2]; simp (disch := omega) only [stp_s, upd_n, upd_s]; rw [eg2 z]
      · rw [← hτ2]; simp (disch := omega) only [stp_s, upd_n, upd_s]; rw [eg3 z]
    obtain ⟨τ3, d1, d2, d3⟩ := search_spec (τ := τ2) (g := g) (h := h) hN q1 q2.ov q2.1 ovf_live hg (r1.2.2.2.2.1.keep (ft2 0 (by omega) (by omega) (by omega) (by omega)) (ft2 3 (by omega) (by omega) (by omega) (by omega)) (fun x _ _ => kt2 x (by omega))) (fun w hw => by rw [kt2 8 (by omega), kt1 8 (by omega)]; exact q6 w hw) (fun w m hw hm => by rw [kt2 7 (by omega), kt1 7 (by omega)]; exact q7 w m hw hm) hG
    have hleaf := srchM_leaf (K := K) (o := ovf h) (h := h) (g := g) q1 q2.ov
    have hwt : wtOf K h g = mvs K h := by unfold wtOf; rw [if_neg hg3]
    unfold AcM at d2
    rw [hwt] at d2
    rw [d1, cali_s]
    have hk0 : Keep 19 26 σ1 σ3 := (a6.mono (by omega) (by omega)).trans c3
    generalize srchM K (ovf h) h g = A at c2 d1 d2 hleaf
    generalize hσ4 : stp σ3 0 (upd (σ3 0) 9 (σ3 19 4)) = σ4
    have ks4 : ∀ x, x ≠ 0 → σ4 x = σ3 x := fun x hx => by rw [← hσ4, stp_n hx]
    have fs4 : ∀ i, i ≠ 9 → σ4 0 i = σ3 0 i := fun i hi => by rw [← hσ4, stp_s, upd_n hi]
    have r4 : RelX (k + 1) σ4 τ3 K h t false π := by
      refine r1.keep (by omega) (fun x x1 x2 => by rw [ks4 x (by omega), hk0 x (by omega)]) (fun z => by cases z) (fun i i1 i2 => by rw [fs4 i i1, hk0 0 (by omega)]) (fun x x1 x2 => by rw [d3.1 x (by omega) (by omega) (by omega), kt2 x (by omega)]) (fun z => by cases z) (fun i hi => by rw [d3.2 i (by omega) (by omega), ft2 i (by omega) (by omega) (by omega) (by omega)]) ?_ ?_
      · rw [fs4 7 (by omega), hk0 0 (by omega), d3.2 11 (by omega) (by omega), ft2 11 (by omega) (by omega) (by omega) (by omega), fs1 7 (by omega), ft1 11 (by omega)]; exact p1
      · rw [← hσ4, stp_s, upd_s, c2.1, d2.1]
    rw [ks4 19 (by omega), c2.2.1]
    cases hsp : A.2.1 with
    | true =>
      rw [if_neg (by decide), if_pos (by rfl)]
      exact ⟨-5, σ4, τ3, rfl, rfl, K, h, t, false, π, r4⟩
    | false =>
      rw [if_pos (by rfl), if_neg (show ¬ bz (!false) = 0 by decide), c2.2.2.2.1, d2.2.2.1]
      have hm1 := wv_m1 (wt := mvs K h) (o := bestOf (mvs K h) A.2.2) (fun b => mvs_bd)
      cases hb : bestOf (mvs K h) A.2.2 with
      | none =>
        rw [if_pos (by rfl), if_pos (by rfl)]
        exact ⟨-1, σ4, τ3, rfl, rfl, K, h, t, false, π, r4⟩
      | some ρ =>
        rw [hb] at hm1
        rw [if_neg (fun z => by have := hm1.mp z; cases this), if_neg (fun z => by have := hm1.mp z; cases this)]
        have hρ := plan_of_PR q2.1 (hleaf ρ (bestOf_mem hb))
        generalize hσ6 : stp (stp σ4 40 (va_cpy (σ4 20) (σ4 40) 0 0 8)) 0 (upd (stp σ4 40 (va_cpy (σ4 20) (σ4 40) 0 0 8) 0) 6 1) = σ6
        generalize hτ4 : stp τ3 0 (upd (τ3 0) 21 1) = τ4
        have kt4 : ∀ x, x ≠ 0 → τ4 x = τ3 x := fun x hx => by rw [← hτ4, stp_n hx]
        have ft4 : ∀ i, i ≠ 21 → τ4 0 i = τ3 0 i := fun i hi => by rw [← hτ4, stp_s, upd_n hi]
        have r5 := r4.2.2.2.2
        obtain ⟨τ5, l1, l2, l3⟩ := planLoop (τ := τ4) (o := ovf h) (π := ρ) (N := N) (v := wv (mvs K h) (some ρ)) q1 (fun w hw => by
          have := hρ.2.2.2.2.1 w
          unfold ovf
          cases hh : h w with
          | none =>
            rw [hh] at this
            refine ⟨fun _ => ?_, fun z => (by cases z)⟩
            cases hr : ρ w with
            | none => rfl
            | some m => rw [hr] at this; have := this.mp rfl; cases this
          | some y =>
            rw [hh] at this
            refine ⟨fun z => (by cases z), fun _ => ?_⟩
            have := this.mpr rfl
            cases hr : ρ w with
            | none => rw [hr] at this; cases this
            | some m => exact ⟨m, rfl⟩) (kW K) 0 N τ4 (by omega) (by have := q1.2.1; omega) (by rw [ft4 3 (by omega)]; exact r5.1.2.1) (by rw [ft4 16 (by omega), d2.2.2.1, hb]) (fun w hw => by rw [kt4 8 (by omega)]; exact r5.2.1 w hw) (fun w m hw => by rw [kt4 10 (by omega)]; exact d2.2.2.2 ρ hb w m hw) (fun w hw => absurd hw (by omega))
        have l1' : lp (fX6_plan_143 N) (fun _ _ => none) N 0 τ4 = some (wv (mvs K h) (some ρ), τ5) := l1
        rw [l1']
        refine ⟨wv (mvs K h) (some ρ), σ6, τ5, ?_, rfl, K, h, t, true, ρ, ?_⟩
        · have : σ6 19 6 = wv (mvs K h) (some ρ) := by
            rw [← hσ6]; simp (disch := omega) only [stp_n]; rw [ks4 19 (by omega), c2.2.2.2.1, hb]
          rw [this]
        · obtain ⟨z1, z2, z3, z4, z5, z6, z7, ⟨y1, y2, y3, y4, y5⟩, ⟨w1, w2, w3, w4, w5⟩, -⟩ := r4
          have ks6 : ∀ x, x ≠ 0 → x ≠ 40 → σ6 x = σ4 x := fun x h1 h2 => by rw [← hσ6]; simp (disch := omega) only [stp_n]
          have fs6 : ∀ i, i ≠ 6 → σ6 0 i = σ4 0 i := fun i hi => by rw [← hσ6]; simp (disch := omega) only [stp_s, stp_n, upd_n]
          refine ⟨z1, z2, z3.keep (fun x _ _ => ks6 x (by omega) (by omega)), z4.keep (fun x _ _ => ks6 x (by omega) (by omega)), z5.keep (by rw [l3 0 (by omega), ft4 0 (by omega)]) (by rw [l3 0 (by omega), ft4 3 (by omega)]) (fun x _ _ => by rw [l3 x (by omega), kt4 x (by omega)]), fun w hw => by rw [l3 8 (by omega), kt4 8 (by omega)]; exact z6 w hw, fun w m hw hm => by rw [l3 7 (by omega), kt4 7 (by omega)]; exact z7 w m hw hm, ⟨by rw [fs6 8 (by omega)]; exact y1, by rw [l3 0 (by omega), ft4 10 (by omega)]; exact y2, y3, y4, y5⟩, ⟨by rw [fs6 7 (by omega), l3 0 (by omega), ft4 11 (by omega)]; exact w1, by rw [fs6 10 (by omega), l3 0 (by omega), ft4 12 (by omega)]; exact w2, by rw [fs6 9 (by omega), l3 0 (by omega), ft4 13 (by omega)]; exact w3, by rw [← hσ6, stp_s, upd_s]; rfl, by rw [l3 0 (by omega), ← hτ4, stp_s, upd_s]; rfl⟩, fun _ => ⟨hρ, fun w hw => ?_, fun w hw => l2 w hw⟩⟩
          rw [← hσ6]
          simp (disch := omega) only [stp_s, stp_n, cpy_in]
          rw [ks4 20 (by omega)]
          exact c2.2.2.2.2.2 ρ hb w hw
