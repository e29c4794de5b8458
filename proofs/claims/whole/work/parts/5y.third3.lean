theorem canByThird_spec {τ : SS} {K : Kt} {h π : Ro} {b m kb N : Nat} (hN : 300 ≤ N) (hK : KOk K) (hH : HOk K h) (hP : PlanOk K h π) (hB : MB τ K h π) (hkb : kb < mN K h π) (eb : mB K h π kb = b) (hm : m < kM K) (hbm : h b ≠ some m) (hpm : π b ≠ some m) : ∃ τ1, fX6_canByThird N (J (kb : Int)) (J (m : Int)) τ = some (bz (has3 K h π b m), τ1) ∧ KeepN τ τ1 := by
  have hn := mN_le (h := h) (π := π) hK
  have hW := hK.2.1
  have hM := hK.1
  have h2n : 2 ^ (mN K h π) ≤ 256 := Nat.pow_le_pow_right (by omega : 0 < 2) hn
  have hp : 0 < 2 ^ (mN K h π) := Nat.pow_pos (by omega)
  have outer : ∀ (e m' : Nat) (τ2 : SS), e ≤ 2 ^ (mN K h π) → e < m' → KeepN τ τ2 → Can3 K h π b m kb e τ2 → ∃ τ1, lp (fX6_canByThird_12 N) (fun _ _ _ _ _ => none) m' (J (kb : Int)) (J (m : Int)) (J ((2 ^ (mN K h π) - 1 : Nat) : Int)) (J ((e : Int) + (-1))) τ2 = some (bz (has3 K h π b m), τ1) ∧ KeepN τ τ1 := by
    intro e
    induction e with
    | zero =>
      intro m' τ2 he hm' hk hv
      obtain ⟨m', rfl⟩ : ∃ n', m' = n' + 1 := ⟨m' - 1, by omega⟩
      rw [lp_succ, fX6_canByThird_12, show (0 : Int32) = J 0 from rfl, if_pos ((J_lt (by omega) (by omega) (by omega) (by omega)).mpr (by omega)), ck_J (by omega) (by omega) (by omega), J_nat (by omega) (by omega)]
      have h0 := (hv 0 (Nat.le_refl _) hp).1
      have e0 : A3 K h π b m kb 0 = has3 K h π b m := by
        unfold A3
        rw [Nat.zero_testBit, if_neg (by decide)]
        rfl
      rw [show (0 : Int).toNat = 0 from rfl, h0, e0]
      refine ⟨τ2, ?_, hk⟩
      cases has3 K h π b m <;> rfl
    | succ e ih =>
      intro m' τ2 he hm' hk hv
      obtain ⟨m', rfl⟩ : ∃ n', m' = n' + 1 := ⟨m' - 1, by omega⟩
      have heq : ((e + 1 : Nat) : Int) + (-1) = (e : Int) := by omega
      have call := J_eq (a := (e : Int)) (b := ((2 ^ (mN K h π) - 1 : Nat) : Int)) (by omega) (by omega) (by omega) (by omega)
      have hall := all_bits (n := mN K h π) (o := e) (by omega)
      have hpost : ∀ τ3, KeepN τ τ3 → Can3 K h π b m kb e τ3 → ∃ τ1, lp (fX6_canByThird_12 N) (fun _ _ _ _ _ => none) m' (J (kb : Int)) (J (m : Int)) (J ((2 ^ (mN K h π) - 1 : Nat) : Int)) (J ((e : Int) + (-1))) τ3 = some (bz (has3 K h π b m), τ1) ∧ KeepN τ τ1 := fun τ3 h1 h2 => ih m' τ3 (by omega) (by omega) h1 h2
      rw [lp_succ, fX6_canByThird_12, heq, if_neg (show ¬ J (e : Int) < (0 : Int32) from fun q => by have := (J_lt (a := (e : Int)) (b := 0) (by omega) (by omega) (by omega) (by omega)).mp q; omega), bit_get e (by omega) kb (by omega)]
      have start : ∀ (x5 v : Int32) (bb : Bool), v = bz bb → ∃ τ3, fX6_canByThird_51 N (lp (fX6_canByThird_12 N) (fun _ _ _ _ _ => none) m') (J (kb : Int)) (J (m : Int)) (J ((2 ^ (mN K h π) - 1 : Nat) : Int)) (J (e : Int)) x5 v (J (e : Int)) τ2 = lp (fX6_canByThird_67 N (lp (fX6_canByThird_12 N) (fun _ _ _ _ _ => none) m')) (fun _ _ _ _ _ _ _ => none) N (J (kb : Int)) (J (m : Int)) (J ((2 ^ (mN K h π) - 1 : Nat) : Int)) (J (e : Int)) x5 (J ((0 : Nat) : Int)) τ3 ∧ KeepN τ τ3 ∧ Can3 K h π b m kb (e + 1) τ3 ∧ τ3 14 e = bz bb ∧ τ3 14 (256 + e) = 0 := by
        intro x5 v bb hvb
        rw [fX6_canByThird_51, ck_J (by omega) (by omega) (by omega), J_nn (by omega), sg, J256, J_add, show (256 : Int) + (e : Int) = ((256 + e : Nat) : Int) by omega, ck_J (by omega) (by omega) (by omega), J_nn (by omega), sg]
        refine ⟨_, rfl, fun x a b => by rw [stp_n b, stp_n b]; exact hk x a b, fun x h1 h2 => ?_, ?_, ?_⟩
        · rw [stp_s, upd_n (by omega), upd_n (by omega), stp_s, upd_n (by omega), upd_n (by omega)]; exact hv x (by omega) h2
        · rw [stp_s, upd_n (by omega), stp_s, upd_s, hvb]
          cases bb <;> rfl
        · rw [stp_s, upd_s]; rfl
      cases hd : Nat.testBit e kb with
      | true =>
        rw [if_pos rfl, if_pos rfl, fX6_canByThird_32]
        by_cases c : e = 2 ^ (mN K h π) - 1
        · rw [if_pos (call.mpr (by omega))]
          obtain ⟨τ3, s1, s2, s3, s4, s5⟩ := start 1 1 true rfl
          rw [s1]
          exact phase_done (τ := τ) hN hK hH hP hB hkb eb hm (by omega) hd _ _ (fun r => ∃ τ1, r = some (bz (has3 K h π b m), τ1) ∧ KeepN τ τ1) hpost (mN K h π) 0 N τ3 (by omega) (by omega) s2 s3 (by rw [s4, decide_eq_true (hall.mpr c)]; rfl) s5
        · rw [if_neg (fun q => c (by have := call.mp q; omega))]
          obtain ⟨τ3, s1, s2, s3, s4, s5⟩ := start 1 0 false rfl
          rw [s1]
          exact phase_done (τ := τ) hN hK hH hP hB hkb eb hm (by omega) hd _ _ (fun r => ∃ τ1, r = some (bz (has3 K h π b m), τ1) ∧ KeepN τ τ1) hpost (mN K h π) 0 N τ3 (by omega) (by omega) s2 s3 (by rw [s4, decide_eq_false (fun z => c (hall.mp z))]; rfl) s5
      | false =>
        have c : ¬ e = 2 ^ (mN K h π) - 1 := fun z => by
          have := rm_zero.mp (hall.mpr z) kb hkb
          rw [hd] at this
          cases this
        rw [if_neg (by decide : ¬ false = true), if_neg (by decide : ¬ (0 : Int32) = 1), fX6_canByThird_32, if_neg (fun q => c (by have := call.mp q; omega))]
        obtain ⟨τ3, s1, s2, s3, s4, s5⟩ := start 0 0 false rfl
        rw [s1]
        exact phase_one (τ := τ) hN hK hH hP hB hkb eb hm hbm hpm (by omega) hd _ _ (fun r => ∃ τ1, r = some (bz (has3 K h π b m), τ1) ∧ KeepN τ τ1) hpost (mN K h π) 0 N τ3 (by omega) (by omega) s2 s3 s4 s5
  have ha : ((1 : Int32) <<< ((τ 0 23) &&& (31 : Int32))) - 1 = J ((2 ^ (mN K h π) - 1 : Nat) : Int) := by
    rw [hB.2.2.2.2.1, bit_one _ (by omega), J1, J_sub]
    congr 1
    omega
  rw [fX6_canByThird, ha]
  have := outer (2 ^ (mN K h π)) N τ (Nat.le_refl _) (by omega) (fun _ _ _ => rfl) (fun x h1 h2 => by omega)
  rw [show ((2 ^ (mN K h π) : Nat) : Int) + (-1) = ((2 ^ (mN K h π) - 1 : Nat) : Int) from by omega] at this
  exact this
theorem mthird_spec {τ : SS} {K : Kt} {h π : Ro} {N : Nat} (hN : 300 ≤ N) (hK : KOk K) (hH : HOk K h) (hP : PlanOk K h π) (hB : MB τ K h π) : ∃ τ1, lp (fX6_third_20 N) (fun _ _ => none) N 0 τ = some (rv (fp (mvd K h π) (g3 K h π) (kW K)), τ1) ∧ KeepN τ τ1 := by
  have hn := mN_le (h := h) (π := π) hK
  have hW := hK.2.1
  have hM := hK.1
  rw [fp_fpk]
  show ∃ τ1, lp (fX6_third_20 N) (fun _ _ => none) N 0 τ = some (rv (fpk (mB K h π) (g3 K h π) (mN K h π)), τ1) ∧ KeepN τ τ1
  have key : ∀ (d j n : Nat) (τ2 : SS), j + d = mN K h π → d < n → KeepN τ τ2 → fpk (mB K h π) (g3 K h π) j = none → ∃ τ1, lp (fX6_third_20 N) (fun _ _ => none) n (J (j : Int)) τ2 = some (rv (fpk (mB K h π) (g3 K h π) (mN K h π)), τ1) ∧ KeepN τ τ1 := by
    intro d
    induction d with
    | zero =>
      intro j n τ2 hj hn' hk2 hnone
      obtain ⟨n, rfl⟩ : ∃ n', n = n' + 1 := ⟨n - 1, by omega⟩
      have hB2 := hB.keep hk2
      have ej : j = mN K h π := by omega
      subst ej
      rw [lp_succ, fX6_third_20, hB2.2.2.2.2.1, if_pos ((J_le (by omega) (by omega) (by omega) (by omega)).mpr (by omega)), hnone]
      exact ⟨τ2, rfl, hk2⟩
    | succ d ih =>
      intro j n τ2 hj hn' hk2 hnone
      obtain ⟨n, rfl⟩ : ∃ n', n = n' + 1 := ⟨n - 1, by omega⟩
      have hjn : j < mN K h π := by omega
      obtain ⟨b1, b2, x, y1, b3, b4, b5⟩ := mB_ok hjn
      have hxM := (hH.1 _ x b3).2
      have hyM1 := (hP.1 _ y1 b4).2
      have efp : fpk (mB K h π) (g3 K h π) (j + 1) = g3 K h π (mB K h π j) := by
        show (match fpk (mB K h π) (g3 K h π) j with
          | some x => some x
          | none => g3 K h π (mB K h π j)) = _
        rw [hnone]
      have inner : ∀ (e y i : Nat) (τ3 : SS), y + e = kM K → e < i → KeepN τ τ3 → fp (c3 K h π (mB K h π j)) (fun m => some (mB K h π j * 8 + m)) y = none → ∃ τ1, lp (fX6_third_30 N (lp (fX6_third_20 N) (fun _ _ => none) n)) (fun _ _ _ => none) i (J (j : Int)) (J (y : Int)) τ3 = some (rv (fpk (mB K h π) (g3 K h π) (mN K h π)), τ1) ∧ KeepN τ τ1 := by
        intro e
        induction e with
        | zero =>
          intro y i τ3 hy hi hk3 hno
          obtain ⟨i, rfl⟩ : ∃ i', i = i' + 1 := ⟨i - 1, by omega⟩
          have hB3 := hB.keep hk3
          have ey : y = kM K := by omega
          subst ey
          rw [lp_succ, fX6_third_30, hB3.1.1, if_pos ((J_le (by omega) (by omega) (by omega) (by omega)).mpr (by omega)), J1, J_add]
          refine ih (j + 1) n τ3 (by omega) (by omega) hk3 ?_
          rw [efp]
          exact hno
        | succ e ihe =>
          intro y i τ3 hy hi hk3 hno
          obtain ⟨i, rfl⟩ : ∃ i', i = i' + 1 := ⟨i - 1, by omega⟩
          have hyM : y < kM K := by omega
          have hB3 := hB.keep hk3
          have efy : fp (c3 K h π (mB K h π j)) (fun m => some (mB K h π j * 8 + m)) (y + 1) = if c3 K h π (mB K h π j) y then some (mB K h π j * 8 + y) else none := by
            show (match fp (c3 K h π (mB K h π j)) (fun m => some (mB K h π j * 8 + m)) y with
              | some x => some x
              | none => if c3 K h π (mB K h π j) y then some (mB K h π j * 8 + y) else none) = _
            rw [hno]
          have next : ∀ τ4 : SS, KeepN τ τ4 → c3 K h π (mB K h π j) y = false → ∃ τ1, fX6_third_89 N (lp (fX6_third_20 N) (fun _ _ => none) n) (lp (fX6_third_30 N (lp (fX6_third_20 N) (fun _ _ => none) n)) (fun _ _ _ => none) i) (J (j : Int)) (J (y : Int)) τ4 = some (rv (fpk (mB K h π) (g3 K h π) (mN K h π)), τ1) ∧ KeepN τ τ1 := by
            intro τ4 hk4 hc
            rw [fX6_third_89, J1, J_add]
            exact ihe (y + 1) i τ4 (by omega) (by omega) hk4 (by rw [efy, hc]; rfl)
          rw [lp_succ, fX6_third_30, hB3.1.1, if_neg (fun q => by have := (J_le (by omega) (by omega) (by omega) (by omega)).mp q; omega)]
          simp (disch := omega) only [ck_J, J_nn]
          rw [hB3.2.2.2.2.2 j hjn]
          simp (disch := omega) only [ck_J, J_nn]
          have hpl := hB3.2.2.2.1 (mB K h π j) b1
          rw [b4] at hpl
          rw [hB3.2.2.1 _ x b1 b3, hpl]
          have c1 := J_eq (a := (y : Int)) (b := (x : Int)) (by omega) (by omega) (by omega) (by omega)
          have c2 := J_eq (a := (y : Int)) (b := (y1 : Int)) (by omega) (by omega) (by omega) (by omega)
          by_cases d1 : y = x
          · rw [if_pos (c1.mpr (by omega))]
            exact next τ3 hk3 (by unfold c3; rw [b3, d1, decide_eq_true rfl]; rfl)
          · rw [if_neg (fun z => d1 (by have := c1.mp z; omega))]
            by_cases d2 : y = y1
            · rw [if_pos (show J (y : Int) = rv (some y1) from c2.mpr (by omega))]
              exact next τ3 hk3 (by unfold c3; rw [b4, d2, decide_eq_true (show some y1 = some y1 from rfl)]; simp)
            · rw [if_neg (show ¬ J (y : Int) = rv (some y1) from fun z => d2 (by have := c2.mp z; omega))]
              obtain ⟨τ4, t1, t2⟩ := canByThird_spec (τ := τ3) hN hK hH hP hB3 hjn rfl hyM (by rw [b3]; exact fun z => d1 (Option.some.inj z).symm) (by rw [b4]; exact fun z => d2 (Option.some.inj z).symm)
              have hk4 := hk3.trans t2
              have hB4 := hB.keep hk4
              have ec : c3 K h π (mB K h π j) y = has3 K h π (mB K h π j) y := by
                unfold c3
                rw [b3, b4, decide_eq_false (fun z => d1 (Option.some.inj z).symm), decide_eq_false (fun z => d2 (Option.some.inj z).symm)]
                rfl
              rw [t1, cali_s]
              cases hc : has3 K h π (mB K h π j) y with
              | false =>
                rw [if_pos bz_f]
                exact next τ4 hk4 (by rw [ec, hc])
              | true =>
                rw [if_neg (by decide), hB4.2.2.2.2.2 j hjn, J8, J_mul, J_add]
                rw [ec, hc, if_pos rfl] at efy
                have h1 := fp_some efy (kM K - (y + 1))
                rw [show y + 1 + (kM K - (y + 1)) = kM K by omega] at h1
                have h2 : fpk (mB K h π) (g3 K h π) (j + 1) = some (mB K h π j * 8 + y) := by rw [efp]; exact h1
                have h3 := fpk_some h2 (mN K h π - (j + 1))
                rw [show j + 1 + (mN K h π - (j + 1)) = mN K h π by omega] at h3
                rw [h3]
                refine ⟨τ4, ?_, hk4⟩
                have e8 : 8 * (mB K h π j : Int) + (y : Int) = ((mB K h π j * 8 + y : Nat) : Int) := by omega
                rw [e8]
                rfl
      rw [lp_succ, fX6_third_20, (hB.keep hk2).2.2.2.2.1, if_neg (fun q => by have := (J_le (by omega) (by omega) (by omega) (by omega)).mp q; omega)]
      exact inner (kM K) 0 N τ2 (by omega) (by omega) hk2 rfl
  exact key (mN K h π) 0 N τ (by omega) (by omega) (fun _ _ _ => rfl) rfl
section LACKS
variable {k : Nat} {σ τ : SS} {K : Kt} {h : Ro} {t : Int} {π : Ro} {N : Nat}
theorem lacks_spec (hN : 600 ≤ N) (q : RelX k σ τ K h t true π) : ∃ σ1 τ1, fX5_lacksOrder N σ = some (bz (!(canX (mN K h π) (okM K h π none) 0)), σ1) ∧ KeepO σ σ1 ∧ fX6_order N τ = some (bz (canX (mN K h π) (okM K h π none) 0), τ1) ∧ MB τ1 K h π ∧ (∀ x, x ≠ 0 → x ≠ 12 → x ≠ 13 → x ≠ 14 → τ1 x = τ x) ∧ ∀ i, i ≠ 23 → τ1 0 i = τ 0 i := by
  obtain ⟨-, -, -, p4, p5⟩ := q.2.2.2.2.2.2.2.2.1
  obtain ⟨σ1, a1, a2, a3, a4⟩ := findOrder_spec hN q
  obtain ⟨τ1, τ2, b1, b2, b3, b4, b5, b6⟩ := morder_spec hN q
  refine ⟨σ1, τ2, ?_, a2, ?_, b3, b5, b6⟩
  · rw [fX5_lacksOrder, p4, if_neg (by decide), a1, cali_s]
    simp only [fX5_lacksOrder_25, fX5_lacksOrder_26]
    cases canX (mN K h π) (okM K h π none) 0 <;> rfl
  · rw [fX6_order, p5, if_neg (by decide), b1, calv_s, b2, cali_s]
    simp only [fX6_order_27]
    cases canX (mN K h π) (okM K h π none) 0 <;> rfl
end LACKS
theorem S_third_ok {N : Nat} (hN : 600 ≤ N) : S_third N Rel := by
  rintro k σ τ hk ⟨K, h, t, pl, π, q⟩
  obtain ⟨-, -, -, p4, p5⟩ := q.2.2.2.2.2.2.2.2.1
  rw [fX5_third, fX6_third, p5]
  cases pl with
  | false =>
    rw [fX5_lacksOrder, p4, if_pos (by rfl), if_pos (by rfl), fX5_lacksOrder_25, fX5_lacksOrder_26]
    exact ⟨-3, σ, τ, rfl, rfl, K, h, t, _, π, q.up⟩
  | true =>
    obtain ⟨σ1, τ1, a1, a2, b1, b2, b3, b4⟩ := lacks_spec hN q
    have q1 : RelX k σ1 τ1 K h t true π := q.orders (Nat.le_refl _) a2 b3 b4
    have z1 := (q.2.2.2.2.2.2.2.2.2 rfl).1
    rw [if_neg (by decide), a1, cali_s, b1, cali_s]
    cases canX (mN K h π) (okM K h π none) 0 with
    | true =>
      rw [if_pos (by rfl), if_pos (by rfl)]
      exact ⟨-3, σ1, τ1, rfl, rfl, K, h, t, _, π, q1.up⟩
    | false =>
      rw [if_neg (by decide), if_neg (by decide)]
      obtain ⟨σ2, c1, c2⟩ := firstThird_spec hN q1
      obtain ⟨τ2, d1, d2⟩ := mthird_spec (N := N) (by omega) q.1 q.2.1 z1 b2
      rw [c1, cali_s, fX5_third_23, d1]
      exact ⟨_, σ2, τ2, rfl, rfl, K, h, t, _, π, q1.orders (by omega) c2 (fun x _ _ h3 h4 => d2 x h3 h4) (fun i _ => by rw [d2 0 (by omega) (by omega)])⟩
