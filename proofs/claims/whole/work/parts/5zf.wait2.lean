/-! the reference's side -/
def cVa (K : Kt) (h : Ro) (p t T : Int) (A : Ac) : Int64 := if A.2.1 = true then LL (-5) else match bestOf (mvs K h) A.2.2 with
  | none => LL (-1)
  | some b => LL ((T - t) * p + cst K h b (kW K))
def KeepC (τ τ1 : SS) : Prop := (∀ k, k ≠ 0 → k ≠ 8 → k ≠ 9 → k ≠ 10 → τ1 k = τ k) ∧ ∀ i, i ≠ 13 → i ≠ 16 → i ≠ 17 → i ≠ 18 → τ1 0 i = τ 0 i
theorem KeepC.trans {τ τ1 τ2 : SS} (h : KeepC τ τ1) (h1 : KeepC τ1 τ2) : KeepC τ τ2 := ⟨fun k a b c d => (h1.1 k a b c d).trans (h.1 k a b c d), fun i a b c d => (h1.2 i a b c d).trans (h.2 i a b c d)⟩
def cBody (N : Nat) (x1 x2 : Int32) (s0 : SS) : Option (Int64 × SS) := sg (stp s0 0 (upd (s0 0) 17 0)) (fun s1 => sg (stp s1 0 (upd (s1 0) 18 x1)) (fun s2 => cali (fX6_search N s2) (fun v3 s3 => if (s3 0 16) = (-1) then (fX6_costAt_86 N x2 v3 (-1) s3) else (fX6_costAt_86 N x2 v3 0 s3))))
section COSTAT
variable {τ : SS} {K : Kt} {h : Ro} {m N : Nat} {p t T : Int}
/-- the works that have ended by then are told -/
theorem costAt1 (hN : 20 ≤ N) (hK : KOk K) (hT : -2147483648 ≤ T ∧ T < 2147483648) (hR : MdRep τ K) (h15 : ∀ w, w < kW K → τ 15 w = bz (ovf h w)) : ∃ τ1, fX6_costAt N (J (m : Int)) (J T) τ = cBody N (J (m : Int)) (J T) τ1 ∧ (∀ w, w < kW K → τ1 8 w = bz (oT K h T w)) ∧ (∀ k, k ≠ 8 → τ1 k = τ k) := by
  have hW := hK.2.1
  have key : ∀ (d j n : Nat) (τ2 : SS), j + d = kW K → d < n → (∀ k, k ≠ 8 → τ2 k = τ k) → (∀ w, w < j → τ2 8 w = bz (oT K h T w)) → ∃ τ1, lp (fX6_costAt_2 N) (fun _ _ _ _ => none) n (J (m : Int)) (J T) (J (j : Int)) τ2 = cBody N (J (m : Int)) (J T) τ1 ∧ (∀ w, w < kW K → τ1 8 w = bz (oT K h T w)) ∧ (∀ k, k ≠ 8 → τ1 k = τ k) := by
    intro d
    induction d with
    | zero =>
      intro j n τ2 hj hn hk h8
      obtain ⟨n, rfl⟩ : ∃ n', n = n' + 1 := ⟨n - 1, by omega⟩
      rw [lp_succ, fX6_costAt_2, hk 0 (by omega), hR.2.1, if_pos ((J_le (by omega) (by omega) (by omega) (by omega)).mpr (by omega)), ← hk 0 (by omega)]
      exact ⟨τ2, rfl, fun w hw => h8 w (by omega), hk⟩
    | succ d ih =>
      intro j n τ2 hj hn hk h8
      obtain ⟨n, rfl⟩ : ∃ n', n = n' + 1 := ⟨n - 1, by omega⟩
      have hjW : j < kW K := by omega
      have kj := hK.2.2.2 j hjW
      obtain ⟨-, -, m5, m6⟩ := hR.2.2.2 j hjW
      have go : ∀ x y : Int32, x &&& 1 = y → y = bz (oT K h T j) → ∃ τ1, fX6_costAt_49 N (lp (fX6_costAt_2 N) (fun _ _ _ _ => none) n) (J (m : Int)) (J T) (J (j : Int)) x (J (j : Int)) τ2 = cBody N (J (m : Int)) (J T) τ1 ∧ (∀ w, w < kW K → τ1 8 w = bz (oT K h T w)) ∧ (∀ k, k ≠ 8 → τ1 k = τ k) := by
        intro x y hx hy
        rw [fX6_costAt_49, ck_J (by omega) (by omega) (by omega), J_nn (by omega), sg, hx, hy, J1, J_add]
        refine ih (j + 1) n _ (by omega) (by omega) (fun k hk2 => by rw [stp_n hk2, hk k hk2]) (fun w hw => ?_)
        by_cases c : w = j
        · subst c; rw [stp_s, upd_s]
        · rw [stp_s, upd_n c]; exact h8 w (by omega)
      have y1 : oT K h T j = true → ∃ τ1, fX6_costAt_44 N (lp (fX6_costAt_2 N) (fun _ _ _ _ => none) n) (J (m : Int)) (J T) (J (j : Int)) (J (j : Int)) τ2 = cBody N (J (m : Int)) (J T) τ1 ∧ (∀ w, w < kW K → τ1 8 w = bz (oT K h T w)) ∧ (∀ k, k ≠ 8 → τ1 k = τ k) := by
        intro e
        rw [fX6_costAt_44]
        exact go 1 1 (by decide) (by rw [e]; rfl)
      have y0 : oT K h T j = false → ∃ τ1, fX6_costAt_48 N (lp (fX6_costAt_2 N) (fun _ _ _ _ => none) n) (J (m : Int)) (J T) (J (j : Int)) (J (j : Int)) τ2 = cBody N (J (m : Int)) (J T) τ1 ∧ (∀ w, w < kW K → τ1 8 w = bz (oT K h T w)) ∧ (∀ k, k ≠ 8 → τ1 k = τ k) := by
        intro e
        rw [fX6_costAt_48]
        exact go 0 0 (by decide) (by rw [e]; rfl)
      rw [lp_succ, fX6_costAt_2, hk 0 (by omega), hR.2.1, if_neg (fun q => by have := (J_le (by omega) (by omega) (by omega) (by omega)).mp q; omega)]
      simp (disch := omega) only [ck_J, J_nn]
      rw [hk 15 (by omega), hk 5 (by omega), hk 6 (by omega), h15 j hjW, m5, m6]
      cases o1 : ovf h j with
      | true =>
        rw [if_neg (by decide)]
        exact y1 (by unfold oT; rw [o1]; rfl)
      | false =>
        have c4 : J (kd K j : Int) = (4 : Int32) ↔ (kd K j : Int) = 4 := J_eq (a := (kd K j : Int)) (b := 4) (by omega) (by omega) (by omega) (by omega)
        have clt := J_lt (a := T) (b := kg K j) (by omega) (by omega) (by omega) (by omega)
        rw [if_pos bz_f]
        by_cases c : kd K j = 4
        · rw [if_pos (c4.mpr (by omega))]
          by_cases c2 : T < kg K j
          · rw [if_pos (clt.mpr c2)]
            exact y0 (by unfold oT; rw [o1, decide_eq_false (by omega), Bool.and_false]; rfl)
          · rw [if_neg (fun z => c2 (clt.mp z))]
            exact y1 (by unfold oT; rw [o1, c, decide_eq_true (by omega : kg K j ≤ T)]; rfl)
        · rw [if_neg (fun z => c (by have := c4.mp z; omega))]
          exact y0 (by unfold oT; rw [o1]; simp [c])
  rw [fX6_costAt]
  exact key (kW K) 0 N τ (by omega) (by omega) (fun _ _ => rfl) (fun w hw => absurd hw (Nat.not_lt_zero _))
/-- what was is told again -/
theorem costAt3 (hN : 20 ≤ N) (hK : KOk K) (h3 : τ 0 3 = J (kW K : Int)) (h10 : τ 0 10 = J t) (h11 : τ 0 11 = J p) (h15 : ∀ w, w < kW K → τ 15 w = bz (ovf h w)) {x3 : Int32} {x4 : Int64} {R : Int64} (hRs : R = if x3 = 0 then -5 else if 0 ≤ lg_cmp x4 0 then x4 + Int32.toInt64 (J T - J t) * Int32.toInt64 (J p) else -1) : ∃ τ1, fX6_costAt_155 N (J T) x3 x4 τ = some (R, τ1) ∧ MdOv τ1 K (ovf h) ∧ (∀ k, k ≠ 8 → τ1 k = τ k) := by
  have hW := hK.2.1
  have key : ∀ (d j n : Nat) (τ2 : SS), j + d = kW K → d < n → (∀ k, k ≠ 8 → τ2 k = τ k) → (∀ w, w < j → τ2 8 w = bz (ovf h w)) → ∃ τ1, lp (fX6_costAt_158 N) (fun _ _ _ _ _ => none) n (J T) x3 x4 (J (j : Int)) τ2 = some (R, τ1) ∧ MdOv τ1 K (ovf h) ∧ (∀ k, k ≠ 8 → τ1 k = τ k) := by
    intro d
    induction d with
    | zero =>
      intro j n τ2 hj hn hk h8
      obtain ⟨n, rfl⟩ : ∃ n', n = n' + 1 := ⟨n - 1, by omega⟩
      have hov : MdOv τ2 K (ovf h) := fun w hw => h8 w (by omega)
      rw [lp_succ, fX6_costAt_158, hk 0 (by omega), h3, if_pos ((J_le (by omega) (by omega) (by omega) (by omega)).mpr (by omega)), h10, h11, fX6_costAt_226, fX6_costAt_226, fX6_costAt_226, hRs]
      by_cases d1 : x3 = 0
      · rw [if_pos d1, if_pos d1]; exact ⟨τ2, rfl, hov, hk⟩
      · rw [if_neg d1, if_neg d1]
        by_cases d2 : 0 ≤ lg_cmp x4 0
        · rw [if_pos d2, if_pos d2]; exact ⟨τ2, rfl, hov, hk⟩
        · rw [if_neg d2, if_neg d2]; exact ⟨τ2, rfl, hov, hk⟩
    | succ d ih =>
      intro j n τ2 hj hn hk h8
      obtain ⟨n, rfl⟩ : ∃ n', n = n' + 1 := ⟨n - 1, by omega⟩
      rw [lp_succ, fX6_costAt_158, hk 0 (by omega), h3, if_neg (fun q => by have := (J_le (by omega) (by omega) (by omega) (by omega)).mp q; omega), ck_J (by omega) (by omega) (by omega), ck_J (by omega) (by omega) (by omega), sg, J_nn (by omega), hk 15 (by omega), h15 j (by omega), J1, J_add]
      refine ih (j + 1) n _ (by omega) (by omega) (fun k hk2 => by rw [stp_n hk2, hk k hk2]) (fun w hw => ?_)
      by_cases c : w = j
      · subst c
        rw [stp_s, upd_s]
        cases ovf h w <;> decide
      · rw [stp_s, upd_n c]; exact h8 w (by omega)
  rw [fX6_costAt_155]
  exact key (kW K) 0 N τ (by omega) (by omega) (fun _ _ => rfl) (fun w hw => absurd hw (Nat.not_lt_zero _))
/-- the moves' cost of a row -/
theorem costAt2 {b : Ro} {x3 : Int32} (hN : 20 ≤ N) (hK : KOk K) (hH : HOk K h) (hR : MdRep τ K) (hO : MdOv τ K (oT K h T)) (hA : MdAt τ K 7 h) (h10 : ∀ v m, b v = some m → τ 10 v = J (m : Int)) (hb : PR K h (gE m) (oT K h T) b (kW K)) : fX6_costAt_86 N (J T) x3 0 τ = fX6_costAt_155 N (J T) x3 (LL (cst K h b (kW K))) τ := by
  have hW := hK.2.1
  have hM := hK.1
  have key : ∀ (d j n : Nat), j + d = kW K → d < n → lp (fX6_costAt_91 N) (fun _ _ _ _ _ => none) n (J T) x3 (LL (cst K h b j)) (J (j : Int)) τ = fX6_costAt_155 N (J T) x3 (LL (cst K h b (kW K))) τ := by
    intro d
    induction d with
    | zero =>
      intro j n hj hn
      obtain ⟨n, rfl⟩ : ∃ n', n = n' + 1 := ⟨n - 1, by omega⟩
      have ej : j = kW K := by omega
      subst ej
      rw [lp_succ, fX6_costAt_91, hR.2.1, if_pos ((J_le (by omega) (by omega) (by omega) (by omega)).mpr (by omega))]
    | succ d ih =>
      intro j n hj hn
      obtain ⟨n, rfl⟩ : ∃ n', n = n' + 1 := ⟨n - 1, by omega⟩
      have hjW : j < kW K := by omega
      have hx := ih (j + 1) n (by omega) (by omega)
      have es : cst K h b (j + 1) = cst K h b j + (if mvd K h b j then bA K j + bB K j else 0) := rfl
      rw [es] at hx
      have hbd := cst_bd (h := h) (π := b) (n := j) hK
      have hbb := bA_bd hK j
      have no : mvd K h b j = false → fX6_costAt_145 N (lp (fX6_costAt_91 N) (fun _ _ _ _ _ => none) n) (J T) x3 (J (j : Int)) (LL (cst K h b j)) τ = fX6_costAt_155 N (J T) x3 (LL (cst K h b (kW K))) τ := by
        intro z
        rw [z, if_neg (by decide)] at hx
        rw [fX6_costAt_145, fX6_costAt_146, L0, LL_add, J1, J_add]
        exact hx
      have cneg := LL_lt (a := cst K h b j) (b := 0) (by omega) (by omega) (by omega) (by omega)
      rw [lp_succ, fX6_costAt_91, hR.2.1, if_neg (fun q => by have := (J_le (by omega) (by omega) (by omega) (by omega)).mp q; omega), if_neg (fun z => by have := cneg.mp ((lg_cmp_lt _ _).mp z); omega), isBlock_spec (by omega) hK hR hO (oT_ok hH) hjW, cali_s]
      have hs := hb.2.1 j
      cases o1 : oT K h T j with
      | true =>
        have e : isB K (oT K h T) j = false := by unfold isB; rw [o1]; rfl
        rw [e, if_pos bz_f]
        refine no ?_
        have : b j = none := by
          cases z : b j with
          | none => rfl
          | some y =>
            rw [z] at hs
            have := (hs.mp rfl).2.2
            rw [o1] at this
            cases this
        unfold mvd
        rw [this]
        simp
      | false =>
        obtain ⟨x, hx1⟩ := Option.isSome_iff_exists.mp (oT_live j hjW o1)
        obtain ⟨y, hy1⟩ := Option.isSome_iff_exists.mp (hs.mpr ⟨hjW, hjW, o1⟩)
        have hxM := (hH.1 j x hx1).2
        have hyM := (hb.1 j y hy1).2
        by_cases cb : blk K j = j
        · have e : isB K (oT K h T) j = true := by unfold isB; rw [o1, cb]; simp
          rw [e, if_neg (by decide), ck_J (by omega) (by omega) (by omega), ck_J (by omega) (by omega) (by omega), J_nn (by omega), h10 j y hy1, hA j x hjW hx1]
          have cxy := J_eq (a := (y : Int)) (b := (x : Int)) (by omega) (by omega) (by omega) (by omega)
          by_cases c : y = x
          · rw [if_pos (cxy.mpr (by omega))]
            exact no (by unfold mvd; rw [hx1, hy1, c]; simp)
          · rw [if_neg (fun z => c (by have := cxy.mp z; omega)), costOf_spec (by omega) hK hR hO (oT_ok hH) hjW o1, cali_s, fX6_costAt_146, J_LL (by omega) (by omega), LL_add, J1, J_add]
            have : mvd K h b j = true := by unfold mvd; rw [hx1, hy1, cb]; simp [c]
            rw [this, if_pos rfl] at hx
            exact hx
        · have e : isB K (oT K h T) j = false := by unfold isB; simp [cb]
          rw [e, if_pos bz_f]
          exact no (by unfold mvd; simp [cb])
  rw [fX6_costAt_86]
  exact key (kW K) 0 N (by omega) (by omega)
theorem costAt_spec (hN : 1000000 ≤ N) (hK : KOk K) (hH : HOk K h) (hm : m < kM K) (ht : 0 ≤ t ∧ t ≤ T ∧ T < 2147483648) (hp : 0 ≤ p ∧ p ≤ 1000) (hR : MdRep τ K) (hA : MdAt τ K 7 h) (h10 : τ 0 10 = J t) (h11 : τ 0 11 = J p) (h15 : ∀ w, w < kW K → τ 15 w = bz (ovf h w)) : ∃ τ1, fX6_costAt N (J (m : Int)) (J T) τ = some (cVa K h p t T (srch K h (gE m) T), τ1) ∧ MdOv τ1 K (ovf h) ∧ KeepC τ τ1 := by
  obtain ⟨τ1, a1, a2, a3⟩ := costAt1 (N := N) (m := m) (by omega) hK (T := T) (by omega) hR h15
  rw [a1, cBody, sg, sg]
  generalize hτ2 : stp (stp τ1 0 (upd (τ1 0) 17 0)) 0 (upd (stp τ1 0 (upd (τ1 0) 17 0) 0) 18 (J (m : Int))) = τ2
  have k2 : ∀ k, k ≠ 0 → τ2 k = τ1 k := fun k hk => by rw [← hτ2, stp_n hk, stp_n hk]
  have f2 : ∀ i, i ≠ 17 → i ≠ 18 → τ2 0 i = τ 0 i := fun i h1 h2 => by rw [← hτ2, stp_s, upd_n h2, stp_s, upd_n h1, a3 0 (by omega)]
  have hG : GlM τ2 (gE m) := by
    refine ⟨?_, fun _ => ?_, fun z => absurd z (show ¬ ((0 : Nat) = 1 ∨ (0 : Nat) = 2) by decide), fun z => absurd z (show ¬ (0 : Nat) = 1 by decide)⟩
    · rw [← hτ2, stp_s, upd_n (by omega), stp_s, upd_s]; rfl
    · rw [← hτ2, stp_s, upd_s]; rfl
  have hR2 : MdRep τ2 K := hR.keep (f2 0 (by omega) (by omega)) (f2 3 (by omega) (by omega)) (fun k x y => by rw [k2 k (by omega), a3 k (by omega)])
  have hO2 : MdOv τ2 K (oT K h T) := fun w hw => by rw [k2 8 (by omega)]; exact a2 w hw
  have hA2 : MdAt τ2 K 7 h := fun w z hw hz => by rw [k2 7 (by omega), a3 7 (by omega)]; exact hA w z hw hz
  obtain ⟨τ3, d1, d2, d3⟩ := search_spec (τ := τ2) (g := gE m) (h := h) hN hK (oT_ok hH) hH.1 oT_live (gE_ok hm) hR2 hO2 hA2 hG
  have leaf := srchM_leaf (K := K) (o := oT K h T) (h := h) (g := gE m) hK (oT_ok hH)
  rw [← srch_eq (o := oT K h T) (t := T) oT_lv] at leaf d1 d2
  have hwt : wtOf K h (gE m) = mvs K h := if_neg (show ¬ (0 : Nat) = 3 by decide)
  unfold AcM at d2
  rw [hwt] at d2
  have hR3 : MdRep τ3 K := hR2.keep (d3.2 0 (by omega) (by omega)) (d3.2 3 (by omega) (by omega)) (fun k x y => d3.1 k (by omega) (by omega) (by omega))
  have hO3 : MdOv τ3 K (oT K h T) := fun w hw => by rw [d3.1 8 (by omega) (by omega) (by omega)]; exact hO2 w hw
  have hA3 : MdAt τ3 K 7 h := fun w z hw hz => by rw [d3.1 7 (by omega) (by omega) (by omega)]; exact hA2 w z hw hz
  have kc : KeepC τ τ3 := ⟨fun k b c e f => by rw [d3.1 k b e f, k2 k b, a3 k c], fun i b c e f => by rw [d3.2 i b c, f2 i e f]⟩
  rw [d1, cali_s]
  generalize srch K h (gE m) T = A at d2 leaf
  rw [d2.2.2.1]
  have f3 : τ3 0 3 = J (kW K : Int) := hR3.2.1
  have f10 : τ3 0 10 = J t := by rw [kc.2 10 (by omega) (by omega) (by omega) (by omega)]; exact h10
  have f11 : τ3 0 11 = J p := by rw [kc.2 11 (by omega) (by omega) (by omega) (by omega)]; exact h11
  have f15 : ∀ w, w < kW K → τ3 15 w = bz (ovf h w) := fun w hw => by rw [kc.1 15 (by omega) (by omega) (by omega) (by omega)]; exact h15 w hw
  have fin : ∀ {x4 : Int64}, cVa K h p t T A = (if bz (!A.2.1) = 0 then -5 else if 0 ≤ lg_cmp x4 0 then x4 + Int32.toInt64 (J T - J t) * Int32.toInt64 (J p) else -1) → ∃ τ4, fX6_costAt_155 N (J T) (bz (!A.2.1)) x4 τ3 = some (cVa K h p t T A, τ4) ∧ MdOv τ4 K (ovf h) ∧ KeepC τ τ4 := by
    intro x4 hx
    obtain ⟨τ4, e1, e2, e3⟩ := costAt3 (τ := τ3) (T := T) (N := N) (by omega) hK f3 f10 f11 f15 hx
    exact ⟨τ4, e1, e2, kc.trans ⟨fun k a b c e => e3 k b, fun i a b c e => by rw [e3 0 (by omega)]⟩⟩
  have hm1 := wv_m1 (wt := mvs K h) (o := bestOf (mvs K h) A.2.2) (fun b => mvs_bd)
  cases hbo : bestOf (mvs K h) A.2.2 with
  | none =>
    rw [hbo] at hm1
    have h155 : fX6_costAt_86 N (J T) (bz (!A.2.1)) (-1) τ3 = fX6_costAt_155 N (J T) (bz (!A.2.1)) (-1) τ3 := by
      obtain ⟨n, rfl⟩ : ∃ n', N = n' + 1 := ⟨N - 1, by omega⟩
      rw [fX6_costAt_86, lp_succ, fX6_costAt_91]
      by_cases c : τ3 0 3 ≤ 0
      · rw [if_pos c]
      · rw [if_neg c, if_pos (show lg_cmp (-1) 0 < 0 by decide)]
    rw [if_pos (hm1.mpr rfl), h155]
    refine fin ?_
    unfold cVa
    rw [hbo]
    cases A.2.1 with
    | true => rfl
    | false =>
      rw [if_neg (by decide), if_neg (by decide), if_neg (show ¬ (0 : Int32) ≤ lg_cmp (-1) 0 by decide)]
      rfl
  | some b =>
    rw [hbo] at hm1
    have hlf := leaf b (bestOf_mem hbo)
    have hbd := wC_bd (h := h) (b := b) hK ht hp
    rw [if_neg (fun z => by have := hm1.mp z; cases this), costAt2 (b := b) (by omega) hK hH hR3 hO3 hA3 (fun v z hz => d2.2.2.2 b hbo v z hz) hlf]
    refine fin ?_
    unfold cVa
    rw [hbo]
    cases A.2.1 with
    | true => rfl
    | false =>
      have c0 := LL_le (a := 0) (b := cst K h b (kW K)) (by omega) (by omega) (by omega) (by omega)
      rw [if_neg (by decide), if_neg (by decide)]
      show LL ((T - t) * p + cst K h b (kW K)) = _
      rw [if_pos (show (0 : Int32) ≤ lg_cmp (LL (cst K h b (kW K))) 0 from (lg_cmp_ge _ _).mpr (c0.mpr hbd.2.2.1)), J_sub, J_LL (by omega) (by omega), J_LL (by omega) (by omega), LL_mul, LL_add, Int.add_comm]
end COSTAT
