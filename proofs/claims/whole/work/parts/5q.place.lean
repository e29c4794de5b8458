theorem uni_row {K : Kt} {ρ : Ro} (hF : FrOk K ρ) (hl : ∀ w, w < kW K → kd K w = 2 → (ρ w).isSome = true) {b x : Nat} (hx : ρ b = some x) : ∀ w, w < kW K → blk K w = b → ρ w = some x := by
  intro w hw hb
  by_cases c : blk K w = w
  · rw [← c, hb, hx]
  · have hf := blk_frnd c
    have h2 := (frnd_true.mp hf).1
    have hs := hl w hw h2
    cases e : ρ w with
    | none => rw [e] at hs; cases hs
    | some y =>
      rw [hb] at hf
      rw [hF w b y x hf e hx]
theorem HOk.fr_live {K : Kt} {h : Ro} (q : HOk K h) : ∀ w, w < kW K → kd K w = 2 → (h w).isSome = true := fun w hw h2 => by
  cases e : h w with
  | none => have := q.2.2.2.2 w hw e; omega
  | some x => rfl
theorem PlanOk.fr_live {K : Kt} {h π : Ro} (q : HOk K h) (p : PlanOk K h π) : ∀ w, w < kW K → kd K w = 2 → (π w).isSome = true := fun w hw h2 => (p.2.2.2.2.1 w).mpr (q.fr_live w hw h2)
theorem mvd_true {K : Kt} {h π : Ro} {w : Nat} (e : mvd K h π w = true) : blk K w = w ∧ ∃ x y, h w = some x ∧ π w = some y ∧ y ≠ x := by
  unfold mvd at e
  simp only [Bool.and_eq_true, beq_iff_eq] at e
  obtain ⟨⟨⟨e1, e2⟩, e3⟩, e4⟩ := e
  cases a : h w with
  | none => rw [a] at e2; cases e2
  | some x =>
    cases b : π w with
    | none => rw [b] at e3; cases e3
    | some y =>
      refine ⟨e1, x, y, rfl, rfl, fun q => ?_⟩
      subst q
      rw [a, b] at e4
      simp at e4
/-- the moves of the reference as they stand listed -/
def MRep (τ : SS) (n : Nat) (B : Nat → Nat) : Prop := τ 0 23 = J (n : Int) ∧ ∀ k, k < n → τ 12 k = J (B k : Int)
def plR (K : Kt) (h π : Ro) (dn : Nat → Bool) (sb mo : Option Nat) : Ro := fun w => if h w = none then none else if sb = some (blk K w) then mo else if dn (blk K w) = true then π w else h w
theorem place_spec {τ : SS} {K : Kt} {h π : Ro} {n o : Nat} {B : Nat → Nat} {sb mo : Option Nat} {N : Nat} (hN : 20 ≤ N) (hK : KOk K) (hH : HOk K h) (hR : MdRep τ K) (hO : MdOv τ K (ovf h)) (hA : MdAt τ K 7 h) (hn : n ≤ 8) (hB : ∀ k, k < n → B k < 8) (hM : MRep τ n B) (hP : 0 < n → MdPl τ K π) (ho : o < 512) (hsb : ∀ b, sb = some b → b < 8) : ∃ τ1, fX6_place N (J (o : Int)) (rv sb) (rv mo) τ = some τ1 ∧ (∀ w, w < kW K → τ1 13 w = rv (plR K h π (dnb n B o) sb mo w)) ∧ ∀ x, x ≠ 13 → τ1 x = τ x := by
  have hW := hK.2.1
  have hcur : ∀ (k3 : Int32 → Int32 → Int32 → Int32 → SS → Option SS) (w : Nat), w < kW K → ∀ (e j m : Nat) (τ2 : SS), j + e = n → e < m → (∀ x, x ≠ 13 → τ2 x = τ x) → τ2 13 w = rv (if h w = none then none else if dnb j B o (blk K w) = true then π w else h w) → ∃ τ3, lp (fX6_place_43 N k3) (fun _ _ _ _ _ _ => none) m (J (o : Int)) (rv sb) (rv mo) (J (w : Int)) (J (j : Int)) τ2 = k3 (J (o : Int)) (rv sb) (rv mo) (J ((w : Int) + 1)) τ3 ∧ τ3 13 w = rv (plR K h π (dnb n B o) sb mo w) ∧ (∀ v, v ≠ w → τ3 13 v = τ2 13 v) ∧ ∀ x, x ≠ 13 → τ3 x = τ x := by
    intro k3 w hw e
    have hbl := blk_le K w
    induction e with
    | zero =>
      intro j m τ2 hj hm hk h13
      obtain ⟨m, rfl⟩ : ∃ m', m = m' + 1 := ⟨m - 1, by omega⟩
      have ej : j = n := by omega
      subst ej
      have hR2 : MdRep τ2 K := hR.keep (by rw [hk 0 (by omega)]) (by rw [hk 0 (by omega)]) (fun k a b => hk k (by omega))
      have hO2 : MdOv τ2 K (ovf h) := fun v hv => by rw [hk 8 (by omega)]; exact hO v hv
      rw [lp_succ, fX6_place_43, hk 0 (by omega), hM.1, if_pos ((J_le (by omega) (by omega) (by omega) (by omega)).mpr (by omega))]
      cases hs : sb with
      | none =>
        rw [if_pos (show rv none < (0 : Int32) from (J_lt (a := -1) (b := 0) (by omega) (by omega) (by omega) (by omega)).mpr (by omega)), fX6_place_120, J1, J_add]
        exact ⟨τ2, rfl, h13, fun _ _ => rfl, hk⟩
      | some b =>
        have hb8 := hsb b hs
        rw [if_neg (show ¬ rv (some b) < (0 : Int32) from fun q => by have := (J_lt (a := (b : Int)) (b := 0) (by omega) (by omega) (by omega) (by omega)).mp q; omega)]
        show ∃ τ3, cali (fX6_isOf N (J (w : Int)) (J (b : Int)) τ2) _ = _ ∧ _
        rw [isOf_spec (by omega) hK hR2 hO2 hH.ov hw (by omega), cali_s]
        cases hz : h w with
        | none =>
          have : ovf h w = true := by unfold ovf; rw [hz]; rfl
          rw [this, if_pos (by rfl), fX6_place_120, J1, J_add]
          refine ⟨τ2, rfl, ?_, fun _ _ => rfl, hk⟩
          rw [h13]
          unfold plR
          rw [if_pos hz, if_pos hz]
        | some y =>
          have : ovf h w = false := by unfold ovf; rw [hz]; rfl
          rw [this]
          by_cases c : blk K w = b
          · rw [decide_eq_true (by omega : (blk K w : Int) = (b : Int)), if_neg (by decide), ck_J (by omega) (by omega) (by omega), J_nn (by omega), sg, fX6_place_120, J1, J_add]
            refine ⟨_, rfl, ?_, fun v hv => by rw [stp_s, upd_n hv], fun x hx => by rw [stp_n hx]; exact hk x hx⟩
            rw [stp_s, upd_s]
            unfold plR
            rw [if_neg (by rw [hz]; simp), if_pos (by rw [c])]
          · rw [decide_eq_false (by omega : ¬ (blk K w : Int) = (b : Int)), if_pos (by rfl), fX6_place_120, J1, J_add]
            refine ⟨τ2, rfl, ?_, fun _ _ => rfl, hk⟩
            rw [h13]
            unfold plR
            have hne : ¬ h w = none := by rw [hz]; simp
            rw [if_neg hne, if_neg (show ¬ h w = none from hne), if_neg (show ¬ some b = some (blk K w) from fun q => c (Option.some.inj q).symm)]
    | succ e ih =>
      intro j m τ2 hj hm hk h13
      obtain ⟨m, rfl⟩ : ∃ m', m = m' + 1 := ⟨m - 1, by omega⟩
      have hjn : j < n := by omega
      have hBj := hB j hjn
      have hR2 : MdRep τ2 K := hR.keep (by rw [hk 0 (by omega)]) (by rw [hk 0 (by omega)]) (fun k a b => hk k (by omega))
      have hO2 : MdOv τ2 K (ovf h) := fun v hv => by rw [hk 8 (by omega)]; exact hO v hv
      have ed : dnb (j + 1) B o (blk K w) = (dnb j B o (blk K w) || (Nat.testBit o j && B j == blk K w)) := rfl
      rw [lp_succ, fX6_place_43, hk 0 (by omega), hM.1, if_neg (fun q => by have := (J_le (by omega) (by omega) (by omega) (by omega)).mp q; omega), bit_get o ho j (by omega)]
      have no : (h w = none ∨ (Nat.testBit o j && B j == blk K w) = false) → ∃ τ3, fX6_place_92 N k3 (lp (fX6_place_43 N k3) (fun _ _ _ _ _ _ => none) m) (J (o : Int)) (rv sb) (rv mo) (J (w : Int)) (J (j : Int)) τ2 = k3 (J (o : Int)) (rv sb) (rv mo) (J ((w : Int) + 1)) τ3 ∧ τ3 13 w = rv (plR K h π (dnb n B o) sb mo w) ∧ (∀ v, v ≠ w → τ3 13 v = τ2 13 v) ∧ ∀ x, x ≠ 13 → τ3 x = τ x := by
        intro z
        rw [fX6_place_92, J1, J_add]
        refine ih (j + 1) m τ2 (by omega) (by omega) hk ?_
        rw [h13]
        rcases z with z | z
        · rw [if_pos z, if_pos z]
        · rw [ed, z, Bool.or_false]
      cases hb : Nat.testBit o j with
      | false =>
        rw [if_neg (by decide)]
        exact no (Or.inr (by rw [hb]; rfl))
      | true =>
        rw [if_pos (by rfl), ck_J (by omega) (by omega) (by omega), J_nn (by omega), hk 12 (by omega), hM.2 j hjn, isOf_spec (by omega) hK hR2 hO2 hH.ov hw (by omega), cali_s]
        cases hz : h w with
        | none =>
          have : ovf h w = true := by unfold ovf; rw [hz]; rfl
          rw [this, if_pos (by rfl)]
          exact no (Or.inl hz)
        | some y =>
          have : ovf h w = false := by unfold ovf; rw [hz]; rfl
          rw [this]
          by_cases c : blk K w = B j
          · rw [decide_eq_true (by omega : (blk K w : Int) = (B j : Int)), if_neg (by decide)]
            simp (disch := omega) only [ck_J, J_nn, sg, hk 11 (by omega)]
            rw [hP (by omega) w hw]
            generalize hτ4 : stp τ2 13 (upd (τ2 13) w (rv (π w))) = τ4
            obtain ⟨τ3, a1, a2, a3, a4⟩ := ih (j + 1) m τ4 (by omega) (by omega) (fun x hx => by rw [← hτ4, stp_n hx]; exact hk x hx) (by
              rw [← hτ4, stp_s, upd_s, if_neg (by rw [hz]; simp), ed, hb, c]
              simp)
            rw [fX6_place_92, J1, J_add]
            exact ⟨τ3, a1, a2, fun v hv => by rw [a3 v hv, ← hτ4, stp_s, upd_n hv], a4⟩
          · rw [decide_eq_false (by omega : ¬ (blk K w : Int) = (B j : Int)), if_pos (by rfl)]
            refine no (Or.inr ?_)
            have : (B j == blk K w) = false := by simp; exact fun q => c q.symm
            rw [this, Bool.and_false]
  have key : ∀ (d w m : Nat) (τ2 : SS), w + d = kW K → d < m → (∀ x, x ≠ 13 → τ2 x = τ x) → (∀ v, v < w → τ2 13 v = rv (plR K h π (dnb n B o) sb mo v)) → ∃ τ1, lp (fX6_place_3 N) (fun _ _ _ _ _ => none) m (J (o : Int)) (rv sb) (rv mo) (J (w : Int)) τ2 = some τ1 ∧ (∀ w, w < kW K → τ1 13 w = rv (plR K h π (dnb n B o) sb mo w)) ∧ ∀ x, x ≠ 13 → τ1 x = τ x := by
    intro d
    induction d with
    | zero =>
      intro w m τ2 hw hm hk hv
      obtain ⟨m, rfl⟩ : ∃ m', m = m' + 1 := ⟨m - 1, by omega⟩
      rw [lp_succ, fX6_place_3, hk 0 (by omega), hR.2.1, if_pos ((J_le (by omega) (by omega) (by omega) (by omega)).mpr (by omega))]
      exact ⟨τ2, rfl, fun v h => hv v (by omega), hk⟩
    | succ d ih =>
      intro w m τ2 hw hm hk hv
      obtain ⟨m, rfl⟩ : ∃ m', m = m' + 1 := ⟨m - 1, by omega⟩
      have hwW : w < kW K := by omega
      rw [lp_succ, fX6_place_3, hk 0 (by omega), hR.2.1, if_neg (fun q => by have := (J_le (by omega) (by omega) (by omega) (by omega)).mp q; omega)]
      simp (disch := omega) only [ck_J, J_nn, hk 8 (by omega), hO w hwW, hk 7 (by omega)]
      have both : (if bz (ovf h w) = 0 then fX6_place_39 N (lp (fX6_place_3 N) (fun _ _ _ _ _ => none) m) (J (o : Int)) (rv sb) (rv mo) (J (w : Int)) (τ 7 w) (J (w : Int)) τ2 else fX6_place_39 N (lp (fX6_place_3 N) (fun _ _ _ _ _ => none) m) (J (o : Int)) (rv sb) (rv mo) (J (w : Int)) (-1) (J (w : Int)) τ2) = fX6_place_39 N (lp (fX6_place_3 N) (fun _ _ _ _ _ => none) m) (J (o : Int)) (rv sb) (rv mo) (J (w : Int)) (rv (h w)) (J (w : Int)) τ2 := by
        cases hz : h w with
        | none =>
          have : ovf h w = true := by unfold ovf; rw [hz]; rfl
          rw [this, if_neg (by decide)]
          rfl
        | some x =>
          have : ovf h w = false := by unfold ovf; rw [hz]; rfl
          rw [this, if_pos (by rfl), hA w x hwW hz]
          rfl
      rw [both, fX6_place_39, ck_J (by omega) (by omega) (by omega), J_nn (by omega), sg]
      generalize hτ4 : stp τ2 13 (upd (τ2 13) w (rv (h w))) = τ4
      obtain ⟨τ3, a1, a2, a3, a4⟩ := hcur (lp (fX6_place_3 N) (fun _ _ _ _ _ => none) m) w hwW n 0 N τ4 (by omega) (by omega) (fun x hx => by rw [← hτ4, stp_n hx]; exact hk x hx) (by
        rw [← hτ4, stp_s, upd_s]
        have : dnb 0 B o (blk K w) = false := rfl
        rw [this, if_neg (by decide : ¬ false = true)]
        cases hz : h w with
        | none => rw [if_pos rfl]
        | some x => rw [if_neg (by simp)])
      have a1' : lp (fX6_place_43 N (lp (fX6_place_3 N) (fun _ _ _ _ _ => none) m)) (fun _ _ _ _ _ _ => none) N (J (o : Int)) (rv sb) (rv mo) (J (w : Int)) 0 τ4 = _ := a1
      rw [a1']
      exact ih (w + 1) m τ3 (by omega) (by omega) a4 (fun v hv2 => by
        by_cases c : v = w
        · subst c; exact a2
        · rw [a3 v c, ← hτ4, stp_s, upd_n c]; exact hv v (by omega))
  exact key (kW K) 0 N τ (by omega) (by omega) (fun _ _ => rfl) (fun v hv => absurd hv (Nat.not_lt_zero _))
