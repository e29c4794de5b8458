/-- the least of those that do, the first of equals -/
def smr (cost : Nat → Int) (o : Option Nat) (j : Nat) : Bool := match o with
  | none => true
  | some l => decide (cost j < cost l)
def lsF (cost : Nat → Int) (c st : Nat → Bool) : Nat → Option Nat
  | 0 => none
  | j + 1 => if smr cost (lsF cost c st j) j && (c j && st j) then some j else lsF cost c st j
def lsK (cost : Nat → Int) (B : Nat → Nat) (st : Nat → Bool) : Nat → Option Nat
  | 0 => none
  | j + 1 => if smr cost (lsK cost B st j) (B j) && st (B j) then some (B j) else lsK cost B st j
theorem lsK_congr {cost : Nat → Int} {B B1 : Nat → Nat} {st : Nat → Bool} : ∀ n, (∀ k, k < n → B k = B1 k) → lsK cost B st n = lsK cost B1 st n := by
  intro n
  induction n with
  | zero => intro _; rfl
  | succ n ih =>
    intro h
    unfold lsK
    rw [ih (fun k hk => h k (by omega)), h n (by omega)]
theorem lsF_lsK (cost : Nat → Int) (c st : Nat → Bool) : ∀ j, lsF cost c st j = lsK cost (gb c j).2 st (gb c j).1 := by
  intro j
  induction j with
  | zero => rfl
  | succ j ih =>
    cases e : c j with
    | false =>
      have eg : gb c (j + 1) = gb c j := by rw [gb, e, if_neg (by decide)]
      rw [eg, ← ih, lsF, e, Bool.false_and, Bool.and_false, if_neg (by decide)]
    | true =>
      have eg : gb c (j + 1) = ((gb c j).1 + 1, fun k => if k = (gb c j).1 then j else (gb c j).2 k) := by rw [gb, e, if_pos rfl]
      rw [eg]
      show _ = lsK cost _ st ((gb c j).1 + 1)
      have eB : ((gb c j).1 + 1, fun k => if k = (gb c j).1 then j else (gb c j).2 k).2 (gb c j).1 = j := if_pos rfl
      rw [lsK, lsK_congr (B1 := (gb c j).2) (gb c j).1 (fun k hk => if_neg (by omega)), ← ih, eB, lsF, e, Bool.true_and]
theorem lsF_lt {cost : Nat → Int} {c st : Nat → Bool} : ∀ j l, lsF cost c st j = some l → l < j ∧ c l = true := by
  intro j
  induction j with
  | zero => intro l h; cases h
  | succ j ih =>
    intro l h
    unfold lsF at h
    by_cases e : (smr cost (lsF cost c st j) j && (c j && st j)) = true
    · rw [if_pos e] at h
      cases h
      simp only [Bool.and_eq_true] at e
      exact ⟨by omega, e.2.1⟩
    · rw [if_neg e] at h
      have := ih l h
      exact ⟨by omega, this.2⟩
theorem lsK_is {cost : Nat → Int} {B : Nat → Nat} {st : Nat → Bool} : ∀ n l, lsK cost B st n = some l → ∃ k, k < n ∧ B k = l := by
  intro n
  induction n with
  | zero => intro l h; cases h
  | succ n ih =>
    intro l h
    unfold lsK at h
    by_cases e : (smr cost (lsK cost B st n) (B n) && st (B n)) = true
    · rw [if_pos e] at h
      cases h
      exact ⟨n, by omega, rfl⟩
    · rw [if_neg e] at h
      obtain ⟨k, h1, h2⟩ := ih l h
      exact ⟨k, by omega, h2⟩
def cO (K : Kt) (b : Nat) : Int := bA K b + bB K b
theorem gb_count {c : Nat → Bool} {b : Nat} (hb : c b = true) : ∀ j, (gb c j).1 = (gb (fun w => (some b != some w) && c w) j).1 + (if b < j then 1 else 0) := by
  intro j
  induction j with
  | zero => rfl
  | succ j ih =>
    have e1 : (gb c (j + 1)).1 = (gb c j).1 + (if c j = true then 1 else 0) := by
      rw [gb]
      by_cases e : c j = true
      · rw [if_pos e, if_pos e]
      · rw [if_neg e, if_neg e]; rfl
    have e2 : (gb (fun w => (some b != some w) && c w) (j + 1)).1 = (gb (fun w => (some b != some w) && c w) j).1 + (if ((some b != some j) && c j) = true then 1 else 0) := by
      rw [gb]
      by_cases e : ((some b != some j) && c j) = true
      · rw [if_pos e, if_pos e]
      · rw [if_neg e, if_neg e]; rfl
    rw [e1, e2, ih]
    by_cases cb : b = j
    · subst cb
      rw [if_pos hb, if_neg (show ¬ ((some b != some b) && c b) = true by simp), if_neg (show ¬ b < b by omega), if_pos (show b < b + 1 by omega)]
    · have : (some b != some j) = true := by simp [cb]
      rw [this, Bool.true_and]
      by_cases c1 : b < j
      · rw [if_pos c1, if_pos (show b < j + 1 by omega)]; omega
      · rw [if_neg c1, if_neg (show ¬ b < j + 1 by omega)]; omega
theorem mvc_count {K : Kt} {h π : Ro} {kb : Nat} (hk : kb < mN K h π) : mN K h π = sN K h π (mB K h π kb) + 1 := by
  have g := (gb_spec (mvd K h π) (kW K)).2.1 kb hk
  have := gb_count (c := mvd K h π) (b := mB K h π kb) g.2 (kW K)
  rw [if_pos (show mB K h π kb < kW K from g.1)] at this
  exact this
section LEAST
variable {k : Nat} {σ τ : SS} {K : Kt} {h : Ro} {t : Int} {π : Ro} {N : Nat}
theorem leastStop_spec (hN : 600 ≤ N) (q : RelX k σ τ K h t true π) : ∃ σ1, fX0_leastStop N 40 σ = some (rv (lsF (cO K) (mvd K h π) (hasS K h π) (kW K)), σ1) ∧ KeepO σ σ1 := by
  obtain ⟨q1, q2, q3, q4, q5, q6, q7, -, -, q10⟩ := id q
  obtain ⟨z1, z2, z3⟩ := q10 rfl
  have hW := q1.2.1
  have hM := q1.1
  have key : ∀ (d j n : Nat) (σ2 : SS), j + d = kW K → d < n → KeepO σ σ2 → ∃ σ1, lp (fX0_leastStop_4 N 40) (fun _ _ _ => none) n (rv (lsF (cO K) (mvd K h π) (hasS K h π) j)) (J (j : Int)) σ2 = some (rv (lsF (cO K) (mvd K h π) (hasS K h π) (kW K)), σ1) ∧ KeepO σ σ1 := by
    intro d
    induction d with
    | zero =>
      intro j n σ2 hj hn hk2
      obtain ⟨n, rfl⟩ : ∃ n', n = n' + 1 := ⟨n - 1, by omega⟩
      have ej : j = kW K := by omega
      subst ej
      rw [lp_succ, fX0_leastStop_4, hk2 1 (by omega), q3.2.1, if_pos ((J_le (by omega) (by omega) (by omega) (by omega)).mpr (by omega))]
      exact ⟨σ2, rfl, hk2⟩
    | succ d ih =>
      intro j n σ2 hj hn hk2
      obtain ⟨n, rfl⟩ : ∃ n', n = n' + 1 := ⟨n - 1, by omega⟩
      have hjW : j < kW K := by omega
      have hS2 : StRep σ2 K := q3.keep (fun k a b => hk2 k (by omega))
      have hR2 : RowRep σ2 13 K h := q4.keep (fun k a b => hk2 k (by omega))
      have hQ2 : RowAt σ2 40 π := fun w hw => by rw [hk2 40 (by omega)]; exact z2 w hw
      have es : lsF (cO K) (mvd K h π) (hasS K h π) (j + 1) = if smr (cO K) (lsF (cO K) (mvd K h π) (hasS K h π) j) j && (mvd K h π j && hasS K h π j) then some j else lsF (cO K) (mvd K h π) (hasS K h π) j := rfl
      have hlt := lsF_lt (cost := cO K) (c := mvd K h π) (st := hasS K h π) j
      have no : ∀ σ3, KeepO σ σ3 → (smr (cO K) (lsF (cO K) (mvd K h π) (hasS K h π) j) j && (mvd K h π j && hasS K h π j)) = false → ∃ σ1, fX0_leastStop_74 N 40 (lp (fX0_leastStop_4 N 40) (fun _ _ _ => none) n) (rv (lsF (cO K) (mvd K h π) (hasS K h π) j)) (J (j : Int)) σ3 = some (rv (lsF (cO K) (mvd K h π) (hasS K h π) (kW K)), σ1) ∧ KeepO σ σ1 := by
        intro σ3 hk3 hz
        rw [hz, if_neg (by decide)] at es
        rw [fX0_leastStop_74, J1, J_add, ← es]
        exact ih (j + 1) n σ3 (by omega) (by omega) hk3
      have yes : smr (cO K) (lsF (cO K) (mvd K h π) (hasS K h π) j) j = true → ∃ σ1, fX0_leastStop_39 N 40 (lp (fX0_leastStop_4 N 40) (fun _ _ _ => none) n) (rv (lsF (cO K) (mvd K h π) (hasS K h π) j)) (J (j : Int)) σ2 = some (rv (lsF (cO K) (mvd K h π) (hasS K h π) (kW K)), σ1) ∧ KeepO σ σ1 := by
        intro hs
        rw [fX0_leastStop_39, fX0_leastStop_44, if_neg (by decide), isMovedIn_spec N q1 hS2 hR2 q2.1 hQ2 z1.1 hjW, cali_s]
        cases hmv : mvd K h π j with
        | false =>
          rw [if_pos bz_f]
          exact no σ2 hk2 (by rw [hmv, Bool.false_and, Bool.and_false])
        | true =>
          have q' : RelX k σ2 τ K h t true π := q.orders (Nat.le_refl _) hk2 (fun _ _ _ _ _ => rfl) (fun _ _ => rfl)
          obtain ⟨σ3, t1, t2⟩ := hasStop_spec hN q' hjW
          have hk3 := hk2.trans t2
          rw [if_neg (by decide), t1, cali_s]
          cases hst : hasS K h π j with
          | false =>
            rw [if_pos bz_f]
            exact no σ3 hk3 (by rw [hst, Bool.and_false, Bool.and_false])
          | true =>
            rw [hs, hmv, hst, Bool.and_self, Bool.and_self, if_pos rfl] at es
            rw [if_neg (by decide), fX0_leastStop_74, J1, J_add]
            have := ih (j + 1) n σ3 (by omega) (by omega) hk3
            rw [es] at this
            exact this
      rw [lp_succ, fX0_leastStop_4, hk2 1 (by omega), q3.2.1, if_neg (fun q => by have := (J_le (by omega) (by omega) (by omega) (by omega)).mp q; omega)]
      cases hl : lsF (cO K) (mvd K h π) (hasS K h π) j with
      | none =>
        rw [hl] at yes
        rw [if_pos (show rv none = (-1 : Int32) from rfl)]
        exact yes rfl
      | some l =>
        have hlj := hlt l hl
        rw [hl] at yes no
        have c1 := bA_bd q1 j
        have c2 := bA_bd q1 l
        rw [if_neg (show ¬ rv (some l) = (-1 : Int32) from fun z => by have := (J_eq (a := (l : Int)) (b := -1) (by omega) (by omega) (by omega) (by omega)).mp (show J (l : Int) = J (-1) from z); omega), moveCost_spec N q1 hS2 hjW, cali_s]
        show ∃ σ1, cali (fX3_moveCost N (J (l : Int)) σ2) _ = _ ∧ _
        rw [moveCost_spec N q1 hS2 (by omega), cali_s]
        have cle := J_le (a := bA K l + bB K l) (b := bA K j + bB K j) (by omega) (by omega) (by omega) (by omega)
        by_cases c : bA K l + bB K l ≤ bA K j + bB K j
        · rw [if_pos (cle.mpr c), fX0_leastStop_44, if_pos rfl]
          exact no σ2 hk2 (by
            have : smr (cO K) (some l) j = false := decide_eq_false (by unfold cO; omega)
            rw [this]; rfl)
        · rw [if_neg (fun z => c (cle.mp z))]
          exact yes (decide_eq_true (by unfold cO; omega))
  exact key (kW K) 0 N σ (by omega) (by omega) (fun _ _ => rfl)
theorem mstop_spec {τ : SS} {N : Nat} (hN : 300 ≤ N) (hK : KOk K) (hH : HOk K h) (hP : PlanOk K h π) (hB : MB τ K h π) : ∃ τ1, lp (fX6_byStop_22 N) (fun _ _ _ => none) N (-1) 0 τ = some (rv (lsF (cO K) (mvd K h π) (hasS K h π) (kW K)), τ1) ∧ KeepN τ τ1 := by
  have hn := mN_le (h := h) (π := π) hK
  have hW := hK.2.1
  have hM := hK.1
  rw [lsF_lsK]
  show ∃ τ1, lp (fX6_byStop_22 N) (fun _ _ _ => none) N (-1) 0 τ = some (rv (lsK (cO K) (mB K h π) (hasS K h π) (mN K h π)), τ1) ∧ KeepN τ τ1
  have key : ∀ (d j n : Nat) (τ2 : SS), j + d = mN K h π → d < n → KeepN τ τ2 → ∃ τ1, lp (fX6_byStop_22 N) (fun _ _ _ => none) n (rv (lsK (cO K) (mB K h π) (hasS K h π) j)) (J (j : Int)) τ2 = some (rv (lsK (cO K) (mB K h π) (hasS K h π) (mN K h π)), τ1) ∧ KeepN τ τ1 := by
    intro d
    induction d with
    | zero =>
      intro j n τ2 hj hn' hk2
      obtain ⟨n, rfl⟩ : ∃ n', n = n' + 1 := ⟨n - 1, by omega⟩
      have hB2 := hB.keep hk2
      have ej : j = mN K h π := by omega
      subst ej
      rw [lp_succ, fX6_byStop_22, hB2.2.2.2.2.1, if_pos ((J_le (by omega) (by omega) (by omega) (by omega)).mpr (by omega))]
      exact ⟨τ2, rfl, hk2⟩
    | succ d ih =>
      intro j n τ2 hj hn' hk2
      obtain ⟨n, rfl⟩ : ∃ n', n = n' + 1 := ⟨n - 1, by omega⟩
      have hB2 := hB.keep hk2
      have hjn : j < mN K h π := by omega
      obtain ⟨b1, b2, x, y, b3, b4, b5⟩ := mB_ok hjn
      have es : lsK (cO K) (mB K h π) (hasS K h π) (j + 1) = if smr (cO K) (lsK (cO K) (mB K h π) (hasS K h π) j) (mB K h π j) && hasS K h π (mB K h π j) then some (mB K h π j) else lsK (cO K) (mB K h π) (hasS K h π) j := rfl
      have hin := lsK_is (cost := cO K) (B := mB K h π) (st := hasS K h π) j
      have no : ∀ τ3, KeepN τ τ3 → (smr (cO K) (lsK (cO K) (mB K h π) (hasS K h π) j) (mB K h π j) && hasS K h π (mB K h π j)) = false → ∃ τ1, fX6_byStop_68 N (lp (fX6_byStop_22 N) (fun _ _ _ => none) n) (rv (lsK (cO K) (mB K h π) (hasS K h π) j)) (J (j : Int)) τ3 = some (rv (lsK (cO K) (mB K h π) (hasS K h π) (mN K h π)), τ1) ∧ KeepN τ τ1 := by
        intro τ3 hk3 hz
        rw [hz, if_neg (by decide)] at es
        rw [fX6_byStop_68, J1, J_add, ← es]
        exact ih (j + 1) n τ3 (by omega) (by omega) hk3
      have yes : smr (cO K) (lsK (cO K) (mB K h π) (hasS K h π) j) (mB K h π j) = true → ∃ τ1, fX6_byStop_53 N (lp (fX6_byStop_22 N) (fun _ _ _ => none) n) (rv (lsK (cO K) (mB K h π) (hasS K h π) j)) (J (j : Int)) τ2 = some (rv (lsK (cO K) (mB K h π) (hasS K h π) (mN K h π)), τ1) ∧ KeepN τ τ1 := by
        intro hs
        obtain ⟨τ3, t1, t2, t3⟩ := canAll_spec (out := some j) (N := N) hN hK hH hP hB2 (fun x q => by cases q; exact hjn)
        have t1' : fX6_canAll N (J (j : Int)) τ2 = some (bz (canX (mN K h π) (okM K h π (some j)) 0), τ3) := t1
        have hk3 := hk2.trans t3
        have hB3 := hB.keep hk3
        have hrel : SR K h π (mB K h π j) j 0 0 := by
          refine ⟨Nat.pow_pos (by omega), Nat.pow_pos (by omega), fun x => ?_, Nat.zero_testBit _, ?_⟩
          · have z0 : ∀ (n : Nat) (B : Nat → Nat), dnb n B 0 x = false := fun n B => by
              cases e : dnb n B 0 x with
              | false => rfl
              | true =>
                obtain ⟨k, -, h2, -⟩ := dnb_true.mp e
                rw [Nat.zero_testBit] at h2
                cases h2
            rw [z0, z0]
          · rw [rm_start, rm_start]
            exact mvc_count hjn
        have heq := stop_eq hK hH hP hjn rfl _ 0 0 rfl hrel
        have heq' : hasS K h π (mB K h π j) = canX (mN K h π) (okM K h π (some j)) 0 := heq
        rw [fX6_byStop_53, t1', cali_s, ← heq']
        cases hst : hasS K h π (mB K h π j) with
        | false =>
          rw [if_pos bz_f]
          exact no τ3 hk3 (by rw [hst, Bool.and_false])
        | true =>
          rw [hs, hst, Bool.and_self, if_pos rfl] at es
          rw [if_neg (by decide), ck_J (by omega) (by omega) (by omega), J_nn (by omega), hB3.2.2.2.2.2 j hjn, fX6_byStop_68, J1, J_add]
          have := ih (j + 1) n τ3 (by omega) (by omega) hk3
          rw [es] at this
          exact this
      rw [lp_succ, fX6_byStop_22, hB2.2.2.2.2.1, if_neg (fun q => by have := (J_le (by omega) (by omega) (by omega) (by omega)).mp q; omega)]
      cases hl : lsK (cO K) (mB K h π) (hasS K h π) j with
      | none =>
        rw [hl] at yes
        rw [if_pos (show rv none = (-1 : Int32) from rfl)]
        exact yes rfl
      | some l =>
        obtain ⟨kl, kl1, kl2⟩ := hin l hl
        obtain ⟨d1, d2, x2, y2, d3, d4, d5⟩ := mB_ok (show kl < mN K h π by omega)
        rw [kl2] at d1 d2 d3 d4
        rw [hl] at yes no
        have c1 := bA_bd hK (mB K h π j)
        have c2 := bA_bd hK l
        rw [if_neg (show ¬ rv (some l) = (-1 : Int32) from fun z => by have := (J_eq (a := (l : Int)) (b := -1) (by omega) (by omega) (by omega) (by omega)).mp (show J (l : Int) = J (-1) from z); omega), ck_J (by omega) (by omega) (by omega), J_nn (by omega), hB2.2.2.2.2.2 j hjn, costOf_spec (by omega) hK hB2.1 hB2.2.1 hH.ov b1 (ovf_some b3), cali_s]
        show ∃ τ1, cali (fX6_costOf N (J (l : Int)) τ2) _ = _ ∧ _
        rw [costOf_spec (by omega) hK hB2.1 hB2.2.1 hH.ov d1 (ovf_some d3), cali_s]
        have cle := J_le (a := bA K l + bB K l) (b := bA K (mB K h π j) + bB K (mB K h π j)) (by omega) (by omega) (by omega) (by omega)
        by_cases c : bA K l + bB K l ≤ bA K (mB K h π j) + bB K (mB K h π j)
        · rw [if_pos (cle.mpr c)]
          exact no τ2 hk2 (by
            have : smr (cO K) (some l) (mB K h π j) = false := decide_eq_false (by unfold cO; omega)
            rw [this]; rfl)
        · rw [if_neg (fun z => c (cle.mp z))]
          exact yes (decide_eq_true (by unfold cO; omega))
  exact key (mN K h π) 0 N τ (by omega) (by omega) (fun _ _ _ => rfl)
end LEAST
theorem S_byStop_ok {N : Nat} (hN : 600 ≤ N) : S_byStop N Rel := by
  rintro k σ τ hk ⟨K, h, t, pl, π, q⟩
  obtain ⟨-, -, -, p4, p5⟩ := q.2.2.2.2.2.2.2.2.1
  rw [fX5_byStop, fX6_byStop, p5]
  cases pl with
  | false =>
    rw [fX5_lacksOrder, p4, if_pos (by rfl), if_pos (by rfl), fX5_lacksOrder_25, fX5_lacksOrder_26]
    exact ⟨-3, σ, τ, rfl, rfl, K, h, t, _, π, q.up⟩
  | true =>
    obtain ⟨σ1, τ1, a1, a2, b1, b2, b3, b4⟩ := lacks_spec hN q
    have q1 : RelX k σ1 τ1 K h t true π := q.orders (Nat.le_refl _) a2 b3 b4
    have z1 := (q.2.2.2.2.2.2.2.2.2 rfl).1
    rw [if_neg (by decide), a1, cali_s, b1, cali_s]
    cases canX (mN K h π) (okM K h π none) 0 with
    | true =>
      rw [if_pos (by rfl), if_pos (by rfl)]
      exact ⟨-3, σ1, τ1, rfl, rfl, K, h, t, _, π, q1.up⟩
    | false =>
      rw [if_neg (by decide), if_neg (by decide)]
      obtain ⟨σ2, c1, c2⟩ := leastStop_spec hN q1
      obtain ⟨τ2, d1, d2⟩ := mstop_spec (N := N) (by omega) q.1 q.2.1 z1 b2
      rw [c1, cali_s, fX5_byStop_23, d1]
      exact ⟨_, σ2, τ2, rfl, rfl, K, h, t, _, π, q1.orders (by omega) c2 (fun x _ _ h3 h4 => d2 x h3 h4) (fun i _ => by rw [d2 0 (by omega) (by omega)])⟩
