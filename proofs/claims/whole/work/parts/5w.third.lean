/-! a move by a third place: one job more, that the block's own waits for -/
def jB3 (K : Kt) (h π : Ro) (b : Nat) : Nat → Nat := fun k => if k = mN K h π then b else mB K h π k
def jT3 (K : Kt) (h π : Ro) (m : Nat) : Nat → Nat := fun k => if k = mN K h π then m else tgt π (mB K h π k)
def jQ3 (K : Kt) (h π : Ro) (b : Nat) : Nat → Option Nat := fun k => if k = mN K h π then none else if mB K h π k = b then some (mN K h π) else none
def ps3 (K : Kt) (h π : Ro) (b m : Nat) (o : Nat) : Ro := mvR K (dnb (mN K h π) (mB K h π) o) (if Nat.testBit o (mN K h π) = true then shR K h b (some m) (kW K) else h) π
def ok3 (K : Kt) (h π : Ro) (b m : Nat) : Nat → Nat → Bool := okJ K (jB3 K h π b) (jT3 K h π m) (jQ3 K h π b) (ps3 K h π b m)
def has3 (K : Kt) (h π : Ro) (b m : Nat) : Bool := canX (mN K h π + 1) (ok3 K h π b m) 0
theorem dnb_hi {n o : Nat} {B : Nat → Nat} {b : Nat} : dnb n B (o ||| 2 ^ n) b = dnb n B o b := by
  unfold dnb
  exact anyk_congr (fun k hk => by rw [tb_set, decide_eq_false (by omega : ¬ n = k), Bool.or_false])
theorem ps3_base {K : Kt} {h : Ro} {b m o n : Nat} (hh : RoOk K h) (hm : m < kM K) : RoOk K (if Nat.testBit o n = true then shR K h b (some m) (kW K) else h) := by
  by_cases c : Nat.testBit o n = true
  · rw [if_pos c]; exact shR_ok hh hm
  · rw [if_neg c]; exact hh
theorem js3 {K : Kt} {h π : Ro} {b m kb : Nat} (hK : KOk K) (hH : HOk K h) (hP : PlanOk K h π) (hkb : kb < mN K h π) (eb : mB K h π kb = b) (hm : m < kM K) : JS K (mN K h π + 1) (jB3 K h π b) (jT3 K h π m) (jQ3 K h π b) (fun o => Nat.testBit o kb = true → Nat.testBit o (mN K h π) = true) (ps3 K h π b m) := by
  have hW := hK.2.1
  have hn := mN_le (h := h) (π := π) hK
  obtain ⟨e1, e2, xb, yb, e3, e4, e5⟩ := mB_ok hkb
  rw [eb] at e1 e2 e3 e4
  refine ⟨by omega, fun k hk => ?_, fun o _ => mvR_ok (ps3_base hH.1 hm) hP.1, fun o k ho hg hk hop => ?_⟩
  · unfold jB3 jT3 jQ3
    by_cases c : k = mN K h π
    · rw [if_pos c, if_pos c, if_pos c]
      exact ⟨e1, e2, hm, fun d q => by cases q⟩
    · rw [if_neg c, if_neg c, if_neg c]
      obtain ⟨b1, b2, x, y, b3, b4, b5⟩ := mB_ok (show k < mN K h π by omega)
      refine ⟨b1, b2, by rw [tgt_some b4]; exact (hP.1 _ y b4).2, fun d q => ?_⟩
      by_cases c2 : mB K h π k = b
      · rw [if_pos c2] at q; cases q; omega
      · rw [if_neg c2] at q; cases q
  · have hop2 := hop
    unfold opn at hop2
    simp only [Bool.and_eq_true, Bool.not_eq_true'] at hop2
    obtain ⟨hbk, hq⟩ := hop2
    by_cases c : k = mN K h π
    · subst c
      have hbkb : Nat.testBit o kb = false := by
        cases e : Nat.testBit o kb with
        | false => rfl
        | true => rw [hg e] at hbk; cases hbk
      have hdn : dnb (mN K h π) (mB K h π) o b = false := by rw [← eb, dnb_own hkb]; exact hbkb
      refine ⟨fun _ => by rw [tb_set]; simp, ?_, ?_⟩
      · refine ⟨xb, (hH.1 _ xb e3).2, fun w hw hbw => ?_⟩
        unfold jB3 at hbw
        rw [if_pos rfl] at hbw
        unfold ps3 mvR
        rw [hbw, hdn, if_neg (by decide), hbk, if_neg (by decide)]
        exact uni_row hH.2.2.1 hH.fr_live e3 w hw hbw
      · funext w
        have eB : jB3 K h π b (mN K h π) = b := by unfold jB3; rw [if_pos rfl]
        have eT : jT3 K h π m (mN K h π) = m := by unfold jT3; rw [if_pos rfl]
        rw [eB, eT]
        unfold ps3
        rw [hbk, if_neg (by decide : ¬ false = true), if_pos (by rw [tb_set]; simp)]
        unfold mvR
        rw [dnb_hi]
        show (if w < kW K ∧ w < kW K ∧ blk K w = b then some m else if dnb (mN K h π) (mB K h π) o (blk K w) = true then π w else h w) = _
        by_cases cw : w < kW K ∧ w < kW K ∧ blk K w = b
        · rw [if_pos cw, cw.2.2, hdn, if_neg (by decide)]
          unfold shR
          rw [if_pos cw]
        · rw [if_neg cw]
          unfold shR
          rw [if_neg cw]
    · have hkn : k < mN K h π := by omega
      obtain ⟨b1, b2, x, y, b3, b4, b5⟩ := mB_ok hkn
      have eB : jB3 K h π b k = mB K h π k := by unfold jB3; rw [if_neg c]
      have eT : jT3 K h π m k = tgt π (mB K h π k) := by unfold jT3; rw [if_neg c]
      have ebn : Nat.testBit (o ||| 2 ^ k) (mN K h π) = Nat.testBit o (mN K h π) := by rw [tb_set, decide_eq_false c, Bool.or_false]
      refine ⟨fun z => ?_, ?_, ?_⟩
      · rw [ebn]
        rw [tb_set] at z
        cases e : Nat.testBit o kb with
        | true => exact hg e
        | false =>
          rw [e, Bool.false_or, decide_eq_true_eq] at z
          subst z
          unfold jQ3 at hq
          rw [if_neg c, if_pos eb] at hq
          exact hq
      · rw [eB]
        have hdn : dnb (mN K h π) (mB K h π) o (mB K h π k) = false := by rw [dnb_own hkn]; exact hbk
        have hu := uni_row hH.2.2.1 hH.fr_live b3
        by_cases cb : Nat.testBit o (mN K h π) = true ∧ mB K h π k = b
        · refine ⟨m, hm, fun w hw hbw => ?_⟩
          unfold ps3 mvR
          rw [hbw, hdn, if_neg (by decide), if_pos cb.1]
          unfold shR
          rw [if_pos ⟨hw, hw, by rw [hbw]; exact cb.2⟩]
        · refine ⟨x, (hH.1 _ x b3).2, fun w hw hbw => ?_⟩
          unfold ps3 mvR
          rw [hbw, hdn, if_neg (by decide)]
          by_cases c1 : Nat.testBit o (mN K h π) = true
          · rw [if_pos c1]
            unfold shR
            rw [if_neg (fun q => cb ⟨c1, by rw [← hbw]; exact q.2.2⟩)]
            exact hu w hw hbw
          · rw [if_neg c1]; exact hu w hw hbw
      · rw [eB, eT]
        unfold ps3
        rw [ebn]
        refine mvR_step (ps3_base hH.1 hm) hP.1 hkn (fun w hw hbw => ?_)
        rw [tgt_some b4]
        exact uni_row hP.2.2.1 (hP.fr_live hH) b4 w hw hbw
theorem ps3_zero {K : Kt} {h π : Ro} {b m : Nat} : ps3 K h π b m 0 = h := by
  unfold ps3
  rw [Nat.zero_testBit, if_neg (by decide), mvR_zero]
section HASTHIRD
variable {k : Nat} {σ τ : SS} {K : Kt} {h : Ro} {t : Int} {π : Ro} {N : Nat}
theorem hasThird_spec (hN : 600 ≤ N) (q : RelX k σ τ K h t true π) {b m kb : Nat} (hkb : kb < mN K h π) (eb : mB K h π kb = b) (hm : m < kM K) : ∃ σ1, fX0_hasThird N 40 (J (b : Int)) (J (m : Int)) σ = some (bz (has3 K h π b m), σ1) ∧ KeepO σ σ1 := by
  obtain ⟨q1, q2, q3, q4, q5, q6, q7, -, -, q10⟩ := q
  obtain ⟨z1, z2, z3⟩ := q10 rfl
  have hW := q1.2.1
  have hn := mN_le (h := h) (π := π) q1
  have hb := (mB_ok hkb).1
  rw [eb] at hb
  obtain ⟨σ1, a1, a2, a3, a4⟩ := gather_spec (q := 40) (out := none) (N := N) (by omega) (by omega) q1 q3 q4 q2.1 z2 z1.1 (fun w q => by cases q)
  rw [mvc_none] at a3
  have a1' : fX0_gather N 40 (-1) σ = some σ1 := a1
  have a3' : JRep σ1 (mN K h π) (mB K h π) (fun k => tgt π (mB K h π k)) (fun _ => none) := a3
  rw [fX0_hasThird, a1', calv_s, a3'.1]
  have key : ∀ (d j n : Nat) (σ2 : SS), j + d = mN K h π → d < n → KeepO σ σ2 → RowRep σ2 33 K h → JRep σ2 (mN K h π) (mB K h π) (fun k => tgt π (mB K h π k)) (fun k => if k < j then (if mB K h π k = b then some (mN K h π) else none) else none) → ∃ σ1, lp (fX0_hasThird_15 N 40) (fun _ _ _ _ _ => none) n (J (b : Int)) (J (m : Int)) (J (mN K h π : Int)) (J (j : Int)) σ2 = some (bz (has3 K h π b m), σ1) ∧ KeepO σ σ1 := by
    intro d
    induction d with
    | zero =>
      intro j n σ2 hj hn' hk2 hR2 hJ2
      obtain ⟨n, rfl⟩ : ∃ n', n = n' + 1 := ⟨n - 1, by omega⟩
      rw [lp_succ, fX0_hasThird_15, if_pos ((J_le (by omega) (by omega) (by omega) (by omega)).mpr (by omega))]
      obtain ⟨σ3, b1, b2, b3⟩ := addJob_spec (b := b) (m := m) N (by omega) hJ2
      rw [b1, calv_s]
      have hJ3 : JRep σ3 (mN K h π + 1) (jB3 K h π b) (jT3 K h π m) (jQ3 K h π b) := b2.congr (fun k hk => ⟨rfl, rfl, by
        show (if k = mN K h π then none else if k < j then (if mB K h π k = b then some (mN K h π) else none) else none) = _
        unfold jQ3
        by_cases c : k = mN K h π
        · rw [if_pos c, if_pos c]
        · rw [if_neg c, if_neg c, if_pos (by omega)]⟩)
      have hk3 : KeepO σ σ3 := hk2.trans (fun k a => b3 k (by omega) (by omega) (by omega) (by omega))
      obtain ⟨σ4, c1, c2, c3⟩ := seekAnew_spec (σ := σ3) (N := N) hN q1 (js3 q1 q2 z1 hkb eb hm) (fun z => by rw [Nat.zero_testBit] at z; cases z) (q3.keep (fun x a b => hk3 x (by omega))) (by rw [ps3_zero]; exact hR2.keep (fun k a b => b3 k (by omega) (by omega) (by omega) (by omega))) (by rw [ps3_zero]; exact q2.2.1) hJ3
      have c1' : fX0_seekAnew N σ3 = some (bz (has3 K h π b m), σ4) := c1
      rw [c1', cali_s]
      refine ⟨σ4, ?_, hk3.trans c2⟩
      cases has3 K h π b m <;> rfl
    | succ d ih =>
      intro j n σ2 hj hn' hk2 hR2 hJ2
      obtain ⟨n, rfl⟩ : ∃ n', n = n' + 1 := ⟨n - 1, by omega⟩
      have hjn : j < mN K h π := by omega
      have hBj := (mB_ok hjn).1
      rw [lp_succ, fX0_hasThird_15, if_neg (fun q => by have := (J_le (by omega) (by omega) (by omega) (by omega)).mp q; omega), ck_J (by omega) (by omega) (by omega), J_nn (by omega), (hJ2.2 j hjn).1]
      have ce := J_eq (a := (mB K h π j : Int)) (b := (b : Int)) (by omega) (by omega) (by omega) (by omega)
      by_cases c : mB K h π j = b
      · rw [if_pos (ce.mpr (by omega)), ck_J (by omega) (by omega) (by omega), sg, fX0_hasThird_44, J1, J_add]
        refine ih (j + 1) n _ (by omega) (by omega) (fun k a => by rw [stp_n (by omega)]; exact hk2 k a) (hR2.keep (fun k a b => by rw [stp_n (by omega)])) ⟨by rw [stp_n (by omega)]; exact hJ2.1, fun k hk => ⟨by rw [stp_n (by omega)]; exact (hJ2.2 k hk).1, by rw [stp_n (by omega)]; exact (hJ2.2 k hk).2.1, ?_⟩⟩
        rw [stp_s]
        by_cases ck : k = j
        · subst ck
          rw [upd_s]
          dsimp only
          rw [if_pos (show k < k + 1 by omega), if_pos c]; rfl
        · have := (hJ2.2 k hk).2.2
          rw [upd_n ck, this]
          dsimp only
          by_cases c1 : k < j
          · rw [if_pos c1, if_pos (show k < j + 1 by omega)]
          · rw [if_neg c1, if_neg (show ¬ k < j + 1 by omega)]
      · rw [if_neg (fun z => c (by have := ce.mp z; omega)), fX0_hasThird_44, J1, J_add]
        refine ih (j + 1) n σ2 (by omega) (by omega) hk2 hR2 (hJ2.congr (fun k hk => ⟨rfl, rfl, ?_⟩))
        by_cases ck : k = j
        · subst ck; rw [if_neg (by omega), if_pos (by omega), if_neg c]
        · by_cases c1 : k < j
          · rw [if_pos c1, if_pos (show k < j + 1 by omega)]
          · rw [if_neg c1, if_neg (show ¬ k < j + 1 by omega)]
  exact key (mN K h π) 0 N σ1 (by omega) (by omega) a4 a2 (a3'.congr (fun k hk => ⟨rfl, rfl, by rw [if_neg (by omega)]⟩))
end HASTHIRD
/-- the first that tells something -/
def fp (c : Nat → Bool) (g : Nat → Option Nat) : Nat → Option Nat
  | 0 => none
  | j + 1 => match fp c g j with
    | some x => some x
    | none => if c j then g j else none
def fpk (B : Nat → Nat) (g : Nat → Option Nat) : Nat → Option Nat
  | 0 => none
  | j + 1 => match fpk B g j with
    | some x => some x
    | none => g (B j)
theorem fpk_congr {B B1 : Nat → Nat} {g : Nat → Option Nat} : ∀ n, (∀ k, k < n → B k = B1 k) → fpk B g n = fpk B1 g n := by
  intro n
  induction n with
  | zero => intro _; rfl
  | succ n ih =>
    intro h
    unfold fpk
    rw [ih (fun k hk => h k (by omega)), h n (by omega)]
theorem fp_fpk (c : Nat → Bool) (g : Nat → Option Nat) : ∀ j, fp c g j = fpk (gb c j).2 g (gb c j).1 := by
  intro j
  induction j with
  | zero => rfl
  | succ j ih =>
    cases e : c j with
    | false =>
      have eg : gb c (j + 1) = gb c j := by rw [gb, e, if_neg (by decide)]
      rw [eg, ← ih, fp, e]
      cases fp c g j with
      | some x => rfl
      | none => rfl
    | true =>
      have eg : gb c (j + 1) = ((gb c j).1 + 1, fun k => if k = (gb c j).1 then j else (gb c j).2 k) := by rw [gb, e, if_pos rfl]
      rw [eg]
      show _ = fpk _ g ((gb c j).1 + 1)
      rw [fpk, fpk_congr (B1 := (gb c j).2) (gb c j).1 (fun k hk => if_neg (by omega)), ← ih, fp, e]
      cases fp c g j with
      | some x => rfl
      | none =>
        show g j = g (if (gb c j).1 = (gb c j).1 then j else (gb c j).2 (gb c j).1)
        rw [if_pos rfl]
theorem fp_some {c : Nat → Bool} {g : Nat → Option Nat} {j x : Nat} (h : fp c g j = some x) : ∀ d, fp c g (j + d) = some x := by
  intro d
  induction d with
  | zero => exact h
  | succ d ih =>
    show (match fp c g (j + d) with
      | some x => some x
      | none => if c (j + d) then g (j + d) else none) = some x
    rw [ih]
theorem fpk_some {B : Nat → Nat} {g : Nat → Option Nat} {j x : Nat} (h : fpk B g j = some x) : ∀ d, fpk B g (j + d) = some x := by
  intro d
  induction d with
  | zero => exact h
  | succ d ih =>
    show (match fpk B g (j + d) with
      | some x => some x
      | none => g (B (j + d))) = some x
    rw [ih]
def c3 (K : Kt) (h π : Ro) (w m : Nat) : Bool := !(decide (h w = some m)) && !(decide (π w = some m)) && has3 K h π w m
def g3 (K : Kt) (h π : Ro) (w : Nat) : Option Nat := fp (c3 K h π w) (fun m => some (w * 8 + m)) (kM K)
section FIRSTTHIRD
variable {k : Nat} {σ τ : SS} {K : Kt} {h : Ro} {t : Int} {π : Ro} {N : Nat}
theorem firstThird_spec (hN : 600 ≤ N) (q : RelX k σ τ K h t true π) : ∃ σ1, fX0_firstThird N 40 σ = some (rv (fp (mvd K h π) (g3 K h π) (kW K)), σ1) ∧ KeepO σ σ1 := by
  obtain ⟨q1, q2, q3, q4, q5, q6, q7, -, -, q10⟩ := id q
  obtain ⟨z1, z2, z3⟩ := q10 rfl
  have hW := q1.2.1
  have hM := q1.1
  have key : ∀ (d j n : Nat) (σ2 : SS), j + d = kW K → d < n → KeepO σ σ2 → fp (mvd K h π) (g3 K h π) j = none → ∃ σ1, lp (fX0_firstThird_2 N 40) (fun _ _ => none) n (J (j : Int)) σ2 = some (rv (fp (mvd K h π) (g3 K h π) (kW K)), σ1) ∧ KeepO σ σ1 := by
    intro d
    induction d with
    | zero =>
      intro j n σ2 hj hn hk2 hnone
      obtain ⟨n, rfl⟩ : ∃ n', n = n' + 1 := ⟨n - 1, by omega⟩
      have ej : j = kW K := by omega
      subst ej
      rw [lp_succ, fX0_firstThird_2, hk2 1 (by omega), q3.2.1, if_pos ((J_le (by omega) (by omega) (by omega) (by omega)).mpr (by omega)), hnone]
      exact ⟨σ2, rfl, hk2⟩
    | succ d ih =>
      intro j n σ2 hj hn hk2 hnone
      obtain ⟨n, rfl⟩ : ∃ n', n = n' + 1 := ⟨n - 1, by omega⟩
      have hjW : j < kW K := by omega
      have efp : fp (mvd K h π) (g3 K h π) (j + 1) = if mvd K h π j then g3 K h π j else none := by
        show (match fp (mvd K h π) (g3 K h π) j with
          | some x => some x
          | none => if mvd K h π j then g3 K h π j else none) = _
        rw [hnone]
      have inner : ∀ (e y i : Nat) (σ3 : SS), y + e = kM K → e < i → KeepO σ σ3 → fp (c3 K h π j) (fun m => some (j * 8 + m)) y = none → ∃ σ1, lp (fX0_firstThird_15 N 40 (lp (fX0_firstThird_2 N 40) (fun _ _ => none) n)) (fun _ _ _ => none) i (J (j : Int)) (J (y : Int)) σ3 = some (rv (fp (mvd K h π) (g3 K h π) (kW K)), σ1) ∧ KeepO σ σ1 := by
        intro e
        induction e with
        | zero =>
          intro y i σ3 hy hi hk3 hno
          obtain ⟨i, rfl⟩ : ∃ i', i = i' + 1 := ⟨i - 1, by omega⟩
          have ey : y = kM K := by omega
          subst ey
          rw [lp_succ, fX0_firstThird_15, hk3 1 (by omega), q3.1, if_pos ((J_le (by omega) (by omega) (by omega) (by omega)).mpr (by omega)), fX0_firstThird_81, J1, J_add]
          refine ih (j + 1) n σ3 (by omega) (by omega) hk3 ?_
          rw [efp]
          cases mvd K h π j with
          | false => rfl
          | true => exact hno
        | succ e ihe =>
          intro y i σ3 hy hi hk3 hno
          obtain ⟨i, rfl⟩ : ∃ i', i = i' + 1 := ⟨i - 1, by omega⟩
          have hyM : y < kM K := by omega
          have hS3 : StRep σ3 K := q3.keep (fun k a b => hk3 k (by omega))
          have hR3 : RowRep σ3 13 K h := q4.keep (fun k a b => hk3 k (by omega))
          have hQ3 : RowAt σ3 40 π := fun w hw => by rw [hk3 40 (by omega)]; exact z2 w hw
          rw [lp_succ, fX0_firstThird_15, hk3 1 (by omega), q3.1, if_neg (fun q => by have := (J_le (by omega) (by omega) (by omega) (by omega)).mp q; omega), isMovedIn_spec N q1 hS3 hR3 q2.1 hQ3 z1.1 hjW, cali_s]
          cases hmv : mvd K h π j with
          | false =>
            rw [if_pos bz_f, fX0_firstThird_81, J1, J_add]
            exact ih (j + 1) n σ3 (by omega) (by omega) hk3 (by rw [efp, hmv]; rfl)
          | true =>
            obtain ⟨m1, x, y1, m2, m3, m4⟩ := mvd_true hmv
            have hxM := (q2.1 j x m2).2
            have hyM1 := (z1.1 j y1 m3).2
            have efy : fp (c3 K h π j) (fun m => some (j * 8 + m)) (y + 1) = if c3 K h π j y then some (j * 8 + y) else none := by
              show (match fp (c3 K h π j) (fun m => some (j * 8 + m)) y with
                | some x => some x
                | none => if c3 K h π j y then some (j * 8 + y) else none) = _
              rw [hno]
            have next : ∀ σ4 : SS, KeepO σ σ4 → c3 K h π j y = false → ∃ σ1, fX0_firstThird_75 N 40 (lp (fX0_firstThird_2 N 40) (fun _ _ => none) n) (lp (fX0_firstThird_15 N 40 (lp (fX0_firstThird_2 N 40) (fun _ _ => none) n)) (fun _ _ _ => none) i) (J (j : Int)) (J (y : Int)) σ4 = some (rv (fp (mvd K h π) (g3 K h π) (kW K)), σ1) ∧ KeepO σ σ1 := by
              intro σ4 hk4 hc
              rw [fX0_firstThird_75, J1, J_add]
              exact ihe (y + 1) i σ4 (by omega) (by omega) hk4 (by rw [efy, hc]; rfl)
            rw [if_neg (by decide)]
            simp (disch := omega) only [ck_J, J_nn]
            rw [hR3.1 j (by omega), hQ3 j (by omega), m2, m3]
            have c1 := J_eq (a := (y : Int)) (b := (x : Int)) (by omega) (by omega) (by omega) (by omega)
            have c2 := J_eq (a := (y : Int)) (b := (y1 : Int)) (by omega) (by omega) (by omega) (by omega)
            by_cases d1 : y = x
            · rw [if_pos (show J (y : Int) = rv (some x) from c1.mpr (by omega))]
              exact next σ3 hk3 (by unfold c3; rw [m2, d1, decide_eq_true rfl]; rfl)
            · rw [if_neg (show ¬ J (y : Int) = rv (some x) from fun z => d1 (by have := c1.mp z; omega))]
              by_cases d2 : y = y1
              · rw [if_pos (show J (y : Int) = rv (some y1) from c2.mpr (by omega))]
                exact next σ3 hk3 (by unfold c3; rw [m3, d2, decide_eq_true (show some y1 = some y1 from rfl)]; simp)
              · rw [if_neg (show ¬ J (y : Int) = rv (some y1) from fun z => d2 (by have := c2.mp z; omega))]
                obtain ⟨kb, hkb, ekb⟩ := (gb_spec (mvd K h π) (kW K)).2.2.1 j hjW hmv
                have q' : RelX k σ3 τ K h t true π := q.orders (Nat.le_refl _) hk3 (fun _ _ _ _ _ => rfl) (fun _ _ => rfl)
                obtain ⟨σ4, t1, t2⟩ := hasThird_spec hN q' hkb ekb hyM
                have hk4 := hk3.trans t2
                have ec : c3 K h π j y = has3 K h π j y := by
                  unfold c3
                  rw [m2, m3, decide_eq_false (fun z => d1 (Option.some.inj z).symm), decide_eq_false (fun z => d2 (Option.some.inj z).symm)]
                  rfl
                rw [t1, cali_s]
                cases hc : has3 K h π j y with
                | false =>
                  rw [if_pos bz_f]
                  exact next σ4 hk4 (by rw [ec, hc])
                | true =>
                  rw [if_neg (by decide), J8, J_mul, J_add]
                  rw [ec, hc, if_pos rfl] at efy
                  have h1 := fp_some efy (kM K - (y + 1))
                  rw [show y + 1 + (kM K - (y + 1)) = kM K by omega] at h1
                  rw [hmv, if_pos rfl] at efp
                  have h2 : fp (mvd K h π) (g3 K h π) (j + 1) = some (j * 8 + y) := by rw [efp]; exact h1
                  have h3 := fp_some h2 (kW K - (j + 1))
                  rw [show j + 1 + (kW K - (j + 1)) = kW K by omega] at h3
                  rw [h3]
                  refine ⟨σ4, ?_, hk4⟩
                  show some (J _, σ4) = some (J ((j * 8 + y : Nat) : Int), σ4)
                  congr 3
      rw [lp_succ, fX0_firstThird_2, hk2 1 (by omega), q3.2.1, if_neg (fun q => by have := (J_le (by omega) (by omega) (by omega) (by omega)).mp q; omega)]
      exact inner (kM K) 0 N σ2 (by omega) (by omega) hk2 rfl
  exact key (kW K) 0 N σ (by omega) (by omega) (fun _ _ => rfl) rfl
end FIRSTTHIRD
