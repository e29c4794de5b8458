theorem uA_shift {K : Kt} {ρ : Ro} {b m : Nat} (hK : KOk K) (hρ : RoOk K ρ) (hm : m < kM K) (m' : Nat) : uA K (shR K ρ b (some m) (kW K)) m' ≤ uA K ρ m' + (if m' = m then bA K b else 0) ∧ uB K (shR K ρ b (some m) (kW K)) m' ≤ uB K ρ m' + (if m' = m then bB K b else 0) := by
  have hW := hK.2.1
  have key : ∀ (f : Nat → Int), (∀ w, w < kW K → 0 ≤ f w) → sm 8 (fun w => if shR K ρ b (some m) (kW K) w = some m' then f w else 0) ≤ sm 8 (fun w => if ρ w = some m' then f w else 0) + (if m' = m then sm (kW K) (fun w => if blk K w = b then f w else 0) else 0) := by
    intro f hf
    by_cases e : m' = m
    · subst e
      rw [if_pos rfl]
      have e1 : sm (kW K) (fun w => if blk K w = b then f w else 0) = sm 8 (fun w => if w < kW K ∧ blk K w = b then f w else 0) := by
        rw [sm_ext (n := kW K) (m := 8) (f := fun w => if w < kW K ∧ blk K w = b then f w else 0) (by omega) (fun i h1 h2 => if_neg (fun q => by omega))]
        refine sm_congr (fun i hi => ?_)
        by_cases c : blk K i = b
        · rw [if_pos c, if_pos ⟨hi, c⟩]
        · rw [if_neg c, if_neg (fun q => c q.2)]
      rw [e1, ← sm_add]
      refine sm_mono (fun w _ => ?_)
      unfold shR
      by_cases c : w < kW K ∧ w < kW K ∧ blk K w = b
      · have h0 := hf w c.1
        rw [if_pos c, if_pos rfl, if_pos c.2]
        by_cases c2 : ρ w = some m'
        · rw [if_pos c2]; omega
        · rw [if_neg c2]; omega
      · rw [if_neg c, if_neg (fun q => c ⟨q.1, q⟩)]; omega
    · rw [if_neg e, Int.add_zero]
      refine sm_mono (fun w _ => ?_)
      unfold shR
      by_cases c : w < kW K ∧ w < kW K ∧ blk K w = b
      · rw [if_pos c, if_neg (fun q => e (Option.some.inj q).symm)]
        by_cases c2 : ρ w = some m'
        · rw [if_pos c2]; exact hf w c.1
        · rw [if_neg c2]; exact Int.le_refl _
      · rw [if_neg c]; exact Int.le_refl _
  exact ⟨key (kA K) (fun w hw => (hK.2.2.2 w hw).1), key (kB K) (fun w hw => (hK.2.2.2 w hw).2.2.1)⟩
theorem shR_some {K : Kt} {h : Ro} {b m x : Nat} (hH : HOk K h) (hb : b < kW K) (hx : h b = some x) (hbb : blk K b = b) : ∀ v, (shR K h b (some m) (kW K) v).isSome = true ↔ (h v).isSome = true := by
  have hu := uni_row hH.2.2.1 hH.fr_live hx
  intro v
  unfold shR
  by_cases c : v < kW K ∧ v < kW K ∧ blk K v = b
  · rw [if_pos c, hu v c.1 c.2.2]; simp
  · rw [if_neg c]
theorem frok_shift {K : Kt} {ρ : Ro} {b : Nat} {o : Option Nat} (hρ : RoOk K ρ) (hF : FrOk K ρ) (hs : ∀ v x, shR K ρ b o (kW K) v = some x → v < kW K) : FrOk K (shR K ρ b o (kW K)) := by
  intro v u x y hf h1 h2
  have hv := hs v x h1
  have hu := hs u y h2
  have hb := blk_eq hf
  unfold shR at h1 h2
  by_cases c : blk K v = b
  · rw [if_pos ⟨hv, hv, c⟩] at h1
    rw [if_pos ⟨hu, hu, by rw [← hb]; exact c⟩] at h2
    rw [h1] at h2
    exact Option.some.inj h2
  · rw [if_neg (fun q => c q.2.2)] at h1
    rw [if_neg (fun q => c (by rw [hb]; exact q.2.2))] at h2
    exact hF v u x y hf h1 h2
theorem HOk.shift {K : Kt} {h : Ro} {b m x : Nat} (hK : KOk K) (hH : HOk K h) (hb : b < kW K) (hbb : blk K b = b) (hx : h b = some x) (hm : m < kM K) (ht : tkB K h b m = true) : HOk K (shR K h b (some m) (kW K)) := by
  obtain ⟨q1, q2, q3, q4, q5⟩ := id hH
  have ho : RoOk K (shR K h b (some m) (kW K)) := shR_ok q1 hm
  refine ⟨ho, tkB_tw hK q1 q2 hb ht, frok_shift q1 q3 (fun v y e => (ho v y e).1), fun m' hm' => ?_, fun w hw e => ?_⟩
  · have h1 := uA_shift (b := b) hK q1 hm m'
    have h2 := q4 m' hm'
    by_cases c : m' = m
    · subst c
      rw [if_pos rfl, if_pos rfl] at h1
      unfold tkB at ht
      simp only [Bool.and_eq_true, decide_eq_true_eq] at ht
      omega
    · rw [if_neg c, if_neg c] at h1
      omega
  · have := (shR_some (m := m) hH hb hx hbb w)
    rw [e] at this
    cases z : h w with
    | none => exact q5 w hw z
    | some y => rw [z] at this; simp at this
theorem PlanOk.shift {K : Kt} {h π : Ro} {b m x : Nat} (hH : HOk K h) (p : PlanOk K h π) (hb : b < kW K) (hbb : blk K b = b) (hx : h b = some x) (hp : π b = some m) : PlanOk K (shR K h b (some m) (kW K)) π := by
  obtain ⟨p1, p2, p3, p4, p5, p6⟩ := id p
  refine ⟨p1, p2, p3, p4, fun v => by rw [p5 v, shR_some (m := m) hH hb hx hbb v], fun v hv h3 => ?_⟩
  unfold shR
  by_cases c : v < kW K ∧ v < kW K ∧ blk K v = b
  · have : blk K v = v := blk_own (by omega)
    rw [if_pos c]
    rw [← this, c.2.2, hp]
  · rw [if_neg c]; exact p6 v hv h3
theorem makeMove_spec {σ : SS} {K : Kt} {h : Ro} {b m : Nat} {N : Nat} (hN : 10 ≤ N) (hK : KOk K) (hS : StRep σ K) (hR : RowRep σ 13 K h) (hH : HOk K h) (hb : b < kW K) (hm : m < kM K) (ht : tkB K h b m = true) : ∃ σ1, fX5_makeMove N (J (b : Int)) (J (m : Int)) σ = some σ1 ∧ RowRep σ1 13 K (shR K h b (some m) (kW K)) ∧ σ1 0 10 = σ 0 10 + J (bA K b + bB K b) ∧ (∀ i, i ≠ 10 → σ1 0 i = σ 0 i) ∧ (∀ k, k ≠ 0 → k < 13 ∨ 18 < k → σ1 k = σ k) := by
  obtain ⟨σ1, a1, a2, a3⟩ := shift_spec hN (by omega : 13 ≤ 13) hK hS hR hH.1 hH.2.1 (tkB_tw hK hH.1 hH.2.1 hb ht) hb hm
  rw [fX5_makeMove, a1, calv_s, moveCost_spec N hK (hS.keep (fun k _ b => a3 k (by omega))) hb, cali_s, sg]
  refine ⟨_, rfl, a2.keep (fun k a b => stp_n (by omega)), by rw [stp_s, upd_s, a3 0 (by omega)], fun i hi => by rw [stp_s, upd_n hi, a3 0 (by omega)], fun k a b => by rw [stp_n a, a3 k (by omega)]⟩
theorem carry_spec {τ : SS} {K : Kt} {h : Ro} {b m : Nat} {N : Nat} (hN : 10 ≤ N) (hK : KOk K) (hH : HOk K h) (hR : MdRep τ K) (hO : MdOv τ K (ovf h)) (hA : MdAt τ K 7 h) (hb : b < kW K) (hhb : h b ≠ none) : ∃ τ1, fX6_carry N (J (b : Int)) (J (m : Int)) τ = some τ1 ∧ MdAt τ1 K 7 (shR K h b (some m) (kW K)) ∧ τ1 0 12 = τ 0 12 + J (bA K b + bB K b) ∧ (∀ i, i ≠ 12 → τ1 0 i = τ 0 i) ∧ (∀ k, k ≠ 0 → k ≠ 7 → k ≠ 13 → τ1 k = τ k) := by
  have hW := hK.2.1
  have hob : ovf h b = false := by
    unfold ovf
    cases z : h b with
    | none => exact absurd z hhb
    | some x => rfl
  rw [fX6_carry, costOf_spec hN hK hR hO hH.ov hb hob, cali_s, sg]
  generalize hτ2 : stp τ 0 (upd (τ 0) 12 (τ 0 12 + J (bA K b + bB K b))) = τ2
  have n2 : ∀ k, k ≠ 0 → τ2 k = τ k := fun k hk => by rw [← hτ2, stp_n hk]
  have m2 : ∀ i, i ≠ 12 → τ2 0 i = τ 0 i := fun i hi => by rw [← hτ2, stp_s, upd_n hi]
  have v2 : τ2 0 12 = τ 0 12 + J (bA K b + bB K b) := by rw [← hτ2, stp_s, upd_s]
  have last : ∀ (d j n : Nat) (τ3 : SS), j + d = kW K → d < n → (∀ k, k ≠ 7 → k ≠ 13 → τ3 k = τ2 k) → (∀ w x, w < kW K → shR K h b (some m) (kW K) w = some x → τ3 13 w = J (x : Int)) → (∀ w x, w < j → w < kW K → shR K h b (some m) (kW K) w = some x → τ3 7 w = J (x : Int)) → ∃ τ1, lp (fX6_carry_57 N) (fun _ _ => none) n (J (j : Int)) τ3 = some τ1 ∧ MdAt τ1 K 7 (shR K h b (some m) (kW K)) ∧ (∀ k, k ≠ 7 → k ≠ 13 → τ1 k = τ2 k) := by
    intro d
    induction d with
    | zero =>
      intro j n τ3 hj hn hk h13 h7
      obtain ⟨n, rfl⟩ : ∃ n', n = n' + 1 := ⟨n - 1, by omega⟩
      rw [lp_succ, fX6_carry_57, hk 0 (by omega) (by omega), m2 3 (by omega), hR.2.1, if_pos ((J_le (by omega) (by omega) (by omega) (by omega)).mpr (by omega))]
      exact ⟨τ3, rfl, fun w x hw hx => h7 w x (by omega) hw hx, hk⟩
    | succ d ih =>
      intro j n τ3 hj hn hk h13 h7
      obtain ⟨n, rfl⟩ : ∃ n', n = n' + 1 := ⟨n - 1, by omega⟩
      rw [lp_succ, fX6_carry_57, hk 0 (by omega) (by omega), m2 3 (by omega), hR.2.1, if_neg (fun q => by have := (J_le (by omega) (by omega) (by omega) (by omega)).mp q; omega)]
      simp (disch := omega) only [ck_J, J_nn, sg, J1, J_add]
      refine ih (j + 1) n _ (by omega) (by omega) (fun k a b => by rw [stp_n a]; exact hk k a b) (fun w x hw hx => by rw [stp_n (by omega)]; exact h13 w x hw hx) (fun w x h1 hw hx => ?_)
      rw [stp_s]
      by_cases c : w = j
      · subst c; rw [upd_s]; exact h13 w x hw hx
      · rw [upd_n c]; exact h7 w x (by omega) hw hx
  have key : ∀ (d j n : Nat) (τ3 : SS), j + d = kW K → d < n → (∀ k, k ≠ 13 → τ3 k = τ2 k) → (∀ w x, w < j → w < kW K → shR K h b (some m) (kW K) w = some x → τ3 13 w = J (x : Int)) → ∃ τ1, lp (fX6_carry_16 N) (fun _ _ _ _ => none) n (J (b : Int)) (J (m : Int)) (J (j : Int)) τ3 = some τ1 ∧ MdAt τ1 K 7 (shR K h b (some m) (kW K)) ∧ (∀ k, k ≠ 7 → k ≠ 13 → τ1 k = τ2 k) := by
    intro d
    induction d with
    | zero =>
      intro j n τ3 hj hn hk h13
      obtain ⟨n, rfl⟩ : ∃ n', n = n' + 1 := ⟨n - 1, by omega⟩
      rw [lp_succ, fX6_carry_16, hk 0 (by omega), m2 3 (by omega), hR.2.1, if_pos ((J_le (by omega) (by omega) (by omega) (by omega)).mpr (by omega))]
      exact last (kW K) 0 N τ3 (by omega) (by omega) (fun k a b => hk k b) (fun w x hw hx => h13 w x (by omega) hw hx) (fun w x h => absurd h (Nat.not_lt_zero _))
    | succ d ih =>
      intro j n τ3 hj hn hk h13
      obtain ⟨n, rfl⟩ : ∃ n', n = n' + 1 := ⟨n - 1, by omega⟩
      have hjW : j < kW K := by omega
      have hR3 : MdRep τ3 K := hR.keep (by rw [hk 0 (by omega), m2 0 (by omega)]) (by rw [hk 0 (by omega), m2 3 (by omega)]) (fun k a b => by rw [hk k (by omega), n2 k (by omega)])
      have hO3 : MdOv τ3 K (ovf h) := fun w hw => by rw [hk 8 (by omega), n2 8 (by omega)]; exact hO w hw
      have go : ∀ (y : Int32), (∀ x, shR K h b (some m) (kW K) j = some x → y = J (x : Int)) → ∃ τ1, fX6_carry_48 N (lp (fX6_carry_16 N) (fun _ _ _ _ => none) n) (J (b : Int)) (J (m : Int)) (J (j : Int)) y (J (j : Int)) τ3 = some τ1 ∧ MdAt τ1 K 7 (shR K h b (some m) (kW K)) ∧ (∀ k, k ≠ 7 → k ≠ 13 → τ1 k = τ2 k) := by
        intro y hy
        rw [fX6_carry_48, ck_J (by omega) (by omega) (by omega), J_nn (by omega), sg, J1, J_add]
        refine ih (j + 1) n _ (by omega) (by omega) (fun k a => by rw [stp_n a]; exact hk k a) (fun w x h1 hw hx => ?_)
        rw [stp_s]
        by_cases c : w = j
        · subst c; rw [upd_s]; exact hy x hx
        · rw [upd_n c]; exact h13 w x (by omega) hw hx
      rw [lp_succ, fX6_carry_16, hk 0 (by omega), m2 3 (by omega), hR.2.1, if_neg (fun q => by have := (J_le (by omega) (by omega) (by omega) (by omega)).mp q; omega), isOf_spec hN hK hR3 hO3 hH.ov hjW (by omega), cali_s, ck_J (by omega) (by omega) (by omega), J_nn (by omega), hk 7 (by omega), n2 7 (by omega)]
      cases hz : (!(ovf h j) && decide ((blk K j : Int) = (b : Int))) with
      | true =>
        rw [if_neg (by decide)]
        simp only [Bool.and_eq_true, decide_eq_true_eq] at hz
        refine go _ (fun x hx => ?_)
        unfold shR at hx
        rw [if_pos ⟨hjW, hjW, by omega⟩] at hx
        cases hx
        rfl
      | false =>
        rw [if_pos (by rfl)]
        refine go _ (fun x hx => ?_)
        simp only [Bool.and_eq_false_iff, decide_eq_false_iff_not, Bool.not_eq_false'] at hz
        unfold shR at hx
        rcases hz with z | z
        · have hn : h j = none := by
            unfold ovf at z
            cases e : h j with
            | none => rfl
            | some y => rw [e] at z; cases z
          have hk4 := hH.2.2.2.2 j hjW hn
          have hbj : blk K j = j := blk_own (by omega)
          rw [if_neg (fun q => hhb (by rw [← q.2.2, hbj]; exact hn)), hn] at hx
          cases hx
        · rw [if_neg (fun q => z (by rw [q.2.2]))] at hx
          exact hA j x hjW hx
  obtain ⟨τ1, a1, a2, a3⟩ := key (kW K) 0 N τ2 (by omega) (by omega) (fun _ _ => rfl) (fun w x h => absurd h (Nat.not_lt_zero _))
  exact ⟨τ1, a1, a2, by rw [a3 0 (by omega) (by omega)]; exact v2, fun i hi => by rw [a3 0 (by omega) (by omega)]; exact m2 i hi, fun k a b c => by rw [a3 k b c, n2 k a]⟩
