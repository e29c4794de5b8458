theorem ovf_none {h : Ro} {w : Nat} (e : h w = none) : ovf h w = true := by unfold ovf; rw [e]; rfl
theorem ovf_some {h : Ro} {w x : Nat} (e : h w = some x) : ovf h w = false := by unfold ovf; rw [e]; rfl
theorem blockAtHand_spec {σ : SS} {K : Kt} {h : Ro} {b : Nat} (N : Nat) (hK : KOk K) (hS : StRep σ K) (hR : RowRep σ 13 K h) (hh : RoOk K h) (hb : b < kW K) : fX5_isBlockAtHand N (J (b : Int)) σ = some (bz (isB K (ovf h) b), σ) := by
  have hW := hK.2.1
  have hM := hK.1
  have hbl := blk_le K b
  obtain ⟨-, -, -, -, -, -, -, h10, -⟩ := hS.2.2.2.1 b hb
  rw [fX5_isBlockAtHand, fX5_isBlockAtHand_30, fX5_isBlockAtHand_31, fX5_isBlockAtHand_31]
  simp (disch := omega) only [ck_J, J_nn, h10, hR.1 b (by omega), zk0, zk1, Jm1]
  have c0 := J_eq (a := (blk K b : Int)) (b := (b : Int)) (by omega) (by omega) (by omega) (by omega)
  have b1 : ∀ m, h b = some m → m < 2147483647 := fun m q => by have := (hh b m q).2; omega
  unfold isB
  by_cases c : blk K b = b
  · rw [if_pos (c0.mpr (by omega)), c]
    cases hz : h b with
    | none => rw [ovf_none hz, if_pos (show rv none = J (-1) from rfl)]; rfl
    | some x =>
      rw [ovf_some hz, if_neg (fun q => by have := (rv_none (o := some x) (fun m q => b1 m (by rw [hz]; exact q))).mp q; cases this)]
      simp [bz]
  · rw [if_neg (fun q => c (by have := c0.mp q; omega))]
    have : (blk K b == b) = false := by simp [c]
    rw [this, Bool.and_false]; rfl
theorem isBlock_out {τ : SS} {K : Kt} {x : Int} (N : Nat) (hK : KOk K) (hR : MdRep τ K) (h1 : -2147483648 ≤ x ∧ x < 2147483648) (hx : (decide (0 ≤ x) && decide (x ≤ (kW K : Int) - 1)) = false) : fX6_isBlock N (J x) τ = some (0, τ) := by
  have hW := hK.2.1
  rw [fX6_isBlock, hR.2.1, J1, J_sub, J0, in_spec N h1 (by omega) (by omega), cali_s, hx, if_pos (show bz false = J 0 from rfl), fX6_isBlock_36, fX6_isBlock_37]
  rfl
theorem isB_true {K : Kt} {h : Ro} {b : Nat} (e : isB K (ovf h) b = true) : blk K b = b ∧ ∃ x, h b = some x := by
  unfold isB at e
  simp only [Bool.and_eq_true, beq_iff_eq, Bool.not_eq_true'] at e
  refine ⟨e.2, ?_⟩
  cases z : h b with
  | none => rw [ovf_none z] at e; cases e.1
  | some x => exact ⟨x, rfl⟩
/-- the states after a block has moved -/
theorem RelX.moved {k : Nat} {σ τ σ1 τ1 : SS} {K : Kt} {h : Ro} {t : Int} {pl pl1 : Bool} {π : Ro} {b m x : Nat} (q : RelX k σ τ K h t pl π) (hb : b < kW K) (hbb : blk K b = b) (hx : h b = some x) (hm : m < kM K) (ht : tkB K h b m = true) (hpl : pl1 = true → pl = true ∧ π b = some m)
    (s1 : RowRep σ1 13 K (shR K h b (some m) (kW K))) (s2 : σ1 0 10 = σ 0 10 + J (bA K b + bB K b)) (s3 : ∀ i, i ≠ 10 → i ≠ 6 → σ1 0 i = σ 0 i) (s4 : ∀ k, 1 ≤ k → k ≤ 12 → σ1 k = σ k) (s5 : σ1 40 = σ 40) (s6 : σ1 0 6 = bz pl1)
    (r1 : MdAt τ1 K 7 (shR K h b (some m) (kW K))) (r2 : τ1 0 12 = τ 0 12 + J (bA K b + bB K b)) (r3 : ∀ i, i = 0 ∨ i = 3 ∨ i = 10 ∨ i = 11 ∨ i = 13 → τ1 0 i = τ 0 i) (r4 : ∀ k, 1 ≤ k → k ≤ 8 → k ≠ 7 → τ1 k = τ k) (r5 : τ1 11 = τ 11) (r6 : τ1 0 21 = bz pl1) : RelX (k + 1) σ1 τ1 K (shR K h b (some m) (kW K)) t pl1 π := by
  obtain ⟨q1, q2, q3, q4, q5, q6, q7, ⟨t1, t2, t3, t4, t5⟩, ⟨p1, p2, p3, p4, p5⟩, q10⟩ := q
  have hs := shR_some (m := m) q2 hb hx hbb
  refine ⟨q1, q2.shift q1 hb hbb hx hm ht, q3.keep (fun y a b => s4 y a (by omega)), s1, q5.keep (r3 0 (by omega)) (r3 3 (by omega)) (fun y a b => r4 y a (by omega) (by omega)), fun w hw => ?_, r1, ⟨?_, ?_, t3, by omega, fun w hw h4 => t5 w ((hs w).mp hw) h4⟩, ⟨?_, ?_, ?_, s6, r6⟩, fun z => ?_⟩
  · rw [r4 8 (by omega) (by omega) (by omega), q6 w hw]
    have := hs w
    unfold ovf
    cases e1 : h w with
    | none =>
      cases e2 : shR K h b (some m) (kW K) w with
      | none => rfl
      | some y => rw [e1, e2] at this; simp at this
    | some y =>
      cases e2 : shR K h b (some m) (kW K) w with
      | none => rw [e1, e2] at this; simp at this
      | some y => rfl
  · rw [s3 8 (by omega) (by omega)]; exact t1
  · rw [r3 10 (by omega)]; exact t2
  · rw [s3 7 (by omega) (by omega), r3 11 (by omega)]; exact p1
  · rw [s2, r2, p2]
  · rw [s3 9 (by omega) (by omega), r3 13 (by omega)]; exact p3
  · obtain ⟨z1, z2⟩ := hpl z
    obtain ⟨y1, y2, y3⟩ := q10 z1
    exact ⟨y1.shift q2 hb hbb hx z2, fun w hw => by rw [s5]; exact y2 w hw, fun w hw => by rw [r5]; exact y3 w hw⟩
theorem plR_none {K : Kt} {h π : Ro} {B : Nat → Nat} {o : Nat} : plR K h π (dnb 0 B o) none none = h := by
  funext w
  unfold plR
  have : dnb 0 B o (blk K w) = false := rfl
  rw [this, if_neg (show ¬ (none : Option Nat) = some (blk K w) from nofun), if_neg (by decide : ¬ false = true)]
  cases h w with
  | none => rw [if_pos rfl]
  | some x => rw [if_neg (by simp)]
theorem S_move_ok {N : Nat} (hN : 20 ≤ N) : S_move N Rel := by
  rintro k a0 a1 σ τ hk ⟨K, h, t, pl, π, q⟩
  obtain ⟨q1, q2, q3, q4, q5, q6, q7, -⟩ := id q
  have hW := q1.2.1
  have hM := q1.1
  obtain ⟨x, rfl, hx1, hx2⟩ := J_ex a0
  obtain ⟨y, rfl, hy1, hy2⟩ := J_ex a1
  have bad : ∃ v σ1 τ1, fX5_move_30 N σ = some (v, σ1) ∧ fX6_move_16 N τ = some (v, τ1) ∧ Rel (k + 1) σ1 τ1 := ⟨-2, σ, τ, rfl, rfl, K, h, t, pl, π, q.up⟩
  rw [fX5_move, fX6_move, hasWork_spec N q1 q3 ⟨hx1, hx2⟩, cali_s]
  rcases bz_split (lo := 0) (x := x) (hi := (kW K : Int) - 1) with e | ⟨e, e1, e2⟩
  · rw [isBlock_out N q1 q5 ⟨hx1, hx2⟩ e, cali_s, e, if_pos (show bz false = (0 : Int32) from rfl), if_pos rfl]
    exact bad
  obtain ⟨b, rfl⟩ : ∃ b : Nat, x = (b : Int) := ⟨x.toNat, by omega⟩
  have hb : b < kW K := by omega
  rw [e, if_neg (show ¬ bz true = (0 : Int32) by decide), blockAtHand_spec N q1 q3 q4 q2.1 hb, cali_s, isBlock_spec (by omega) q1 q5 q6 q2.ov hb, cali_s]
  cases eb : isB K (ovf h) b with
  | false =>
    rw [if_pos (show bz false = (0 : Int32) from rfl)]
    exact bad
  | true =>
    rw [if_neg (show ¬ bz true = (0 : Int32) by decide), if_neg (show ¬ bz true = (0 : Int32) by decide), hasMachine_spec N q1 q3 ⟨hy1, hy2⟩, cali_s, isMachine_spec N q1 q5 ⟨hy1, hy2⟩, cali_s]
    rcases bz_split (lo := 0) (x := y) (hi := (kM K : Int) - 1) with e | ⟨e, e3, e4⟩
    · rw [e, if_pos (show bz false = (0 : Int32) from rfl), if_pos (show bz false = (0 : Int32) from rfl)]
      exact bad
    · obtain ⟨m, rfl⟩ : ∃ m : Nat, y = (m : Int) := ⟨y.toNat, by omega⟩
      have hm : m < kM K := by omega
      obtain ⟨hbb, z, hz⟩ := isB_true eb
      have hzM := (q2.1 b z hz).2
      rw [e, if_neg (show ¬ bz true = (0 : Int32) by decide), if_neg (show ¬ bz true = (0 : Int32) by decide), sg]
      generalize hτ2 : stp τ 0 (upd (τ 0) 23 0) = τ2
      have n2 : ∀ k, k ≠ 0 → τ2 k = τ k := fun k hk => by rw [← hτ2, stp_n hk]
      have m2 : ∀ i, i ≠ 23 → τ2 0 i = τ 0 i := fun i hi => by rw [← hτ2, stp_s, upd_n hi]
      have hR2 : MdRep τ2 K := q5.keep (m2 0 (by omega)) (m2 3 (by omega)) (fun k a b => n2 k (by omega))
      obtain ⟨τ3, c1, c2, c3⟩ := place_spec (τ := τ2) (π := h) (n := 0) (B := fun _ => 0) (o := 0) (sb := none) (mo := none) (N := N) hN q1 q2 hR2 (fun w hw => by rw [n2 8 (by omega)]; exact q6 w hw) (fun w m hw hm => by rw [n2 7 (by omega)]; exact q7 w m hw hm) (by omega) (fun k hk => absurd hk (Nat.not_lt_zero _)) ⟨by rw [← hτ2, stp_s, upd_s]; rfl, fun k hk => absurd hk (Nat.not_lt_zero _)⟩ (fun h => absurd h (Nat.not_lt_zero _)) (by omega) (fun b q => by cases q)
      rw [plR_none] at c2
      have c1' : fX6_place N 0 (-1) (-1) τ2 = some τ3 := c1
      have n3 : ∀ k, k ≠ 0 → k ≠ 13 → τ3 k = τ k := fun k a b => by rw [c3 k b, n2 k a]
      have m3 : ∀ i, i ≠ 23 → τ3 0 i = τ 0 i := fun i hi => by rw [c3 0 (by omega)]; exact m2 i hi
      have hR3 : MdRep τ3 K := q5.keep (m3 0 (by omega)) (m3 3 (by omega)) (fun k a b => n3 k (by omega) (by omega))
      have hO3 : MdOv τ3 K (ovf h) := fun w hw => by rw [n3 8 (by omega) (by omega)]; exact q6 w hw
      have hA3 : MdAt τ3 K 7 h := fun w m hw hm => by rw [n3 7 (by omega) (by omega)]; exact q7 w m hw hm
      have q' : RelX (k + 1) σ τ3 K h t pl π := q.keep (by omega) (fun _ _ _ => rfl) (fun _ => rfl) (fun _ _ _ => rfl) (fun x a b => n3 x (by omega) (by omega)) (fun _ => n3 11 (by omega) (by omega)) (fun i hi => m3 i (by omega)) (by rw [m3 11 (by omega)]; exact q.2.2.2.2.2.2.2.2.1.1) (by rw [m3 13 (by omega)]; exact q.2.2.2.2.2.2.2.2.1.2.2.1)
      have no : ∃ v σ1 τ1, fX5_move_71 N σ = some (v, σ1) ∧ fX6_move_60 N τ3 = some (v, τ1) ∧ Rel (k + 1) σ1 τ1 := ⟨-3, σ, τ3, rfl, rfl, K, h, t, pl, π, q'⟩
      obtain ⟨-, -, s6, -⟩ := q3.2.2.2.1 b hb
      obtain ⟨-, -, r5, -⟩ := q5.2.2.2 b hb
      have hkb := q1.2.2.2 b hb
      rw [c1', calv_s]
      simp (disch := omega) only [ck_J, J_nn, s6, n3 5 (by omega) (by omega), r5, n3 7 (by omega) (by omega), q7 b z hb hz, q4.1 b (by omega), hz]
      by_cases ck : J (kd K b : Int) = (3 : Int32)
      · rw [if_pos ck, if_pos ck]; exact no
      · rw [if_neg ck, if_neg ck]
        have cz := J_eq (a := (z : Int)) (b := (m : Int)) (by omega) (by omega) (by omega) (by omega)
        by_cases c : z = m
        · rw [if_pos (show rv (some z) = J (m : Int) from cz.mpr (by omega)), if_pos (cz.mpr (by omega))]; exact no
        · have hown : ∀ w, w < kW K → blk K w = b → h w ≠ some m := fun w hw hbw q => by
            have := uni_row q2.2.2.1 q2.fr_live hz w hw hbw
            rw [this] at q
            exact c (Option.some.inj q)
          rw [if_neg (show ¬ rv (some z) = J (m : Int) from fun q => c (by have := cz.mp q; omega)), if_neg (fun q => c (by have := cz.mp q; omega)), takesBlock_spec N (by omega : 13 ≤ 13) q1 q3 q4 q2.1 hb hm, cali_s, comes_spec hN q1 q2 hR3 hO3 c2 q2.1 (fun w e => e) hb (by rw [hz]; simp) hm hown, cali_s]
          cases htk : tkB K h b m with
          | false =>
            rw [if_pos bz_f, if_pos bz_f]; exact no
          | true =>
            obtain ⟨σ1, a1, a2, a3, a4, a5⟩ := makeMove_spec (N := N) (by omega) q1 q3 q4 q2 hb hm htk
            obtain ⟨τ4, b1, b2, b3, b4, b5⟩ := carry_spec (N := N) (m := m) (by omega) q1 q2 hR3 hO3 hA3 hb (by rw [hz]; simp)
            rw [if_neg (by decide), if_neg (by decide), a1, calv_s, b1, calv_s, sg, sg]
            refine ⟨1, _, _, rfl, rfl, K, _, t, false, π, q.moved hb hbb hz hm htk (fun z => by cases z) (a2.keep (fun k a b => by rw [stp_n (by omega)])) ?_ ?_ ?_ ?_ ?_ (fun w m hw hm => by rw [stp_n (by omega)]; exact b2 w m hw hm) ?_ ?_ ?_ ?_ ?_⟩
            · rw [stp_s, upd_n (by omega), a3]
            · intro i h1 h2; rw [stp_s, upd_n h2, a4 i h1]
            · intro i h1 h2; rw [stp_n (by omega), a5 i (by omega) (by omega)]
            · rw [stp_n (by omega), a5 40 (by omega) (by omega)]
            · rw [stp_s, upd_s]; rfl
            · rw [stp_s, upd_n (by omega), b3, m3 12 (by omega)]
            · intro i hi; rw [stp_s, upd_n (by omega), b4 i (by omega), m3 i (by omega)]
            · intro i h1 h2 h3; rw [stp_n (by omega), b5 i (by omega) h3 (by omega), n3 i (by omega) (by omega)]
            · rw [stp_n (by omega), b5 11 (by omega) (by omega) (by omega), n3 11 (by omega) (by omega)]
            · rw [stp_s, upd_s]; rfl
