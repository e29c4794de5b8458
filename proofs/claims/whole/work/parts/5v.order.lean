theorem std_js {K : Kt} {h π ρ : Ro} {c : Nat → Bool} (hK : KOk K) (hH : HOk K h) (hP : PlanOk K h π) (hc : ∀ w, c w = true → mvd K h π w = true) (h0 : RoOk K ρ) (hu : ∀ b x, c b = true → h b = some x → ∀ w, w < kW K → blk K w = b → ρ w = some x) : JS K (gb c (kW K)).1 (gb c (kW K)).2 (fun k => tgt π ((gb c (kW K)).2 k)) (fun _ => none) (fun _ => True) (fun o => mvR K (dnb (gb c (kW K)).1 (gb c (kW K)).2 o) ρ π) := by
  have hW := hK.2.1
  obtain ⟨g1, g2, g3, g4⟩ := gb_spec c (kW K)
  have hmv : ∀ k, k < (gb c (kW K)).1 → blk K ((gb c (kW K)).2 k) = (gb c (kW K)).2 k ∧ ∃ x y, h ((gb c (kW K)).2 k) = some x ∧ π ((gb c (kW K)).2 k) = some y ∧ y ≠ x := fun k hk => mvd_true (hc _ (g2 k hk).2)
  refine ⟨by omega, fun k hk => ?_, fun o _ => mvR_ok h0 hP.1, fun o k ho _ hk hop => ⟨True.intro, ?_, ?_⟩⟩
  · obtain ⟨b1, x, y, b2, b3, b4⟩ := hmv k hk
    refine ⟨(g2 k hk).1, b1, ?_, fun d q => by cases q⟩
    show tgt π ((gb c (kW K)).2 k) < kM K
    rw [tgt_some b3]
    exact (hP.1 _ y b3).2
  · obtain ⟨b1, x, y, b2, b3, b4⟩ := hmv k hk
    refine ⟨x, (hH.1 _ x b2).2, fun w hw hbw => ?_⟩
    show (if dnb (gb c (kW K)).1 (gb c (kW K)).2 o (blk K w) = true then π w else ρ w) = some x
    have hno : dnb (gb c (kW K)).1 (gb c (kW K)).2 o (blk K w) = false := by
      cases e : dnb (gb c (kW K)).1 (gb c (kW K)).2 o (blk K w) with
      | false => rfl
      | true =>
        obtain ⟨j, j1, j2, j3⟩ := dnb_true.mp e
        rw [hbw] at j3
        have := gb_inj j1 hk j3
        subst this
        unfold opn at hop
        rw [j2] at hop
        cases hop
    rw [hno, if_neg (by decide)]
    exact hu _ x (g2 k hk).2 b2 w hw hbw
  · obtain ⟨b1, x, y, b2, b3, b4⟩ := hmv k hk
    refine mvR_step h0 hP.1 hk (fun w hw hbw => ?_)
    show π w = some (tgt π ((gb c (kW K)).2 k))
    rw [tgt_some b3]
    exact uni_row hP.2.2.1 (hP.fr_live hH) b3 w hw hbw
theorem posM_none {K : Kt} {h π : Ro} {o : Nat} (hP : PlanOk K h π) : posM K h π none o = mvR K (dnb (mN K h π) (mB K h π) o) h π := by
  funext w
  show plR K h π (dnb (mN K h π) (mB K h π) o) none none w = _
  unfold plR mvR
  rw [if_neg (show ¬ (none : Option Nat) = some (blk K w) from nofun)]
  cases z : h w with
  | none =>
    rw [if_pos rfl]
    have hs := hP.2.2.2.2.1 w
    rw [z] at hs
    cases e : π w with
    | none => by_cases c : dnb (mN K h π) (mB K h π) o (blk K w) = true <;> simp [c]
    | some y => rw [e] at hs; simp at hs
  | some x => rw [if_neg (by simp)]
theorem okM_none {K : Kt} {h π : Ro} (hP : PlanOk K h π) : okJ K (mB K h π) (fun k => tgt π (mB K h π k)) (fun _ => none) (fun o => mvR K (dnb (mN K h π) (mB K h π) o) h π) = okM K h π none := by
  funext o k
  unfold okJ okM opn
  rw [posM_none hP]
  have : decide ((none : Option Nat) = some k) = false := decide_eq_false nofun
  rw [this]
  simp
theorem findOrder_spec {k : Nat} {σ τ : SS} {K : Kt} {h : Ro} {t : Int} {π : Ro} {N : Nat} (hN : 600 ≤ N) (q : RelX k σ τ K h t true π) : ∃ σ1, fX0_findOrder N 40 σ = some (bz (canX (mN K h π) (okM K h π none) 0), σ1) ∧ KeepO σ σ1 ∧ σ1 27 3 = J (mN K h π : Int) ∧ (canX (mN K h π) (okM K h π none) 0 = true → ∀ i, i < mN K h π → σ1 28 i = J (mB K h π (fstX (mN K h π) (okM K h π none) (stX (mN K h π) (okM K h π none) i 0)) : Int)) := by
  obtain ⟨q1, q2, q3, q4, q5, q6, q7, -, -, q10⟩ := q
  obtain ⟨z1, z2, z3⟩ := q10 rfl
  obtain ⟨σ1, a1, a2, a3, a4⟩ := gather_spec (q := 40) (out := none) (N := N) (by omega) (by omega) q1 q3 q4 q2.1 z2 z1.1 (fun w q => by cases q)
  rw [mvc_none] at a3
  have a1' : fX0_gather N 40 (-1) σ = some σ1 := a1
  have hjs : JS K (mN K h π) (mB K h π) (fun k => tgt π (mB K h π k)) (fun _ => none) (fun _ => True) (fun o => mvR K (dnb (mN K h π) (mB K h π) o) h π) := std_js (c := mvd K h π) q1 q2 z1 (fun w e => e) q2.1 (fun b x _ hx w hw hbw => uni_row q2.2.2.1 q2.fr_live hx w hw hbw)
  obtain ⟨σ2, b1, b2, b3, b4⟩ := seekAnew_spec (σ := σ1) (N := N) hN q1 hjs True.intro (q3.keep (fun x a b => a4 x (by omega))) (by rw [mvR_zero]; exact a2) (by rw [mvR_zero]; exact q2.2.1) a3
  rw [okM_none z1] at b1 b4
  rw [fX0_findOrder, a1', calv_s, b1, cali_s]
  refine ⟨σ2, ?_, a4.trans b2, b3.1, b4⟩
  cases canX (mN K h π) (okM K h π none) 0 <;> rfl
/-- the reference looks for the order -/
theorem morder_spec {k : Nat} {σ τ : SS} {K : Kt} {h : Ro} {t : Int} {π : Ro} {N : Nat} (hN : 600 ≤ N) (q : RelX k σ τ K h t true π) : ∃ τ1 τ2, fX6_listMoves N τ = some τ1 ∧ fX6_canAll N (-1) τ1 = some (bz (canX (mN K h π) (okM K h π none) 0), τ2) ∧ MB τ2 K h π ∧ (∀ o, o < 2 ^ (mN K h π) → τ2 14 o = bz (canX (mN K h π) (okM K h π none) o)) ∧ (∀ x, x ≠ 0 → x ≠ 12 → x ≠ 13 → x ≠ 14 → τ2 x = τ x) ∧ ∀ i, i ≠ 23 → τ2 0 i = τ 0 i := by
  obtain ⟨τ1, a1, a2, a3, a4⟩ := listMoves_spec (N := N) (by omega) q
  have z1 := (q.2.2.2.2.2.2.2.2.2 rfl).1
  obtain ⟨τ2, b1, b2, b3⟩ := canAll_spec (out := none) (N := N) (by omega) q.1 q.2.1 z1 a2 (fun x q => by cases q)
  exact ⟨τ1, τ2, a1, b1, a2.keep b3, b2, fun x c1 c2 c3 c4 => by rw [b3 x c3 c4, a3 x c1 c2], fun i hi => by rw [b3 0 (by omega) (by omega), a4 i hi]⟩
theorem RelX.orders {k k1 : Nat} {σ τ σ1 τ1 : SS} {K : Kt} {h : Ro} {t : Int} {pl : Bool} {π : Ro} (q : RelX k σ τ K h t pl π) (hk : k ≤ k1) (h1 : KeepO σ σ1) (h2 : ∀ x, x ≠ 0 → x ≠ 12 → x ≠ 13 → x ≠ 14 → τ1 x = τ x) (h3 : ∀ i, i ≠ 23 → τ1 0 i = τ 0 i) : RelX k1 σ1 τ1 K h t pl π := q.keep hk (fun x a b => h1 x (by omega)) (fun _ => h1 40 (by omega)) (fun i _ _ => by rw [h1 0 (by omega)]) (fun x a b => h2 x (by omega) (by omega) (by omega) (by omega)) (fun _ => h2 11 (by omega) (by omega) (by omega) (by omega)) (fun i hi => h3 i (by omega)) (by rw [h1 0 (by omega), h3 11 (by omega)]; exact q.2.2.2.2.2.2.2.2.1.1) (by rw [h1 0 (by omega), h3 13 (by omega)]; exact q.2.2.2.2.2.2.2.2.1.2.2.1)
theorem S_order_ok {N : Nat} (hN : 600 ≤ N) : S_order N Rel := by
  rintro k σ τ hk ⟨K, h, t, pl, π, q⟩
  obtain ⟨-, -, -, p4, p5⟩ := q.2.2.2.2.2.2.2.2.1
  rw [fX5_order, fX6_order, p4, p5]
  cases pl with
  | false =>
    rw [if_pos (by rfl), if_pos (by rfl)]
    exact ⟨-3, σ, τ, rfl, rfl, K, h, t, _, π, q.up⟩
  | true =>
    obtain ⟨σ1, a1, a2, a3, a4⟩ := findOrder_spec hN q
    obtain ⟨τ1, τ2, b1, b2, b3, b4, b5, b6⟩ := morder_spec hN q
    have q' := q.orders (k1 := k + 1) (by omega) a2 b5 b6
    rw [if_neg (by decide), if_neg (by decide), a1, cali_s, b1, calv_s, b2, cali_s]
    simp only [fX5_order_29, fX6_order_27]
    cases canX (mN K h π) (okM K h π none) 0 with
    | false =>
      rw [if_pos (by rfl), if_pos (by rfl)]
      exact ⟨0, σ1, τ2, rfl, rfl, K, h, t, _, π, q'⟩
    | true =>
      rw [if_neg (by decide), if_neg (by decide)]
      exact ⟨1, σ1, τ2, rfl, rfl, K, h, t, _, π, q'⟩
theorem firstOf_spec {τ : SS} {K : Kt} {h π : Ro} {o : Nat} {N : Nat} (hN : 300 ≤ N) (hK : KOk K) (hH : HOk K h) (hP : PlanOk K h π) (hB : MB τ K h π) (h14 : ∀ o, o < 2 ^ (mN K h π) → τ 14 o = bz (canX (mN K h π) (okM K h π none) o)) (ho : o < 2 ^ (mN K h π)) (hr : rm (mN K h π) o ≠ 0) (hc : canX (mN K h π) (okM K h π none) o = true) : ∃ τ1, fX6_firstOf N (J (o : Int)) τ = some (J (fstX (mN K h π) (okM K h π none) o : Int), τ1) ∧ ∀ x, x ≠ 13 → τ1 x = τ x := by
  have hn := mN_le (h := h) (π := π) hK
  have hW := hK.2.1
  have h2n : 2 ^ (mN K h π) ≤ 256 := Nat.pow_le_pow_right (by omega : 0 < 2) hn
  obtain ⟨τ1, p1, p2, p3⟩ := place_spec (τ := τ) (π := π) (n := mN K h π) (B := mB K h π) (o := o) (sb := none) (mo := none) (N := N) (by omega) hK hH hB.1 hB.2.1 hB.2.2.1 hn (fun k hk => by have := (mB_ok hk).1; omega) hB.2.2.2.2 (fun _ => hB.2.2.2.1) (by omega) (fun b q => by cases q)
  have p1' : fX6_place N (J (o : Int)) (-1) (-1) τ = some τ1 := p1
  have hB1 := hB.keep (fun x a b => p3 x a)
  obtain ⟨f1, f2, f3⟩ := fstX_ok okM_b hr hc
  have hbef := lfr_before (fun k => okM K h π none o k && canX (mN K h π) (okM K h π none) (o ||| 2 ^ k)) (mN K h π) 0
  rw [fX6_firstOf, p1', calv_s]
  have key : ∀ (d j n : Nat), j + d = fstX (mN K h π) (okM K h π none) o → d < n → lp (fX6_firstOf_9 N) (fun _ _ _ => none) n (J (o : Int)) (J (j : Int)) τ1 = some (J (fstX (mN K h π) (okM K h π none) o : Int), τ1) := by
    intro d
    induction d with
    | zero =>
      intro j n hj hn'
      obtain ⟨n, rfl⟩ : ∃ n', n = n' + 1 := ⟨n - 1, by omega⟩
      have ej : j = fstX (mN K h π) (okM K h π none) o := by omega
      rw [← ej] at f1 f2 f3
      obtain ⟨b1, b2, x, y, b3, b4, b5⟩ := mB_ok f1
      have hb : Nat.testBit o j = false := okM_b (n := mN K h π) o j f1 f2
      have hlt := or_lt ho f1
      rw [lp_succ, fX6_firstOf_9, hB1.2.2.2.2.1, if_neg (fun q => by have := (J_le (by omega) (by omega) (by omega) (by omega)).mp q; omega), bit_get o (by omega) j (by omega), hb, if_neg (by decide : ¬ false = true), if_pos rfl, bit_set o (by omega) j (by omega), ck_J (by omega) (by omega) (by omega), J_nn (by omega), p3 14 (by omega), h14 _ hlt, f3, if_neg (by decide)]
      simp (disch := omega) only [ck_J, J_nn]
      have hpl := hB1.2.2.2.1 (mB K h π j) b1
      rw [b4] at hpl
      have hcm := comesK_spec (τ := τ1) (sb := none) (mo := none) (N := N) (by omega) hK hH hP hB1 f1 hb (fun q => by cases q) (fun m q => by cases q) p2
      rw [hB1.2.2.2.2.2 j f1, ck_J (by omega) (by omega) (by omega), J_nn (by omega), hpl, show rv (some y) = J (tgt π (mB K h π j) : Int) from by rw [tgt_some b4]; rfl, hcm, cali_s]
      have : tkB K (plR K h π (dnb (mN K h π) (mB K h π) o) none none) (mB K h π j) (tgt π (mB K h π j)) = true := by
        unfold okM at f2
        simp only [Bool.and_eq_true] at f2
        exact f2.2
      rw [this, if_neg (by decide), ej]
    | succ d ih =>
      intro j n hj hn'
      obtain ⟨n, rfl⟩ : ∃ n', n = n' + 1 := ⟨n - 1, by omega⟩
      have hjn : j < mN K h π := by omega
      have hno := hbef j (by omega) (show j < fstX (mN K h π) (okM K h π none) o by omega)
      have go : fX6_firstOf_64 N (lp (fX6_firstOf_9 N) (fun _ _ _ => none) n) (J (o : Int)) (J (j : Int)) τ1 = some (J (fstX (mN K h π) (okM K h π none) o : Int), τ1) := by
        rw [fX6_firstOf_64, J1, J_add]
        exact ih (j + 1) n (by omega) (by omega)
      obtain ⟨b1, b2, x, y, b3, b4, b5⟩ := mB_ok hjn
      have hlt := or_lt ho hjn
      rw [lp_succ, fX6_firstOf_9, hB1.2.2.2.2.1, if_neg (fun q => by have := (J_le (by omega) (by omega) (by omega) (by omega)).mp q; omega), bit_get o (by omega) j (by omega)]
      cases hb : Nat.testBit o j with
      | true => rw [if_neg (by decide)]; exact go
      | false =>
        rw [if_neg (by decide : ¬ false = true), if_pos rfl, bit_set o (by omega) j (by omega), ck_J (by omega) (by omega) (by omega), J_nn (by omega), p3 14 (by omega), h14 _ hlt]
        cases hcx : canX (mN K h π) (okM K h π none) (o ||| 2 ^ j) with
        | false => rw [if_pos (by rfl)]; exact go
        | true =>
          rw [if_neg (by decide)]
          simp (disch := omega) only [ck_J, J_nn]
          have hpl := hB1.2.2.2.1 (mB K h π j) b1
          rw [b4] at hpl
          have hcm := comesK_spec (τ := τ1) (sb := none) (mo := none) (N := N) (by omega) hK hH hP hB1 hjn hb (fun q => by cases q) (fun m q => by cases q) p2
          rw [hB1.2.2.2.2.2 j hjn, ck_J (by omega) (by omega) (by omega), J_nn (by omega), hpl, show rv (some y) = J (tgt π (mB K h π j) : Int) from by rw [tgt_some b4]; rfl, hcm, cali_s]
          have : tkB K (plR K h π (dnb (mN K h π) (mB K h π) o) none none) (mB K h π j) (tgt π (mB K h π j)) = false := by
            rw [hcx, Bool.and_true] at hno
            unfold okM at hno
            rw [hb, decide_eq_false (show ¬ (none : Option Nat) = some j from nofun)] at hno
            exact hno
          rw [this, if_pos (by rfl)]
          exact go
  exact ⟨τ1, key (fstX (mN K h π) (okM K h π none) o) 0 N (by omega) (by omega), p3⟩
theorem stX_succ {n : Nat} {ok : Nat → Nat → Bool} : ∀ (i o : Nat), stX n ok (i + 1) o = (stX n ok i o) ||| 2 ^ (fstX n ok (stX n ok i o)) := by
  intro i
  induction i with
  | zero => intro o; rfl
  | succ i ih =>
    intro o
    show stX n ok (i + 1) (o ||| 2 ^ (fstX n ok o)) = _
    rw [ih]
    rfl
theorem stX_ok {n : Nat} {ok : Nat → Nat → Bool} (hk : OkB n ok) {o : Nat} (ho : o < 2 ^ n) (hc : canX n ok o = true) : ∀ i, i ≤ rm n o → stX n ok i o < 2 ^ n ∧ rm n (stX n ok i o) + i = rm n o ∧ canX n ok (stX n ok i o) = true := by
  intro i
  induction i with
  | zero => intro _; exact ⟨ho, rfl, hc⟩
  | succ i ih =>
    intro hi
    obtain ⟨h1, h2, h3⟩ := ih (by omega)
    obtain ⟨f1, f2, f3⟩ := fstX_ok hk (by omega) h3
    have := rm_set f1 (hk _ _ f1 f2)
    rw [stX_succ]
    exact ⟨or_lt h1 f1, by omega, f3⟩
theorem S_orderAt_ok {N : Nat} (hN : 600 ≤ N) : S_orderAt N Rel := by
  rintro k a0 σ τ hk ⟨K, h, t, pl, π, q⟩
  obtain ⟨-, -, -, p4, p5⟩ := q.2.2.2.2.2.2.2.2.1
  rw [fX5_orderAt, fX6_orderAt, p4, p5]
  cases pl with
  | false =>
    rw [if_pos (by rfl), if_pos (by rfl)]
    exact ⟨-3, σ, τ, rfl, rfl, K, h, t, _, π, q.up⟩
  | true =>
    obtain ⟨σ1, a1, a2, a3, a4⟩ := findOrder_spec hN q
    obtain ⟨τ1, τ2, b1, b2, b3, b4, b5, b6⟩ := morder_spec hN q
    have q' := q.orders (k1 := k + 1) (by omega) a2 b5 b6
    have hn := mN_le (h := h) (π := π) q.1
    have z1 := (q.2.2.2.2.2.2.2.2.2 rfl).1
    obtain ⟨x, rfl, hx1, hx2⟩ := J_ex a0
    rw [if_neg (by decide), if_neg (by decide), a1, cali_s, b1, calv_s, b2, cali_s]
    have bad : ∃ v σ1_1 τ1, fX5_orderAt_39 N σ1 = some (v, σ1_1) ∧ fX6_orderAt_36 N τ2 = some (v, τ1) ∧ Rel (k + 1) σ1_1 τ1 := ⟨-1, σ1, τ2, rfl, rfl, K, h, t, _, π, q'⟩
    cases hcx : canX (mN K h π) (okM K h π none) 0 with
    | false =>
      rw [if_pos (by rfl), if_pos (by rfl)]
      exact bad
    | true =>
      have c1 : J x < (0 : Int32) ↔ x < 0 := J_lt (a := x) (b := 0) hx1 hx2 (by omega) (by omega)
      have c2 := J_lt (a := x) (b := (mN K h π : Int)) hx1 hx2 (by omega) (by omega)
      have ein : fX6_in N (J x) 0 ((τ2 0 23) - 1) τ2 = some (bz (decide (0 ≤ x) && decide (x ≤ (mN K h π : Int) - 1)), τ2) := by
        rw [b3.2.2.2.2.1, J1, J_sub]
        exact in_spec (lo := 0) N ⟨hx1, hx2⟩ (by omega) (by omega)
      rw [if_neg (show ¬ bz true = (0 : Int32) by decide), if_neg (show ¬ bz true = (0 : Int32) by decide), ein, cali_s, a3]
      rcases bz_split (lo := 0) (x := x) (hi := (mN K h π : Int) - 1) with e | ⟨e, e1, e2⟩
      · rw [e, if_pos (show bz false = (0 : Int32) from rfl)]
        simp only [Bool.and_eq_false_iff, decide_eq_false_iff_not] at e
        by_cases d1 : x < 0
        · rw [if_pos (c1.mpr d1)]; exact bad
        · rw [if_neg (fun z => d1 (c1.mp z)), if_neg (fun z => by have := c2.mp z; omega)]; exact bad
      · obtain ⟨i, rfl⟩ : ∃ i : Nat, x = (i : Int) := ⟨x.toNat, by omega⟩
        have hi : i < mN K h π := by omega
        have hst := stX_ok (okM_b (K := K) (h := h) (π := π) (out := none)) (show 0 < 2 ^ (mN K h π) from Nat.pow_pos (by omega)) hcx
        rw [rm_start] at hst
        have key : ∀ (d c n : Nat) (v : Int32) (τ3 : SS), c + d = i + 1 → d < n → (∀ x, x ≠ 13 → τ3 x = τ2 x) → (0 < c → v = J (fstX (mN K h π) (okM K h π none) (stX (mN K h π) (okM K h π none) (c - 1) 0) : Int)) → ∃ τ1, lp (fX6_orderAt_45 N) (fun _ _ _ _ _ => none) n (J (i : Int)) (J (stX (mN K h π) (okM K h π none) c 0 : Int)) v (J (c : Int)) τ3 = some (J (mB K h π (fstX (mN K h π) (okM K h π none) (stX (mN K h π) (okM K h π none) i 0)) : Int), τ1) ∧ (∀ x, x ≠ 13 → τ1 x = τ2 x) := by
          intro d
          induction d with
          | zero =>
            intro c n v τ3 hcd hn' hk3 hv
            obtain ⟨n, rfl⟩ : ∃ n', n = n' + 1 := ⟨n - 1, by omega⟩
            have hB3 := b3.keep (fun x a b => hk3 x a)
            have hv' := hv (by omega)
            rw [show c - 1 = i by omega] at hv'
            obtain ⟨s1, s2, s3⟩ := hst i (by omega)
            obtain ⟨f1, f2, f3⟩ := fstX_ok (okM_b (K := K) (h := h) (π := π) (out := none)) (by omega) s3
            rw [lp_succ, fX6_orderAt_45, if_pos ((J_lt (by omega) (by omega) (by omega) (by omega)).mpr (by omega)), hv', ck_J (by omega) (by omega) (by omega), J_nn (by omega), hB3.2.2.2.2.2 _ f1]
            exact ⟨τ3, rfl, hk3⟩
          | succ d ih =>
            intro c n v τ3 hcd hn' hk3 hv
            obtain ⟨n, rfl⟩ : ∃ n', n = n' + 1 := ⟨n - 1, by omega⟩
            have hB3 := b3.keep (fun x a b => hk3 x a)
            obtain ⟨s1, s2, s3⟩ := hst c (by omega)
            obtain ⟨f1, f2, f3⟩ := fstX_ok (okM_b (K := K) (h := h) (π := π) (out := none)) (by omega) s3
            have h2n : 2 ^ (mN K h π) ≤ 256 := Nat.pow_le_pow_right (by omega : 0 < 2) hn
            obtain ⟨τ4, g1, g2⟩ := firstOf_spec (τ := τ3) (o := stX (mN K h π) (okM K h π none) c 0) (N := N) (by omega) q.1 q.2.1 z1 hB3 (fun o ho => by rw [hk3 14 (by omega)]; exact b4 o ho) s1 (by omega) s3
            rw [lp_succ, fX6_orderAt_45, if_neg (fun q => by have := (J_lt (by omega) (by omega) (by omega) (by omega)).mp q; omega), g1, cali_s, bit_set _ (by omega) _ (by omega), ← stX_succ, J1, J_add]
            exact ih (c + 1) n _ τ4 (by omega) (by omega) (fun x hx => by rw [g2 x hx, hk3 x hx]) (fun _ => by rw [Nat.add_sub_cancel])
        obtain ⟨τ3, k1, k2⟩ := key (i + 1) 0 N (-1) τ2 (by omega) (by omega) (fun _ _ => rfl) (fun h => absurd h (by omega))
        have k1' : lp (fX6_orderAt_45 N) (fun _ _ _ _ _ => none) N (J (i : Int)) 0 (-1) 0 τ2 = _ := k1
        rw [e, if_neg (show ¬ bz true = (0 : Int32) by decide), k1', if_neg (fun z => by have := c1.mp z; omega), if_pos (c2.mpr (by omega)), ck_J (by omega) (by omega) (by omega), J_nn (by omega), a4 hcx i hi]
        exact ⟨_, σ1, τ3, rfl, rfl, K, h, t, _, π, q.orders (by omega) a2 (fun x c1 c2 c3 c4 => by rw [k2 x c3]; exact b5 x c1 c2 c3 c4) (fun i hi => by rw [k2 0 (by omega)]; exact b6 i hi)⟩
theorem S_step_ok {N : Nat} (hN : 600 ≤ N) : S_step N Rel := by
  rintro k a0 σ τ hk ha ⟨K, h, t, pl, π, q⟩
  obtain ⟨-, -, -, p4, p5⟩ := q.2.2.2.2.2.2.2.2.1
  rw [fX5_step, fX6_step, p4, p5]
  cases pl with
  | false =>
    rw [if_pos (by rfl), if_pos (by rfl)]
    exact ⟨-3, σ, τ, rfl, rfl, K, h, t, _, π, q.up⟩
  | true =>
    obtain ⟨σ1, a1, a2, a3, a4⟩ := findOrder_spec hN q
    obtain ⟨τ1, τ2, b1, b2, b3, b4, b5, b6⟩ := morder_spec hN q
    have q' := q.orders (k1 := k + 1) (by omega) a2 b5 b6
    have hn := mN_le (h := h) (π := π) q.1
    have hW := q.1.2.1
    obtain ⟨z1, z2, z3⟩ := q.2.2.2.2.2.2.2.2.2 rfl
    have bad : ∃ v σ1_1 τ1, fX5_step_31 N σ1 = some (v, σ1_1) ∧ fX6_step_21 N τ2 = some (v, τ1) ∧ Rel (k + 1) σ1_1 τ1 := ⟨-3, σ1, τ2, rfl, rfl, K, h, t, _, π, q'⟩
    have eord : fX6_order N τ = some (bz (canX (mN K h π) (okM K h π none) 0), τ2) := by
      rw [fX6_order, p5, if_neg (by decide), b1, calv_s, b2, cali_s]
      simp only [fX6_order_27]
      cases canX (mN K h π) (okM K h π none) 0 <;> rfl
    rw [if_neg (by decide), if_neg (by decide), a1, cali_s, eord, cali_s]
    cases hcx : canX (mN K h π) (okM K h π none) 0 with
    | false =>
      rw [if_pos (by rfl), if_pos (by rfl)]
      exact bad
    | true =>
      rw [if_neg (show ¬ bz true = (0 : Int32) by decide), if_neg (show ¬ bz true = (0 : Int32) by decide), a3, b3.2.2.2.2.1]
      have c0 : J (mN K h π : Int) = (0 : Int32) ↔ (mN K h π : Int) = 0 := J_eq (a := (mN K h π : Int)) (b := 0) (by omega) (by omega) (by omega) (by omega)
      by_cases c : mN K h π = 0
      · rw [if_pos (c0.mpr (by omega)), if_pos (c0.mpr (by omega))]
        exact bad
      · have hp : 0 < 2 ^ (mN K h π) := Nat.pow_pos (by omega)
        have hr : rm (mN K h π) 0 ≠ 0 := by rw [rm_start]; exact c
        obtain ⟨f1, f2, f3⟩ := fstX_ok (okM_b (K := K) (h := h) (π := π) (out := none)) hr hcx
        obtain ⟨τ3, g1, g2⟩ := firstOf_spec (τ := τ2) (o := 0) (N := N) (by omega) q.1 q.2.1 z1 b3 b4 hp hr hcx
        have g1' : fX6_firstOf N 0 τ2 = _ := g1
        have a40 := a4 hcx 0 (by omega)
        have a40' : σ1 28 (Int32.toNatClampNeg 0) = J (mB K h π (fstX (mN K h π) (okM K h π none) 0) : Int) := a40
        have e09 : ∀ (X : Option (Int32 × SS)), ck 0 9 X = X := fun X => ck_J (a := 0) (by omega) (by omega) (by omega)
        have hne : ¬ J (mN K h π : Int) = (0 : Int32) := fun z => c (by have := c0.mp z; omega)
        rw [if_neg hne, if_neg hne, g1', cali_s, a40', e09]
        generalize fstX (mN K h π) (okM K h π none) 0 = f at f1 f2 f3
        obtain ⟨d1, d2, x, y, d3, d4, d5⟩ := mB_ok f1
        have hB3 := b3.keep (fun x a b => g2 x a)
        have n3 : ∀ x, x ≠ 0 → x ≠ 12 → x ≠ 13 → x ≠ 14 → τ3 x = τ x := fun x c1 c2 c3 c4 => by rw [g2 x c3]; exact b5 x c1 c2 c3 c4
        have m3 : ∀ i, i ≠ 23 → τ3 0 i = τ 0 i := fun i hi => by rw [g2 0 (by omega)]; exact b6 i hi
        simp only [fX5_step_59, fX6_step_55]
        rcases ha with rfl | rfl
        · have q3 : RelX k σ1 τ3 K h t true π := q.orders (by omega) a2 n3 m3
          have htk : tkB K h (mB K h π f) y = true := by
            unfold okM at f2
            simp only [Bool.and_eq_true] at f2
            have := f2.2
            rw [posM_none z1, mvR_zero, tgt_some d4] at this
            exact this
          have hyM := (z1.1 _ y d4).2
          have e40 : σ1 40 (mB K h π f) = J (y : Int) := by
            rw [a2 40 (by omega), z2 _ (by omega), d4]; rfl
          obtain ⟨σ2, u1, u2, u3, u4, u5⟩ := makeMove_spec (σ := σ1) (N := N) (by omega) q.1 q3.2.2.1 q3.2.2.2.1 q.2.1 d1 hyM htk
          obtain ⟨τ4, v1, v2, v3, v4, v5⟩ := carry_spec (τ := τ3) (m := y) (N := N) (by omega) q.1 q.2.1 hB3.1 hB3.2.1 hB3.2.2.1 d1 (by rw [d3]; simp)
          have e11 : τ3 11 (mB K h π f) = J (y : Int) := by rw [hB3.2.2.2.1 _ d1, d4]; rfl
          rw [if_pos rfl, if_pos rfl, ck_J (by omega) (by omega) (by omega), J_nn (by omega), e40, u1, calv_s]
          simp (disch := omega) only [ck_J, J_nn]
          rw [hB3.2.2.2.2.2 f f1, ck_J (by omega) (by omega) (by omega), J_nn (by omega), e11, v1, calv_s, v5 12 (by omega) (by omega) (by omega), hB3.2.2.2.2.2 f f1]
          refine ⟨_, σ2, τ4, rfl, rfl, K, _, t, true, π, q3.moved d1 d2 d3 hyM htk (fun _ => ⟨rfl, d4⟩) u2 u3 (fun i i1 _ => u4 i i1) (fun i i1 i2 => u5 i (by omega) (by omega)) (u5 40 (by omega) (by omega)) (by rw [u4 6 (by omega)]; exact q3.2.2.2.2.2.2.2.2.1.2.2.2.1) v2 v3 (fun i hi => v4 i (by omega)) (fun i i1 i2 i3 => v5 i (by omega) i3 (by omega)) (v5 11 (by omega) (by omega) (by omega)) (by rw [v4 21 (by omega)]; exact q3.2.2.2.2.2.2.2.2.1.2.2.2.2)⟩
        · rw [if_neg (by decide), if_neg (by decide), ck_J (by omega) (by omega) (by omega), J_nn (by omega), hB3.2.2.2.2.2 f f1]
          exact ⟨_, σ1, τ3, rfl, rfl, K, h, t, _, π, q.orders (by omega) a2 n3 m3⟩
