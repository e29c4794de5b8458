theorem isTry_spec {τ : SS} {K : Kt} {o : Nat → Bool} {h : Ro} {g : Gl} {ρ : Ro} {w m N : Nat} (hN : 10 ≤ N) (hK : KOk K) (hR : MdRep τ K) (hO : MdOv τ K o) (ho : OvOk K o) (hp : PR K h g o ρ w) (hM : RwM τ ρ) (hw : w < kW K) (hlw : (h w).isSome = true) (hm : m < kM K) (hA : MdAt τ K 7 h) (hhM : RoOk K h) (hG : GlM τ g) (hg : GlOk K g) : fX6_isTry N (J w) (J m) τ = some (bz (okT K h g ρ w m), τ) := by
  have hM5 := hK.1
  have h91 := isTry91_spec hN hK hR hO ho hp hM hw hlw hm hA hhM hG hg
  obtain ⟨g0, gm, ga, gb⟩ := g
  obtain ⟨q1, q2, q3, q4⟩ := id hg
  obtain ⟨e1, e2, e3, e4⟩ := id hG
  dsimp only at q1 q2 q3 q4 e1 e2 e3 e4
  have cg := J_eq (a := (g0 : Int)) (b := 1) (by omega) (by omega) (by omega) (by omega)
  by_cases c : g0 = 1
  · have hgm := q2 (Or.inr c)
    have hb := q3 c
    have hrm := hK.2.2.1 gm hgm
    have hA8 := uA_bd hK hp.1 gm
    have hB8 := uB_bd hK hp.1 gm
    have hgp : (decide (ga ≤ kRA K gm - uA K ρ gm) && decide (gb ≤ kRB K gm - uB K ρ gm)) = true := by
      have := hp.2.2.2.2.2.2
      subst c
      exact this
    simp only [Bool.and_eq_true, decide_eq_true_eq] at hgp
    obtain ⟨r1, r2⟩ := hR.2.2.1 gm hgm
    have cm := J_eq (a := (m : Int)) (b := (gm : Int)) (by omega) (by omega) (by omega) (by omega)
    have h42 : fX6_isTry_42 N (J w) (J m) τ = some (bz (okT K h (g0, gm, ga, gb) ρ w m), τ) := by
      rw [fX6_isTry_42, e1, J1, if_pos (cg.mpr (by omega)), e2 (Or.inr c)]
      by_cases d : m = gm
      · rw [if_pos (cm.mpr (by omega)), fX6_isTry_66, e1, J1, if_pos (cg.mpr (by omega)), e2 (Or.inr c), if_pos (cm.mpr (by omega)), e3 (Or.inl c), e4 c]
        rw [show lessOf (g0, gm, ga, gb) m false = ga from by unfold lessOf; simp [c, d], show lessOf (g0, gm, ga, gb) m true = gb from by unfold lessOf; simp [c, d]] at h91
        exact h91
      · rw [if_neg (fun q => d (by have := cm.mp q; omega)), fX6_isTry_65, fX6_isTry_66, e1, J1, if_pos (cg.mpr (by omega)), e2 (Or.inr c), if_neg (fun q => d (by have := cm.mp q; omega)), fX6_isTry_90]
        rw [show lessOf (g0, gm, ga, gb) m false = 0 from by unfold lessOf; simp [d], show lessOf (g0, gm, ga, gb) m true = 0 from by unfold lessOf; simp [d]] at h91
        exact h91
    rw [fX6_isTry, e1, J1, if_pos (cg.mpr (by omega)), e2 (Or.inr c), ck_J (by omega) (by omega) (by omega), J_nn (by omega), r1, e3 (Or.inl c), if_neg (fun q => by have := (J_lt (by omega) (by omega) (by omega) (by omega)).mp q; omega), ck_J (by omega) (by omega) (by omega), e4 c, r2, if_pos ((J_le (by omega) (by omega) (by omega) (by omega)).mpr (by omega))]
    exact h42
  · rw [fX6_isTry, e1, J1, if_neg (fun q => c (by have := cg.mp q; omega)), fX6_isTry_42, e1, J1, if_neg (fun q => c (by have := cg.mp q; omega)), fX6_isTry_65, fX6_isTry_66, e1, J1, if_neg (fun q => c (by have := cg.mp q; omega)), fX6_isTry_90]
    rw [show lessOf (g0, gm, ga, gb) m false = 0 from by unfold lessOf; simp [c], show lessOf (g0, gm, ga, gb) m true = 0 from by unfold lessOf; simp [c]] at h91
    exact h91
theorem next_up {τ : SS} {K : Kt} {o : Nat → Bool} {f N : Nat} (hN : 20 ≤ N) (hK : KOk K) (hR : MdRep τ K) (hO : MdOv τ K o) (hf : f ≤ kW K) : ∀ (x : Int32), x + 1 = J f → fX6_next N x 1 τ = some (J (lfr (fun v => !(o v)) (kW K - f) f : Nat), τ) := by
  have hW := hK.2.1
  intro x hx
  have key : ∀ (d j n : Nat), j + d = kW K → d < n → lp (fX6_next_4 N) (fun _ _ _ => none) n 1 (J j) τ = some (J (lfr (fun v => !(o v)) d j : Nat), τ) := by
    intro d
    induction d with
    | zero =>
      intro j n hj hn
      obtain ⟨n, rfl⟩ : ∃ n', n = n' + 1 := ⟨n - 1, by omega⟩
      rw [lp_succ, fX6_next_4, hR.2.1, J1, J_sub, J0, in_spec N (by omega) (by omega) (by omega), cali_s, decide_eq_false (by omega : ¬ (j : Int) ≤ (kW K : Int) - 1), Bool.and_false, if_pos (by rfl), fX6_next_34]
      rfl
    | succ d ih =>
      intro j n hj hn
      obtain ⟨n, rfl⟩ : ∃ n', n = n' + 1 := ⟨n - 1, by omega⟩
      rw [lp_succ, fX6_next_4, hR.2.1, J1, J_sub, J0, in_spec N (by omega) (by omega) (by omega), cali_s, decide_eq_true (by omega : (j : Int) ≤ (kW K : Int) - 1), decide_eq_true (by omega : (0 : Int) ≤ (j : Int)), if_neg (by decide), ck_J (by omega) (by omega) (by omega), J_nn (by omega), hO j (by omega)]
      unfold lfr
      cases co : o j with
      | true =>
        rw [if_neg (by decide), J_add, if_neg (by simp)]
        exact ih (j + 1) n (by omega) (by omega)
      | false =>
        rw [if_pos (by rfl), fX6_next_34, if_pos (by simp)]
  rw [fX6_next, hx]
  exact key (kW K - f) f N (by omega) (by omega)
def pv (o : Nat → Bool) : Nat → Int
  | 0 => -1
  | w + 1 => if o w then pv o w else (w : Int)
theorem pv_bd (o : Nat → Bool) (w : Nat) : -1 ≤ pv o w ∧ pv o w < (w : Int) := by
  induction w with
  | zero => exact ⟨Int.le_refl _, by show (-1 : Int) < 0; omega⟩
  | succ w ih =>
    unfold pv
    by_cases c : o w = true
    · rw [if_pos c]; omega
    · rw [if_neg c]; omega
theorem next_dn {τ : SS} {K : Kt} {o : Nat → Bool} {w N : Nat} (hN : 20 ≤ N) (hK : KOk K) (hR : MdRep τ K) (hO : MdOv τ K o) (hw : w ≤ kW K) : fX6_next N (J w) (-1) τ = some (J (pv o w), τ) := by
  have hW := hK.2.1
  have key : ∀ (j n : Nat), j ≤ kW K → j < n → lp (fX6_next_4 N) (fun _ _ _ => none) n (-1) (J ((j : Int) - 1)) τ = some (J (pv o j), τ) := by
    intro j
    induction j with
    | zero =>
      intro n hj hn
      obtain ⟨n, rfl⟩ : ∃ n', n = n' + 1 := ⟨n - 1, by omega⟩
      rw [lp_succ, fX6_next_4, hR.2.1, J1, J_sub, J0, in_spec N (by omega) (by omega) (by omega), cali_s, decide_eq_false (by omega : ¬ (0 : Int) ≤ ((0 : Nat) : Int) - 1), Bool.false_and, if_pos (by rfl), fX6_next_34]
      rfl
    | succ j ih =>
      intro n hj hn
      obtain ⟨n, rfl⟩ : ∃ n', n = n' + 1 := ⟨n - 1, by omega⟩
      rw [show (((j + 1 : Nat) : Int) - 1) = (j : Int) by omega]
      rw [lp_succ, fX6_next_4, hR.2.1, J1, J_sub, J0, in_spec N (by omega) (by omega) (by omega), cali_s, decide_eq_true (by omega : (j : Int) ≤ (kW K : Int) - 1), decide_eq_true (by omega : (0 : Int) ≤ (j : Int)), if_neg (by decide), ck_J (by omega) (by omega) (by omega), J_nn (by omega), hO j (by omega)]
      unfold pv
      cases co : o j with
      | true =>
        rw [if_neg (by decide), show (-J 1 : Int32) = J (-1) from rfl, J_add, if_pos rfl]
        exact ih n (by omega) (by omega)
      | false =>
        rw [if_pos (by rfl), fX6_next_34, if_neg (by decide)]
  rw [fX6_next, Jm1, J_add]
  exact key w N hw (by omega)
/-- what a row is weighed by -/
def wtOf (K : Kt) (h : Ro) (g : Gl) : Ro → Int := if g.1 = 3 then oc else mvs K h
theorem wt_bd {K : Kt} {h : Ro} {g : Gl} (ρ : Ro) : 0 ≤ wtOf K h g ρ ∧ wtOf K h g ρ ≤ 8 := by
  unfold wtOf
  by_cases c : g.1 = 3
  · rw [if_pos c]; have := oc_bd ρ; omega
  · rw [if_neg c]; exact mvs_bd
/-- rows that give each that lives a machine, and none else -/
def Full (K : Kt) (o : Nat → Bool) (ρ : Ro) : Prop := RoOk K ρ ∧ ∀ v, (ρ v).isSome = true ↔ v < kW K ∧ o v = false
theorem weigh_spec {τ : SS} {K : Kt} {o : Nat → Bool} {h : Ro} {g : Gl} {ρ : Ro} {N : Nat} (hN : 10 ≤ N) (hK : KOk K) (hR : MdRep τ K) (hO : MdOv τ K o) (ho : OvOk K o) (hF : Full K o ρ) (hM : RwM τ ρ) (hA : MdAt τ K 7 h) (hhM : RoOk K h) (hhl : ∀ v, v < kW K → o v = false → (h v).isSome = true) (hG : GlM τ g) (hg : GlOk K g) : fX6_weigh N τ = some (J (wtOf K h g ρ), τ) := by
  have hW := hK.2.1
  have hM5 := hK.1
  have hso : ∀ v, v < kW K → o v = false → ∃ x, ρ v = some x := fun v hv q => by
    have := (hF.2 v).mpr ⟨hv, q⟩
    cases z : ρ v with
    | none => rw [z] at this; cases this
    | some x => exact ⟨x, rfl⟩
  have hno : ∀ v, o v = true → ρ v = none := fun v q => by
    cases z : ρ v with
    | none => rfl
    | some x =>
      have := ((hF.2 v).mp (by rw [z]; rfl)).2
      rw [q] at this; cases this
  rw [fX6_weigh, hG.1, J3]
  have cg := J_eq (a := (g.1 : Int)) (b := 3) (by have := hg.1; omega) (by have := hg.1; omega) (by omega) (by omega)
  unfold wtOf
  by_cases c : g.1 = 3
  · rw [if_pos (cg.mpr (by omega)), if_pos c]
    have key : ∀ (d j n : Nat), j + d = kW K → d < n → lp (fX6_weigh_12 N) (fun _ _ _ => none) n (bp (fun k => hs ρ k j)) (J j) τ = some (J (oc ρ), τ) := by
      intro d
      induction d with
      | zero =>
        intro j n hj hn
        obtain ⟨n, rfl⟩ : ∃ n', n = n' + 1 := ⟨n - 1, by omega⟩
        rw [lp_succ, fX6_weigh_12, hR.2.1, if_pos ((J_le (by omega) (by omega) (by omega) (by omega)).mpr (by omega))]
        have e := pop5_w (p := fun k => hs ρ k j) (τ := τ) N 5 0 N (by omega) (by omega)
        rw [oc_bits (ρ := ρ)] at e
        · exact e
        · intro k hk
          rw [hs_true]
          exact ⟨fun ⟨v, h1, h2⟩ => ⟨v, by omega, h2⟩, fun ⟨v, h1, h2⟩ => ⟨v, by have := (hF.1 v k h2).1; omega, h2⟩⟩
      | succ d ih =>
        intro j n hj hn
        obtain ⟨n, rfl⟩ : ∃ n', n = n' + 1 := ⟨n - 1, by omega⟩
        have hnext := ih (j + 1) n (by omega) (by omega)
        rw [lp_succ, fX6_weigh_12, hR.2.1, if_neg (fun q => by have := (J_le (by omega) (by omega) (by omega) (by omega)).mp q; omega), ck_J (by omega) (by omega) (by omega), J_nn (by omega), hO j (by omega)]
        cases co : o j with
        | true =>
          rw [if_neg (by decide), fX6_weigh_42, bp_z, J1, J_add]
          rw [show (fun k => hs ρ k (j + 1)) = (fun k => hs ρ k j) from by funext k; rw [hs_succ, hno j co]; simp] at hnext
          exact hnext
        | false =>
          obtain ⟨x, hx⟩ := hso j (by omega) co
          have hxM := (hF.1 j x hx).2
          rw [if_pos bz_f, ck_J (by omega) (by omega) (by omega), fX6_weigh_42, hM j x hx, bp_or _ (by omega), J1, J_add]
          rw [show (fun k => hs ρ k (j + 1)) = (fun k => hs ρ k j || k == x) from by
            funext k
            rw [hs_succ, hx]
            have : (some x == some k) = (k == x) := by
              apply Bool.eq_iff_iff.mpr
              simp only [beq_iff_eq, Option.some.injEq]
              exact eq_comm
            rw [this]] at hnext
          exact hnext
    have := key (kW K) 0 N (by omega) (by omega)
    rw [show bp (fun k => hs ρ k 0) = 0 from by simp [hs]; decide] at this
    exact this
  · rw [if_neg (fun q => c (by have := cg.mp q; omega)), if_neg c]
    have key : ∀ (d j n : Nat), j + d = kW K → d < n → lp (fX6_weigh_79 N) (fun _ _ _ => none) n (J (sm j (fun w => if mvd K h ρ w then 1 else 0))) (J j) τ = some (J (sm (kW K) (fun w => if mvd K h ρ w then 1 else 0)), τ) := by
      intro d
      induction d with
      | zero =>
        intro j n hj hn
        obtain ⟨n, rfl⟩ : ∃ n', n = n' + 1 := ⟨n - 1, by omega⟩
        rw [lp_succ, fX6_weigh_79, hR.2.1, if_pos ((J_le (by omega) (by omega) (by omega) (by omega)).mpr (by omega))]
        have : j = kW K := by omega
        subst this
        rfl
      | succ d ih =>
        intro j n hj hn
        obtain ⟨n, rfl⟩ : ∃ n', n = n' + 1 := ⟨n - 1, by omega⟩
        have hnext := ih (j + 1) n (by omega) (by omega)
        have es : sm (j + 1) (fun w => if mvd K h ρ w then (1 : Int) else 0) = sm j (fun w => if mvd K h ρ w then 1 else 0) + (if mvd K h ρ j then 1 else 0) := rfl
        rw [es] at hnext
        rw [lp_succ, fX6_weigh_79, hR.2.1, if_neg (fun q => by have := (J_le (by omega) (by omega) (by omega) (by omega)).mp q; omega), isBlock_spec hN hK hR hO ho (by omega), cali_s]
        have no : mvd K h ρ j = false → fX6_weigh_115 N (lp (fX6_weigh_79 N) (fun _ _ _ => none) n) (J j) (J (sm j (fun w => if mvd K h ρ w then 1 else 0))) τ = some (J (sm (kW K) (fun w => if mvd K h ρ w then 1 else 0)), τ) := by
          intro q
          rw [q, if_neg (by decide), Int.add_zero] at hnext
          rw [fX6_weigh_115, fX6_weigh_116, J0, J1, J_add, J_add, Int.add_zero]
          exact hnext
        cases cb : isB K o j with
        | false =>
          rw [if_pos bz_f]
          refine no ?_
          unfold isB at cb
          unfold mvd
          cases co : o j with
          | true => rw [hno j co]; simp
          | false =>
            rw [co] at cb
            simp only [Bool.not_false, Bool.true_and] at cb
            rw [cb]; rfl
        | true =>
          unfold isB at cb
          simp only [Bool.and_eq_true, Bool.not_eq_true'] at cb
          obtain ⟨x, hx⟩ := hso j (by omega) cb.1
          have hhs := hhl j (by omega) cb.1
          obtain ⟨y, hy⟩ : ∃ y, h j = some y := by
            cases z : h j with
            | none => rw [z] at hhs; cases hhs
            | some y => exact ⟨y, rfl⟩
          have hxM := (hF.1 j x hx).2
          have hyM := (hhM j y hy).2
          have cxy := J_eq (a := (x : Int)) (b := (y : Int)) (by omega) (by omega) (by omega) (by omega)
          rw [if_neg (by decide), ck_J (by omega) (by omega) (by omega), ck_J (by omega) (by omega) (by omega), J_nn (by omega), hM j x hx, hA j y (by omega) hy]
          by_cases d1 : x = y
          · rw [if_pos (cxy.mpr (by omega))]
            exact no (by unfold mvd; rw [hx, hy, d1]; simp)
          · rw [if_neg (fun q => d1 (by have := cxy.mp q; omega)), fX6_weigh_116, J1, J_add, J_add]
            have : mvd K h ρ j = true := by unfold mvd; rw [hx, hy, cb.2]; simp [d1]
            rw [this, if_pos rfl] at hnext
            exact hnext
    have := key (kW K) 0 N (by omega) (by omega)
    have e : mvs K h ρ = sm (kW K) (fun w => if mvd K h ρ w then 1 else 0) := sm_ext (by omega) (fun i h1 h2 => by
      have : ρ i = none := by
        cases z : ρ i with
        | none => rfl
        | some x => have := (hF.1 i x z).1; omega
      unfold mvd
      rw [this]
      simp)
    rw [e]
    exact this
/-- what the reference has found so far -/
def AcM (τ : SS) (K : Kt) (h : Ro) (g : Gl) (a : Ac) : Prop := τ 0 13 = J (a.1 : Int) ∧ a.1 ≤ 200000 ∧ τ 0 16 = wv (wtOf K h g) (bestOf (wtOf K h g) a.2.2) ∧ (∀ b, bestOf (wtOf K h g) a.2.2 = some b → ∀ v m, b v = some m → τ 10 v = J (m : Int))
theorem take_spec {τ : SS} {K : Kt} {o : Nat → Bool} {h : Ro} {g : Gl} {ρ : Ro} {a : Ac} {N : Nat} (hN : 10 ≤ N) (hK : KOk K) (hR : MdRep τ K) (hO : MdOv τ K o) (ho : OvOk K o) (hF : Full K o ρ) (hM : RwM τ ρ) (hA : MdAt τ K 7 h) (hhM : RoOk K h) (hhl : ∀ v, v < kW K → o v = false → (h v).isSome = true) (hG : GlM τ g) (hg : GlOk K g) (hAc : AcM τ K h g a) : ∃ τ1, fX6_take N τ = some τ1 ∧ AcM τ1 K h g (a.1, a.2.1, a.2.2 ++ [ρ]) ∧ (∀ i, i ≠ 16 → τ1 0 i = τ 0 i) ∧ (∀ k, k ≠ 0 → k ≠ 10 → τ1 k = τ k) := by
  have hW := hK.2.1
  obtain ⟨a1, a2, a3, a4⟩ := hAc
  have hb := wt_bd (K := K) (h := h) (g := g) ρ
  have loop : ∀ (d j n : Nat) (τ0 : SS), j + d = kW K → d < n → τ0 0 3 = J (kW K) → (∀ v m, v < j → ρ v = some m → τ0 10 v = J (m : Int)) → (∀ v m, ρ v = some m → τ0 9 v = J (m : Int)) → ∃ τ1, lp (fX6_take_28 N) (fun _ _ => none) n (J j) τ0 = some τ1 ∧ (∀ v m, ρ v = some m → τ1 10 v = J (m : Int)) ∧ (∀ k, k ≠ 10 → τ1 k = τ0 k) := by
    intro d
    induction d with
    | zero =>
      intro j n τ0 hj hn h3 hd h9
      obtain ⟨n, rfl⟩ : ∃ n', n = n' + 1 := ⟨n - 1, by omega⟩
      rw [lp_succ, fX6_take_28, h3, if_pos ((J_le (by omega) (by omega) (by omega) (by omega)).mpr (by omega)), fX6_take_54]
      exact ⟨τ0, rfl, fun v m hv => hd v m (by have := (hF.1 v m hv).1; omega) hv, fun _ _ => rfl⟩
    | succ d ih =>
      intro j n τ0 hj hn h3 hd h9
      obtain ⟨n, rfl⟩ : ∃ n', n = n' + 1 := ⟨n - 1, by omega⟩
      rw [lp_succ, fX6_take_28, h3, if_neg (fun q => by have := (J_le (by omega) (by omega) (by omega) (by omega)).mp q; omega), ck_J (by omega) (by omega) (by omega), ck_J (by omega) (by omega) (by omega), J_nn (by omega), sg, J1, J_add]
      obtain ⟨τ1, p1, p2, p3⟩ := ih (j + 1) n (stp τ0 10 (upd (τ0 10) j (τ0 9 j))) (by omega) (by omega) (by rw [stp_n (by omega)]; exact h3) (fun v m hv hm => by
        by_cases e : v = j
        · subst e; rw [stp_s, upd_s]; exact h9 v m hm
        · rw [stp_s, upd_n e]; exact hd v m (by omega) hm) (fun v m hm => by rw [stp_n (by omega)]; exact h9 v m hm)
      exact ⟨τ1, p1, p2, fun k hk => by rw [p3 k hk, stp_n hk]⟩
  have new : bestOf (wtOf K h g) (a.2.2 ++ [ρ]) = some ρ → ∃ τ1, fX6_take_21 N (J (wtOf K h g ρ)) τ = some τ1 ∧ AcM τ1 K h g (a.1, a.2.1, a.2.2 ++ [ρ]) ∧ (∀ i, i ≠ 16 → τ1 0 i = τ 0 i) ∧ (∀ k, k ≠ 0 → k ≠ 10 → τ1 k = τ k) := by
    intro hn
    rw [fX6_take_21, sg]
    obtain ⟨τ1, p1, p2, p3⟩ := loop (kW K) 0 N (stp τ 0 (upd (τ 0) 16 (J (wtOf K h g ρ)))) (by omega) (by omega) (by rw [stp_s, upd_n (by omega)]; exact hR.2.1) (fun v m hv => absurd hv (by omega)) (fun v m hm => by rw [stp_n (by omega)]; exact hM v m hm)
    refine ⟨τ1, p1, ⟨?_, a2, ?_, ?_⟩, fun i hi => ?_, fun k h0 h10 => ?_⟩
    · rw [p3 0 (by omega), stp_s, upd_n (by omega)]; exact a1
    · rw [p3 0 (by omega), stp_s, upd_s, hn]; rfl
    · intro b hb2 v m hv
      rw [hn] at hb2
      cases hb2
      exact p2 v m hv
    · rw [p3 0 (by omega), stp_s, upd_n hi]
    · rw [p3 k h10, stp_n h0]
  rw [fX6_take, weigh_spec hN hK hR hO ho hF hM hA hhM hhl hG hg, cali_s, a3]
  cases hbo : bestOf (wtOf K h g) a.2.2 with
  | none =>
    rw [if_pos (by rfl)]
    exact new (by rw [bestOf_app, hbo]; rfl)
  | some b =>
    have hb2 := wt_bd (K := K) (h := h) (g := g) b
    have hle := J_le (a := wtOf K h g b) (b := wtOf K h g ρ) (by omega) (by omega) (by omega) (by omega)
    rw [if_neg (by show ¬ J (wtOf K h g b) = J (-1); rw [J_eq (by omega) (by omega) (by omega) (by omega)]; omega)]
    show ∃ τ1, (if J (wtOf K h g b) ≤ J (wtOf K h g ρ) then _ else _) = some τ1 ∧ _
    by_cases c : wtOf K h g b ≤ wtOf K h g ρ
    · rw [if_pos (hle.mpr c), fX6_take_54]
      have e : bestOf (wtOf K h g) (a.2.2 ++ [ρ]) = some b := by
        rw [bestOf_app, hbo]
        show (if wtOf K h g ρ < wtOf K h g b then some ρ else some b) = some b
        rw [if_neg (by omega)]
      refine ⟨τ, rfl, ⟨a1, a2, by rw [a3, hbo, e], fun b2 hb3 => ?_⟩, fun _ _ => rfl, fun _ _ _ => rfl⟩
      rw [e] at hb3
      cases hb3
      exact a4 b hbo
    · rw [if_neg (fun q => c (hle.mp q))]
      refine new ?_
      rw [bestOf_app, hbo]
      show (if wtOf K h g ρ < wtOf K h g b then some ρ else some b) = some ρ
      rw [if_pos (by omega)]
