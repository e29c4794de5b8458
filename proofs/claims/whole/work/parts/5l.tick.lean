theorem uA_sub {K : Kt} {ρ ρ1 : Ro} (hK : KOk K) (hρ : RoOk K ρ) (hs : ∀ v x, ρ1 v = some x → ρ v = some x) (m : Nat) : uA K ρ1 m ≤ uA K ρ m ∧ uB K ρ1 m ≤ uB K ρ m := by
  have key : ∀ (f : Nat → Int), (∀ w, w < kW K → 0 ≤ f w) → sm 8 (fun w => if ρ1 w = some m then f w else 0) ≤ sm 8 (fun w => if ρ w = some m then f w else 0) := by
    intro f hf
    refine sm_mono (fun w _ => ?_)
    by_cases c : ρ1 w = some m
    · rw [if_pos c, if_pos (hs w m c)]; exact Int.le_refl _
    · rw [if_neg c]
      by_cases c2 : ρ w = some m
      · rw [if_pos c2]; exact hf w (hρ w m c2).1
      · rw [if_neg c2]; exact Int.le_refl _
  exact ⟨key (kA K) (fun w hw => (hK.2.2.2 w hw).1), key (kB K) (fun w hw => (hK.2.2.2 w hw).2.2.1)⟩
/-- works that end by a tick -/
def eb (K : Kt) (h : Ro) (t : Int) (v : Nat) : Bool := (h v).isSome && (kd K v == 4 && decide (kg K v ≤ t))
def endR (K : Kt) (h : Ro) (t : Int) (j : Nat) : Ro := fun v => if v < j ∧ eb K h t v = true then none else h v
def en (K : Kt) (h : Ro) (t : Int) (j : Nat) : Int := sm j (fun v => if eb K h t v then 1 else 0)
theorem endR_sub {K : Kt} {h : Ro} {t : Int} {j : Nat} : ∀ v x, endR K h t j v = some x → h v = some x := by
  intro v x e
  unfold endR at e
  by_cases c : v < j ∧ eb K h t v = true
  · rw [if_pos c] at e; cases e
  · rw [if_neg c] at e; exact e
theorem endR_zero {K : Kt} {h : Ro} {t : Int} : endR K h t 0 = h := by
  funext v
  unfold endR
  rw [if_neg (by omega)]
theorem endR_step {K : Kt} {h : Ro} {t : Int} {j : Nat} : endR K h t (j + 1) = if eb K h t j then rset (endR K h t j) j none else endR K h t j := by
  cases e : eb K h t j with
  | true =>
    rw [if_pos rfl]
    funext v
    unfold endR rset
    by_cases c : v = j
    · subst c; rw [if_pos ⟨by omega, e⟩, if_pos rfl]
    · rw [if_neg c]
      show _ = (if v < j ∧ eb K h t v = true then none else h v)
      by_cases c2 : v < j ∧ eb K h t v = true
      · rw [if_pos c2, if_pos ⟨by omega, c2.2⟩]
      · rw [if_neg c2, if_neg (fun q => c2 ⟨by omega, q.2⟩)]
  | false =>
    rw [if_neg (by decide)]
    funext v
    unfold endR
    by_cases c2 : v < j ∧ eb K h t v = true
    · rw [if_pos c2, if_pos ⟨by omega, c2.2⟩]
    · rw [if_neg c2, if_neg]
      intro q
      by_cases c : v = j
      · subst c; rw [e] at q; cases q.2
      · exact c2 ⟨by omega, q.2⟩
theorem en_bd {K : Kt} {h : Ro} {t : Int} {j : Nat} : 0 ≤ en K h t j ∧ en K h t j ≤ j := by
  have := sm_bd (n := j) (f := fun v => if eb K h t v then 1 else 0) (c := 1) (fun v _ => by cases eb K h t v <;> decide)
  unfold en
  omega
theorem ctick_spec {σ : SS} {K : Kt} {h : Ro} {t : Int} {pl : Bool} {N : Nat} (hN : 10 ≤ N) (hK : KOk K) (hh : RoOk K h) (hT : TwApart K h) (ht : -2147483648 ≤ t ∧ t < 2147483648) (hS : StRep σ K) (hR : RowRep σ 13 K h) (h8 : σ 0 8 = J t) (h6 : σ 0 6 = bz pl) : ∃ σ1, lp (fX5_tick_29 N) (fun _ _ _ => none) N 0 0 σ = some (J (en K h t (kW K)), σ1) ∧ RowRep σ1 13 K (endR K h t (kW K)) ∧ (∀ x, x ≠ 0 → x < 13 ∨ 18 < x → σ1 x = σ x) ∧ σ1 0 6 = bz (pl && decide (en K h t (kW K) = 0)) ∧ ∀ i, i ≠ 6 → σ1 0 i = σ 0 i := by
  have hW := hK.2.1
  have hM := hK.1
  have key : ∀ (d j n : Nat) (σ : SS), j + d = kW K → d < n → StRep σ K → RowRep σ 13 K (endR K h t j) → σ 0 8 = J t → σ 0 6 = bz pl → ∃ σ1, lp (fX5_tick_29 N) (fun _ _ _ => none) n (J (en K h t j)) (J j) σ = some (J (en K h t (kW K)), σ1) ∧ RowRep σ1 13 K (endR K h t (kW K)) ∧ (∀ x, x ≠ 0 → x < 13 ∨ 18 < x → σ1 x = σ x) ∧ σ1 0 6 = bz (pl && decide (en K h t (kW K) = 0)) ∧ ∀ i, i ≠ 6 → σ1 0 i = σ 0 i := by
    intro d
    induction d with
    | zero =>
      intro j n σ hj hn hS hR h8 h6
      obtain ⟨n, rfl⟩ : ∃ n', n = n' + 1 := ⟨n - 1, by omega⟩
      have ej : j = kW K := by omega
      subst ej
      have hb := en_bd (K := K) (h := h) (t := t) (j := kW K)
      have cle := J_le (a := en K h t (kW K)) (b := 0) (by omega) (by omega) (by omega) (by omega)
      rw [lp_succ, fX5_tick_29, hS.2.1, if_pos ((J_le (by omega) (by omega) (by omega) (by omega)).mpr (by omega)), J0]
      by_cases c : en K h t (kW K) ≤ 0
      · rw [if_pos (cle.mpr c), fX5_tick_94]
        refine ⟨σ, rfl, hR, fun _ _ _ => rfl, ?_, fun _ _ => rfl⟩
        rw [h6, decide_eq_true (by omega : en K h t (kW K) = 0), Bool.and_true]
      · rw [if_neg (fun q => c (cle.mp q)), sg, fX5_tick_94]
        refine ⟨_, rfl, hR.keep (fun k a b => stp_n (by omega)), fun x hx _ => stp_n hx, ?_, fun i hi => by rw [stp_s, upd_n hi]⟩
        rw [stp_s, upd_s, decide_eq_false (by omega : ¬ en K h t (kW K) = 0), Bool.and_false]
        rfl
    | succ d ih =>
      intro j n σ hj hn hS hR h8 h6
      obtain ⟨n, rfl⟩ : ∃ n', n = n' + 1 := ⟨n - 1, by omega⟩
      have hjW : j < kW K := by omega
      have es : en K h t (j + 1) = en K h t j + (if eb K h t j then 1 else 0) := rfl
      have eR := endR_step (K := K) (h := h) (t := t) (j := j)
      have ehj : endR K h t j j = h j := by unfold endR; rw [if_neg (by omega)]
      rw [lp_succ, fX5_tick_29, hS.2.1, if_neg (fun q => by have := (J_le (by omega) (by omega) (by omega) (by omega)).mp q; omega), ck_J (by omega) (by omega) (by omega), J_nn (by omega), hR.1 j (by omega), ehj, Jm1]
      have hb : ∀ m, h j = some m → m < 2147483647 := fun m q => by have := (hh j m q).2; omega
      have no : eb K h t j = false → ∃ σ1, fX5_tick_79 N (lp (fX5_tick_29 N) (fun _ _ _ => none) n) (J (en K h t j)) (J j) σ = some (J (en K h t (kW K)), σ1) ∧ RowRep σ1 13 K (endR K h t (kW K)) ∧ (∀ x, x ≠ 0 → x < 13 ∨ 18 < x → σ1 x = σ x) ∧ σ1 0 6 = bz (pl && decide (en K h t (kW K) = 0)) ∧ ∀ i, i ≠ 6 → σ1 0 i = σ 0 i := by
        intro z
        rw [z, if_neg (by decide)] at es eR
        rw [Int.add_zero] at es
        have := ih (j + 1) n σ (by omega) (by omega) hS (by rw [eR]; exact hR) h8 h6
        rw [es] at this
        rw [fX5_tick_79, J1, J_add]
        exact this
      by_cases c : h j = none
      · rw [if_pos ((rv_none hb).mpr c)]
        exact no (by unfold eb; rw [c]; rfl)
      · have hs : (h j).isSome = true := by cases q : h j with | none => exact absurd q c | some x => rfl
        rw [if_neg (fun q => c ((rv_none hb).mp q)), h8, endsBy_spec N hK hS hjW ht, cali_s]
        cases ce : (kd K j == 4 && decide (kg K j ≤ t)) with
        | false =>
          rw [if_pos bz_f]
          exact no (by unfold eb; rw [ce, Bool.and_false])
        | true =>
          have z : eb K h t j = true := by unfold eb; rw [ce, hs]; rfl
          rw [z, if_pos rfl] at es eR
          obtain ⟨σ1, q1, R1, k1⟩ := remove_spec N (by omega : 13 ≤ 13) hK hS hR (fun w m q => hh w m (endR_sub w m q)) (twapart_sub hT endR_sub) hjW
          obtain ⟨σ2, q2, R2, k2, f2, g2⟩ := ih (j + 1) n σ1 (by omega) (by omega) (hS.keep (fun k _ b => k1 k (by omega))) (by rw [eR]; exact R1) (by rw [k1 0 (by omega)]; exact h8) (by rw [k1 0 (by omega)]; exact h6)
          rw [if_neg (by decide), q1, calv_s, fX5_tick_79, J1, J_add, J_add]
          rw [es] at q2
          exact ⟨σ2, q2, R2, fun x hx h1 => by rw [k2 x hx h1, k1 x (by omega)], f2, fun i hi => by rw [g2 i hi, k1 0 (by omega)]⟩
  exact key (kW K) 0 N σ (by omega) (by omega) hS (by rw [endR_zero]; exact hR) h8 h6
theorem mtick_spec {τ : SS} {K : Kt} {h : Ro} {t : Int} {pl : Bool} {N : Nat} (hN : 10 ≤ N) (hK : KOk K) (ht : -2147483648 ≤ t ∧ t < 2147483648) (hR : MdRep τ K) (hO : MdOv τ K (ovf h)) (h10 : τ 0 10 = J t) (h21 : τ 0 21 = bz pl) : ∃ τ1, lp (fX6_tick_28 N) (fun _ _ _ => none) N 0 0 τ = some (J (en K h t (kW K)), τ1) ∧ MdOv τ1 K (ovf (endR K h t (kW K))) ∧ (∀ x, x ≠ 0 → x ≠ 8 → τ1 x = τ x) ∧ τ1 0 21 = bz (pl && decide (en K h t (kW K) = 0)) ∧ ∀ i, i ≠ 21 → τ1 0 i = τ 0 i := by
  have hW := hK.2.1
  have hM := hK.1
  have key : ∀ (d j n : Nat) (τ : SS), j + d = kW K → d < n → MdRep τ K → MdOv τ K (ovf (endR K h t j)) → τ 0 10 = J t → τ 0 21 = bz pl → ∃ τ1, lp (fX6_tick_28 N) (fun _ _ _ => none) n (J (en K h t j)) (J j) τ = some (J (en K h t (kW K)), τ1) ∧ MdOv τ1 K (ovf (endR K h t (kW K))) ∧ (∀ x, x ≠ 0 → x ≠ 8 → τ1 x = τ x) ∧ τ1 0 21 = bz (pl && decide (en K h t (kW K) = 0)) ∧ ∀ i, i ≠ 21 → τ1 0 i = τ 0 i := by
    intro d
    induction d with
    | zero =>
      intro j n τ hj hn hR hO h10 h21
      obtain ⟨n, rfl⟩ : ∃ n', n = n' + 1 := ⟨n - 1, by omega⟩
      have ej : j = kW K := by omega
      subst ej
      have hb := en_bd (K := K) (h := h) (t := t) (j := kW K)
      have ce := J_eq (a := en K h t (kW K)) (b := 0) (by omega) (by omega) (by omega) (by omega)
      rw [lp_succ, fX6_tick_28, hR.2.1, if_pos ((J_le (by omega) (by omega) (by omega) (by omega)).mpr (by omega)), h21]
      simp only [fX6_tick_100, fX6_tick_101, zk0, zk1, sg]
      have fin : ∀ (x : Int32) (b : Bool), x = bz b → ∃ τ1, some (J (en K h t (kW K)), stp τ 0 (upd (τ 0) 21 x)) = some (J (en K h t (kW K)), τ1) ∧ MdOv τ1 K (ovf (endR K h t (kW K))) ∧ (∀ x, x ≠ 0 → x ≠ 8 → τ1 x = τ x) ∧ τ1 0 21 = bz b ∧ ∀ i, i ≠ 21 → τ1 0 i = τ 0 i := fun x b e =>
        ⟨_, rfl, fun w hw => by rw [stp_n (by omega)]; exact hO w hw, fun y hy _ => stp_n hy, by rw [stp_s, upd_s, e], fun i hi => by rw [stp_s, upd_n hi]⟩
      cases pl with
      | false =>
        rw [if_pos bz_f]
        exact fin _ _ rfl
      | true =>
        rw [if_neg (by decide), J0]
        by_cases c : en K h t (kW K) = 0
        · rw [if_pos (ce.mpr c), decide_eq_true c]
          exact fin _ _ rfl
        · rw [if_neg (fun q => c (ce.mp q)), decide_eq_false c]
          exact fin _ _ rfl
    | succ d ih =>
      intro j n τ hj hn hR hO h10 h21
      obtain ⟨n, rfl⟩ : ∃ n', n = n' + 1 := ⟨n - 1, by omega⟩
      have hjW : j < kW K := by omega
      have hk := hK.2.2.2 j hjW
      have es : en K h t (j + 1) = en K h t j + (if eb K h t j then 1 else 0) := rfl
      have eR := endR_step (K := K) (h := h) (t := t) (j := j)
      have ehj : endR K h t j j = h j := by unfold endR; rw [if_neg (by omega)]
      have eov : ovf (endR K h t j) j = (h j).isNone := by unfold ovf; rw [ehj]
      obtain ⟨-, -, m5, m6⟩ := hR.2.2.2 j hjW
      rw [lp_succ, fX6_tick_28, hR.2.1, if_neg (fun q => by have := (J_le (by omega) (by omega) (by omega) (by omega)).mp q; omega)]
      simp (disch := omega) only [ck_J, J_nn, hO j hjW, eov, m5, m6, h10]
      have no : eb K h t j = false → ∃ τ1, fX6_tick_78 N (lp (fX6_tick_28 N) (fun _ _ _ => none) n) (J (en K h t j)) (J j) τ = some (J (en K h t (kW K)), τ1) ∧ MdOv τ1 K (ovf (endR K h t (kW K))) ∧ (∀ x, x ≠ 0 → x ≠ 8 → τ1 x = τ x) ∧ τ1 0 21 = bz (pl && decide (en K h t (kW K) = 0)) ∧ ∀ i, i ≠ 21 → τ1 0 i = τ 0 i := by
        intro z
        rw [z, if_neg (by decide)] at es eR
        rw [Int.add_zero] at es
        have := ih (j + 1) n τ (by omega) (by omega) hR (by rw [eR]; exact hO) h10 h21
        rw [es] at this
        rw [fX6_tick_78, J1, J_add]
        exact this
      cases hj0 : h j with
      | none =>
        rw [if_neg (by decide)]
        exact no (by unfold eb; rw [hj0]; rfl)
      | some x =>
        have c4 : J (kd K j : Int) = (4 : Int32) ↔ ((kd K j : Nat) : Int) = 4 := J_eq (a := (kd K j : Int)) (b := 4) (by omega) (by omega) (by omega) (by omega)
        have clt := J_lt (a := t) (b := kg K j) (by omega) (by omega) (by omega) (by omega)
        rw [if_pos (by rfl)]
        by_cases c : kd K j = 4
        · rw [if_pos (c4.mpr (by omega))]
          by_cases c2 : t < kg K j
          · rw [if_pos (clt.mpr c2)]
            exact no (by unfold eb; rw [decide_eq_false (by omega)]; simp)
          · have z : eb K h t j = true := by unfold eb; rw [hj0, c, decide_eq_true (by omega : kg K j ≤ t)]; rfl
            rw [z, if_pos rfl] at es eR
            rw [if_neg (fun q => c2 (clt.mp q)), sg]
            generalize hτ2 : stp τ 8 (upd (τ 8) j (1 &&& 1)) = τ2
            have n2 : ∀ x, x ≠ 8 → τ2 x = τ x := fun x hx => by rw [← hτ2, stp_n hx]
            have hO2 : MdOv τ2 K (ovf (endR K h t (j + 1))) := by
              intro w hw
              rw [eR, ← hτ2, stp_s]
              by_cases e : w = j
              · subst e; rw [upd_s]; unfold ovf; rw [rset_self]; rfl
              · rw [upd_n e, hO w hw]; unfold ovf rset; rw [if_neg e]
            obtain ⟨τ3, q3, O3, k3, f3, g3⟩ := ih (j + 1) n τ2 (by omega) (by omega) (hR.keep (by rw [n2 0 (by omega)]) (by rw [n2 0 (by omega)]) (fun k _ b => n2 k (by omega))) hO2 (by rw [n2 0 (by omega)]; exact h10) (by rw [n2 0 (by omega)]; exact h21)
            rw [es] at q3
            rw [fX6_tick_78, J1, J_add, J_add]
            exact ⟨τ3, q3, O3, fun x h1 h2 => by rw [k3 x h1 h2, n2 x h2], f3, fun i hi => by rw [g3 i hi, n2 0 (by omega)]⟩
        · rw [if_neg (fun q => c (by have := c4.mp q; omega))]
          exact no (by unfold eb; simp [c])
  exact key (kW K) 0 N τ (by omega) (by omega) hR (by rw [endR_zero]; exact hO) h10 h21
theorem endR_none {K : Kt} {h : Ro} {t : Int} {j : Nat} (c : en K h t j = 0) : endR K h t j = h := by
  funext v
  unfold endR
  rw [if_neg]
  rintro ⟨c1, c2⟩
  have := sm_ge (n := j) (k := v) (f := fun v => if eb K h t v then 1 else 0) c1 (fun i _ => by cases eb K h t i <;> decide)
  unfold en at c
  rw [c] at this
  simp only [c2, if_true] at this
  omega
theorem HOk.sub {K : Kt} {h h1 : Ro} (hK : KOk K) (q : HOk K h) (hs : ∀ v x, h1 v = some x → h v = some x) (hn : ∀ w, w < kW K → h1 w = none → h w = none ∨ kd K w = 4) : HOk K h1 := by
  obtain ⟨q1, q2, q3, q4, q5⟩ := q
  refine ⟨fun w m e => q1 w m (hs w m e), twapart_sub q2 hs, fun v u x y hf e1 e2 => q3 v u x y hf (hs v x e1) (hs u y e2), fun m hm => ?_, fun w hw e => ?_⟩
  · have h1 := q4 m hm
    have h2 := uA_sub hK q1 hs m
    omega
  · rcases hn w hw e with z | z
    · exact q5 w hw z
    · exact z
theorem S_tick_ok {N : Nat} (hN : 20 ≤ N) : S_tick N Rel := by
  rintro k a0 σ τ hk ⟨K, h, t, pl, π, q⟩
  obtain ⟨q1, q2, q3, q4, q5, q6, q7, ⟨t1, t2, t3, t4, t5⟩, ⟨p1, p2, p3, p4, p5⟩, q10⟩ := id q
  obtain ⟨x, rfl, hx1, hx2⟩ := J_ex a0
  have c1 : J x < J 1 ↔ x < 1 := J_lt (a := x) (b := 1) hx1 hx2 (by omega) (by omega)
  have c2 : J x ≤ J 1000 ↔ x ≤ 1000 := J_le (a := x) (b := 1000) hx1 hx2 (by omega) (by omega)
  rw [fX5_tick, fX6_tick, J1, J1000, in_spec N ⟨hx1, hx2⟩ (by omega) (by omega), cali_s]
  rcases bz_split (lo := 1) (x := x) (hi := 1000) with e | ⟨e, e1, e2⟩
  · rw [e, if_pos (show bz false = (0 : Int32) from rfl)]
    simp only [Bool.and_eq_false_iff, decide_eq_false_iff_not] at e
    refine ⟨-2, σ, τ, ?_, rfl, K, h, t, pl, π, q.up⟩
    by_cases d1 : x < 1
    · rw [if_pos (show J x < J 1 from c1.mpr d1)]; rfl
    · rw [if_neg (fun z => d1 (c1.mp z)), if_neg (fun z => by have := c2.mp z; omega)]; rfl
  · rw [e, if_neg (show ¬ bz true = (0 : Int32) by decide), if_neg (fun z => by have := c1.mp z; omega), if_pos (show J x ≤ J 1000 from c2.mpr e2), sg, sg, t1, t2, J_add]
    generalize hσ1 : stp σ 0 (upd (σ 0) 8 (J (t + x))) = σ1
    generalize hτ1 : stp τ 0 (upd (τ 0) 10 (J (t + x))) = τ1
    have n1 : ∀ y, y ≠ 0 → σ1 y = σ y := fun y hy => by rw [← hσ1, stp_n hy]
    have m1 : ∀ i, i ≠ 8 → σ1 0 i = σ 0 i := fun i hi => by rw [← hσ1, stp_s, upd_n hi]
    have v1 : σ1 0 8 = J (t + x) := by rw [← hσ1, stp_s, upd_s]
    have n2 : ∀ y, y ≠ 0 → τ1 y = τ y := fun y hy => by rw [← hτ1, stp_n hy]
    have m2 : ∀ i, i ≠ 10 → τ1 0 i = τ 0 i := fun i hi => by rw [← hτ1, stp_s, upd_n hi]
    have v2 : τ1 0 10 = J (t + x) := by rw [← hτ1, stp_s, upd_s]
    obtain ⟨σ2, a1, a2, a3, a4, a5⟩ := ctick_spec (σ := σ1) (t := t + x) (pl := pl) (N := N) (by omega) q1 q2.1 q2.2.1 (by omega) (q3.keep (fun k a b => n1 k (by omega))) (q4.keep (fun k a b => n1 k (by omega))) v1 (by rw [m1 6 (by omega)]; exact p4)
    obtain ⟨τ2, b1, b2, b3, b4, b5⟩ := mtick_spec (τ := τ1) (t := t + x) (h := h) (pl := pl) (N := N) (by omega) q1 (by omega) (q5.keep (m2 0 (by omega)) (m2 3 (by omega)) (fun k a b => n2 k (by omega))) (fun w hw => by rw [n2 8 (by omega)]; exact q6 w hw) v2 (by rw [m2 21 (by omega)]; exact p5)
    refine ⟨_, σ2, τ2, a1, b1, K, endR K h (t + x) (kW K), t + x, pl && decide (en K h (t + x) (kW K) = 0), π, q1, ?_, ?_, a2, ?_, b2, ?_, ⟨?_, ?_, by omega, by omega, ?_⟩, ⟨?_, ?_, ?_, a4, b4⟩, ?_⟩
    · refine q2.sub q1 endR_sub (fun w hw z => ?_)
      unfold endR at z
      by_cases c : w < kW K ∧ eb K h (t + x) w = true
      · right
        have := c.2
        unfold eb at this
        simp only [Bool.and_eq_true, beq_iff_eq] at this
        exact this.2.1
      · rw [if_neg c] at z; exact Or.inl z
    · exact q3.keep (fun y a b => by rw [a3 y (by omega) (by omega), n1 y (by omega)])
    · exact q5.keep (by rw [b5 0 (by omega), m2 0 (by omega)]) (by rw [b5 3 (by omega), m2 3 (by omega)]) (fun y a b => by rw [b3 y (by omega) (by omega), n2 y (by omega)])
    · intro w m hw e; rw [b3 7 (by omega) (by omega), n2 7 (by omega)]; exact q7 w m hw (endR_sub w m e)
    · rw [a5 8 (by omega)]; exact v1
    · rw [b5 10 (by omega)]; exact v2
    · intro w hw h4
      unfold endR at hw
      by_cases c : w < kW K ∧ eb K h (t + x) w = true
      · rw [if_pos c] at hw; cases hw
      · rw [if_neg c] at hw
        obtain ⟨y, hy⟩ : ∃ y, h w = some y := by
          cases z : h w with
          | none => rw [z] at hw; cases hw
          | some y => exact ⟨y, rfl⟩
        have hwW := (q2.1 w y hy).1
        by_cases c3 : kg K w ≤ t + x
        · exact absurd ⟨hwW, by unfold eb; rw [hy, h4, decide_eq_true c3]; rfl⟩ c
        · omega
    · rw [a5 7 (by omega), m1 7 (by omega), b5 11 (by omega), m2 11 (by omega)]; exact p1
    · rw [a5 10 (by omega), m1 10 (by omega), b5 12 (by omega), m2 12 (by omega)]; exact p2
    · rw [a5 9 (by omega), m1 9 (by omega), b5 13 (by omega), m2 13 (by omega)]; exact p3
    · intro z
      simp only [Bool.and_eq_true, decide_eq_true_eq] at z
      rw [endR_none z.2]
      obtain ⟨z1, z2, z3⟩ := q10 z.1
      exact ⟨z1, fun w hw => by rw [a3 40 (by omega) (by omega), n1 40 (by omega)]; exact z2 w hw, fun w hw => by rw [b3 11 (by omega) (by omega), n2 11 (by omega)]; exact z3 w hw⟩
