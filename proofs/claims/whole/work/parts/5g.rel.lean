theorem bestOf_mem {wt : Ro → Int} {l : List Ro} {b : Ro} (h : bestOf wt l = some b) : b ∈ l := by
  have key : ∀ (l : List Ro) (o : Option Ro), l.foldl (pick wt) o = some b → b ∈ l ∨ o = some b := by
    intro l
    induction l with
    | nil => intro o h; exact Or.inr h
    | cons x l ih =>
      intro o h
      rcases ih _ h with h1 | h1
      · exact Or.inl (List.mem_cons_of_mem _ h1)
      · cases o with
        | none => cases h1; exact Or.inl List.mem_cons_self
        | some y =>
          have h2 : (if wt x < wt y then some x else some y) = some b := h1
          by_cases c : wt x < wt y
          · rw [if_pos c] at h2; cases h2; exact Or.inl List.mem_cons_self
          · rw [if_neg c] at h2; exact Or.inr h2
  rcases key l none h with h1 | h1
  · exact h1
  · cases h1
theorem dfs_leaf {K : Kt} {o : Nat → Bool} {h : Ro} {g : Gl} (hK : KOk K) (ho : OvOk K o) : ∀ (e f : Nat), f + e = kW K → ∀ (ρ : Ro) (a : Ac), PR K h g o ρ f → (∀ b ∈ a.2.2, PR K h g o b (kW K)) → ∀ b ∈ (dfs K h g (lvl (lvM o) e f) ρ a).2.2, PR K h g o b (kW K) := by
  intro e
  induction e using Nat.strongRecOn with
  | ind e ih =>
    intro f hf ρ a hp ha
    have hl := lvl_next (lvM o) e f
    have hle := lfr_le (lvM o) e f
    have hbef := lfr_before (lvM o) e f
    by_cases c : lfr (lvM o) e f < f + e
    · have hhit := lfr_hit (lvM o) e f c
      rw [if_pos c] at hl
      generalize lfr (lvM o) e f = w at hl hle hbef c hhit
      rw [hl]
      have how : o w = false := by unfold lvM at hhit; simpa using hhit
      have hp1 := PR_skip (w1 := w) hp (by omega) (fun v h1 h2 _ => by
        have := hbef v h1 h2
        unfold lvM at this
        simpa using this)
      have inner : ∀ (d j : Nat) (a : Ac), j + d = kM K → (∀ b ∈ a.2.2, PR K h g o b (kW K)) → ∀ b ∈ (fm (stepM (fun m => okT K h g ρ w m) (fun m a => dfs K h g (lvl (lvM o) (f + e - (w + 1)) (w + 1)) (rset ρ w (some m)) a)) d j a).2.2, PR K h g o b (kW K) := by
        intro d
        induction d with
        | zero => intro j a _ ha; exact ha
        | succ d ihd =>
          intro j a hj ha
          refine ihd (j + 1) _ (by omega) ?_
          cases hsp : a.2.1 with
          | true =>
            have : stepM (fun m => okT K h g ρ w m) (fun m a => dfs K h g (lvl (lvM o) (f + e - (w + 1)) (w + 1)) (rset ρ w (some m)) a) a j = a := by unfold stepM; rw [if_pos hsp]
            rw [this]
            exact ha
          | false =>
            cases hok : okT K h g ρ w j with
            | false => rw [stepM_no hsp hok]; exact ha
            | true =>
              by_cases c2 : a.1 = 200000
              · rw [stepM_sp hsp hok c2]; exact ha
              · rw [stepM_go (f := fun m a => dfs K h g (lvl (lvM o) (f + e - (w + 1)) (w + 1)) (rset ρ w (some m)) a) hsp hok c2]
                exact ih (f + e - (w + 1)) (by omega) (w + 1) (by omega) (rset ρ w (some j)) _ (PR_set hK ho hp1 (by omega) how (by omega) hok) ha
      exact inner (kM K) 0 a (by omega) ha
    · rw [if_neg c] at hl
      rw [hl]
      intro b hb
      rcases List.mem_append.mp hb with h1 | h1
      · exact ha b h1
      · rw [List.mem_singleton.mp h1]
        exact PR_skip hp (by omega) (fun v h1 h2 h3 => by
          have := hbef v h1 (by omega)
          unfold lvM at this
          simpa using this)
theorem srchM_leaf {K : Kt} {o : Nat → Bool} {h : Ro} {g : Gl} (hK : KOk K) (ho : OvOk K o) : ∀ b ∈ (srchM K o h g).2.2, PR K h g o b (kW K) := by
  unfold srchM
  by_cases c : gOK K g emp = true
  · rw [if_pos c]
    exact dfs_leaf hK ho (kW K) 0 (by omega) emp (0, false, []) (PR_emp hK c) (fun b hb => by cases hb)
  · rw [if_neg c]
    intro b hb
    cases hb
/-! THE RELATION of the class's state and the reference's -/
def ovf (h : Ro) (w : Nat) : Bool := (h w).isNone
def HOk (K : Kt) (h : Ro) : Prop := RoOk K h ∧ TwApart K h ∧ FrOk K h ∧ (∀ m, m < kM K → uA K h m ≤ kRA K m ∧ uB K h m ≤ kRB K m) ∧ (∀ w, w < kW K → h w = none → kd K w = 4)
def PlanOk (K : Kt) (h π : Ro) : Prop := RoOk K π ∧ TwApart K π ∧ FrOk K π ∧ (∀ m, m < kM K → uA K π m ≤ kRA K m ∧ uB K π m ≤ kRB K m) ∧ (∀ v, (π v).isSome = true ↔ (h v).isSome = true) ∧ (∀ v, (π v).isSome = true → kd K v = 3 → π v = h v)
def MdPl (τ : SS) (K : Kt) (π : Ro) : Prop := ∀ w, w < kW K → τ 11 w = rv (π w)
/-- the price: the same, and one that is allowed -/
def prc (x y : Int32) : Prop := x = y ∧ ∃ p : Int, x = J p ∧ 0 ≤ p ∧ p ≤ 1000
def RelX (k : Nat) (σ τ : SS) (K : Kt) (h : Ro) (t : Int) (pl : Bool) (π : Ro) : Prop := KOk K ∧ HOk K h ∧ StRep σ K ∧ RowRep σ 13 K h ∧ MdRep τ K ∧ MdOv τ K (ovf h) ∧ MdAt τ K 7 h ∧ (σ 0 8 = J t ∧ τ 0 10 = J t ∧ 0 ≤ t ∧ t ≤ 1000 * (k : Int) ∧ ∀ w, (h w).isSome = true → kd K w = 4 → t < kg K w) ∧ (prc (σ 0 7) (τ 0 11) ∧ σ 0 10 = τ 0 12 ∧ σ 0 9 = τ 0 13 ∧ σ 0 6 = bz pl ∧ τ 0 21 = bz pl) ∧ (pl = true → PlanOk K h π ∧ RowAt σ 40 π ∧ MdPl τ K π)
def Rel (k : Nat) (σ τ : SS) : Prop := ∃ K h t pl π, RelX k σ τ K h t pl π
theorem RelX.keep {k k1 : Nat} {σ τ σ1 τ1 : SS} {K : Kt} {h : Ro} {t : Int} {pl : Bool} {π : Ro} (q : RelX k σ τ K h t pl π) (hk : k ≤ k1) (s1 : ∀ x, 1 ≤ x → x ≤ 18 → σ1 x = σ x) (s2 : pl = true → σ1 40 = σ 40) (s3 : ∀ i, i ≠ 9 → i ≠ 7 → σ1 0 i = σ 0 i) (r1 : ∀ x, 1 ≤ x → x ≤ 8 → τ1 x = τ x) (r2 : pl = true → τ1 11 = τ 11) (r3 : ∀ i, i = 0 ∨ i = 3 ∨ i = 10 ∨ i = 12 ∨ i = 21 → τ1 0 i = τ 0 i) (hp : prc (σ1 0 7) (τ1 0 11)) (hn : σ1 0 9 = τ1 0 13) : RelX k1 σ1 τ1 K h t pl π := by
  obtain ⟨q1, q2, q3, q4, q5, q6, q7, ⟨t1, t2, t3, t4, t5⟩, ⟨p1, p2, p3, p4, p5⟩, q10⟩ := q
  refine ⟨q1, q2, q3.keep (fun x a b => s1 x a (by omega)), q4.keep (fun x a b => s1 x (by omega) (by omega)), q5.keep (r3 0 (by omega)) (r3 3 (by omega)) (fun x a b => r1 x a (by omega)), fun w hw => ?_, fun w m hw hm => ?_, ⟨?_, ?_, t3, by omega, t5⟩, ⟨hp, ?_, hn, ?_, ?_⟩, fun z => ?_⟩
  · rw [r1 8 (by omega) (by omega)]; exact q6 w hw
  · rw [r1 7 (by omega) (by omega)]; exact q7 w m hw hm
  · rw [s3 8 (by omega) (by omega)]; exact t1
  · rw [r3 10 (by omega)]; exact t2
  · rw [s3 10 (by omega) (by omega), r3 12 (by omega)]; exact p2
  · rw [s3 6 (by omega) (by omega)]; exact p4
  · rw [r3 21 (by omega)]; exact p5
  · obtain ⟨z1, z2, z3⟩ := q10 z
    refine ⟨z1, fun w hw => ?_, fun w hw => ?_⟩
    · rw [s2 z]; exact z2 w hw
    · rw [r2 z]; exact z3 w hw
theorem RelX.up {k : Nat} {σ τ : SS} {K : Kt} {h : Ro} {t : Int} {pl : Bool} {π : Ro} (q : RelX k σ τ K h t pl π) : RelX (k + 1) σ τ K h t pl π := q.keep (by omega) (fun _ _ _ => rfl) (fun _ => rfl) (fun _ _ _ => rfl) (fun _ _ _ => rfl) (fun _ => rfl) (fun _ _ => rfl) q.2.2.2.2.2.2.2.2.1.1 q.2.2.2.2.2.2.2.2.1.2.2.1
theorem rel_up : ∀ k σ τ, k < 512 → Rel k σ τ → Rel (k + 1) σ τ := fun _ _ _ _ ⟨K, h, t, pl, π, q⟩ => ⟨K, h, t, pl, π, q.up⟩
theorem HOk.ov {K : Kt} {h : Ro} (q : HOk K h) : OvOk K (ovf h) := fun w hw hz => q.2.2.2.2 w hw (by
  unfold ovf at hz
  cases e : h w with
  | none => rfl
  | some x => rw [e] at hz; cases hz)
theorem ovf_live {K : Kt} {h : Ro} : ∀ v, v < kW K → ovf h v = false → (h v).isSome = true := fun v _ q => by
  unfold ovf at q
  cases e : h v with
  | none => rw [e] at q; cases q
  | some x => rfl
theorem plan_of_PR {K : Kt} {h π : Ro} {g : Gl} (hh : RoOk K h) (q : PR K h g (ovf h) π (kW K)) : PlanOk K h π := by
  obtain ⟨p1, p2, p3, p4, p5, p6, -⟩ := q
  refine ⟨p1, p3, p4, p5, fun v => ?_, p6⟩
  rw [p2 v]
  unfold ovf
  cases e : h v with
  | none => simp
  | some x =>
    have := (hh v x e).1
    simp [this]
theorem lvC_ovf {K : Kt} {h : Ro} {t : Int} (ht : ∀ w, (h w).isSome = true → kd K w = 4 → t < kg K w) : ∀ v, v < kW K → lvC K h t v = !(ovf h v) := by
  intro v _
  unfold lvC ovf
  cases e : h v with
  | none => rfl
  | some x =>
    by_cases c : kd K v = 4
    · have := ht v (by rw [e]; rfl) c
      rw [decide_eq_false (by omega)]
      simp
    · simp [c]
theorem S_price_ok (N : Nat) : S_price N Rel := by
  rintro k a0 σ τ hk ⟨K, h, t, pl, π, q⟩
  have hp := q.2.2.2.2.2.2.2.2.1
  have hsplit : a0 < 0 ∨ 1000 < a0 ∨ (¬ a0 < 0 ∧ ¬ 1000 < a0) := by
    by_cases c1 : a0 < 0
    · exact Or.inl c1
    · by_cases c2 : 1000 < a0
      · exact Or.inr (Or.inl c2)
      · exact Or.inr (Or.inr ⟨c1, c2⟩)
  rw [fX5_price, fX5_isAmount, fX6_price, fX6_in, fX6_in_14, fX6_in_15, fX5_isAmount_15, fX5_isAmount_16, fX6_in_15, fX5_isAmount_16]
  rcases hsplit with c | c | ⟨c1, c2⟩
  · rw [if_pos c, if_pos c]
    exact ⟨-2, σ, τ, rfl, rfl, K, h, t, pl, π, q.up⟩
  · by_cases c1 : a0 < 0
    · rw [if_pos c1, if_pos c1]
      exact ⟨-2, σ, τ, rfl, rfl, K, h, t, pl, π, q.up⟩
    · rw [if_neg c1, if_neg c1, if_pos c, if_pos c]
      exact ⟨-2, σ, τ, rfl, rfl, K, h, t, pl, π, q.up⟩
  · rw [if_neg c1, if_neg c1, if_neg c2, if_neg c2]
    simp only [zk1, cali_s, if_neg (by decide : ¬ (1 : Int32) = 0), sg]
    refine ⟨τ 0 11, stp σ 0 (upd (σ 0) 7 a0), stp τ 0 (upd (τ 0) 11 a0), ?_, rfl, K, h, t, pl, π, q.keep (by omega) (fun x h1 h2 => stp_n (by omega)) (fun _ => stp_n (by omega)) (fun i h1 h2 => by rw [stp_s, upd_n h2]) (fun x h1 h2 => stp_n (by omega)) (fun _ => stp_n (by omega)) (fun i hi => by rw [stp_s, upd_n (by omega)]) ?_ ?_⟩
    · rw [← hp.1.1]
    · rw [stp_s, upd_s, stp_s, upd_s]
      rw [Int32.lt_iff_toInt_lt] at c1 c2
      have e0 : (0 : Int32).toInt = 0 := by decide
      have e1 : (1000 : Int32).toInt = 1000 := by decide
      exact ⟨rfl, a0.toInt, (J_of a0).symm, by omega, by omega⟩
    · rw [stp_s, upd_n (by omega), stp_s, upd_n (by omega)]; exact hp.2.2.1
theorem S_tries_ok (N : Nat) : S_tries N Rel := by
  rintro k σ τ hk ⟨K, h, t, pl, π, q⟩
  have hp := q.2.2.2.2.2.2.2.2.1
  rw [fX5_tries, fX6_tries]
  exact ⟨τ 0 13, σ, τ, by rw [hp.2.2.1], rfl, K, h, t, pl, π, q.up⟩
theorem S_fewest_ok {N : Nat} (hN : 1000000 ≤ N) : S_fewest N Rel := by
  rintro k σ τ hk ⟨K, h, t, pl, π, q⟩
  obtain ⟨q1, q2, q3, q4, q5, q6, q7, ⟨t1, t2, t3, t4, t5⟩, ⟨p1, p2, p3, p4, p5⟩, q10⟩ := id q
  have hg : GlOk K (3, 0, 0, 0) := ⟨Nat.le_refl _, fun z => absurd z (by decide), fun z => absurd z (by decide), fun z => absurd z (by decide)⟩
  obtain ⟨σ1, a1, a2, a3, a4, a5, a6⟩ := aim_spec (σ := σ) N 3 (-1) 0 0
  obtain ⟨σ2, b1, b2, b3⟩ := run_spec (σ := σ1) (g := (3, 0, 0, 0)) (t := t) (h := h) (N := N) (by omega) q1 (q3.keep (fun x _ _ => a6 x (by omega))) (q4.keep (fun x _ _ => a6 x (by omega))) q2.1 hg (by omega) a2 (fun z => absurd z (by decide)) (fun z => absurd z (by decide)) (fun z => absurd z (by decide))
  have hG : GlM (stp τ 0 (upd (τ 0) 17 3)) (3, 0, 0, 0) := ⟨by rw [stp_s, upd_s]; rfl, fun z => absurd z (by decide), fun z => absurd z (by decide), fun z => absurd z (by decide)⟩
  obtain ⟨τ1, c1, c2, c3⟩ := search_spec (τ := stp τ 0 (upd (τ 0) 17 3)) (g := (3, 0, 0, 0)) (h := h) hN q1 q2.ov q2.1 ovf_live hg (q5.keep (by rw [stp_s, upd_n (by omega)]) (by rw [stp_s, upd_n (by omega)]) (fun x _ _ => stp_n (by omega))) (fun w hw => by rw [stp_n (by omega)]; exact q6 w hw) (fun w m hw hm => by rw [stp_n (by omega)]; exact q7 w m hw hm) hG
  rw [srch_eq (o := ovf h) (lvC_ovf t5)] at b2
  have hk0 : Keep 19 26 σ σ2 := (a6.mono (by omega) (by omega)).trans b3
  generalize srchM K (ovf h) h (3, 0, 0, 0) = A at b2 c1 c2
  have e8 : σ1 0 8 = J t := by rw [a6 0 (by omega)]; exact t1
  rw [fX5_fewest, a1, calv_s, e8, b1, calv_s, sg, fX6_fewest, sg, c1, cali_s]
  have hwt : wtOf K h (3, 0, 0, 0) = oc := by unfold wtOf; rw [if_pos rfl]
  have erel : ∀ σ3, (∀ x, x ≠ 0 → σ3 x = σ2 x) → (∀ i, i ≠ 9 → σ3 0 i = σ2 0 i) → σ3 0 9 = σ2 19 4 → RelX (k + 1) σ3 τ1 K h t pl π := by
    intro σ3 h1 h2 h3
    refine q.keep (by omega) (fun x x1 x2 => by rw [h1 x (by omega), hk0 x (by omega)]) (fun _ => by rw [h1 40 (by omega), hk0 40 (by omega)]) (fun i i1 i2 => by rw [h2 i i1, hk0 0 (by omega)]) (fun x x1 x2 => by rw [c3.1 x (by omega) (by omega) (by omega), stp_n (by omega)]) (fun _ => by rw [c3.1 11 (by omega) (by omega) (by omega), stp_n (by omega)]) (fun i hi => by rw [c3.2 i (by omega) (by omega), stp_s, upd_n (by omega)]) ?_ ?_
    · rw [h2 7 (by omega), hk0 0 (by omega), c3.2 11 (by omega) (by omega), stp_s, upd_n (by omega)]; exact p1
    · rw [h3, b2.1, c2.1]
  generalize hσ3 : stp σ2 0 (upd (σ2 0) 9 (σ2 19 4)) = σ3
  have z1 : ∀ x, x ≠ 0 → σ3 x = σ2 x := fun x hx => by rw [← hσ3, stp_n hx]
  have z2 : ∀ i, i ≠ 9 → σ3 0 i = σ2 0 i := fun i hi => by rw [← hσ3, stp_s, upd_n hi]
  have z3 : σ3 0 9 = σ2 19 4 := by rw [← hσ3, stp_s, upd_s]
  have r := erel σ3 z1 z2 z3
  rw [z1 19 (by omega), b2.2.1, fX5_fewest_55, fX5_fewest_55]
  cases hsp : A.2.1 with
  | true =>
    rw [if_neg (by decide), if_pos (by rfl)]
    exact ⟨-5, σ3, τ1, rfl, rfl, K, h, t, pl, π, r⟩
  | false =>
    rw [if_pos bz_f, if_neg (by decide)]
    refine ⟨wv oc (bestOf oc A.2.2), σ3, τ1, ?_, ?_, K, h, t, pl, π, r⟩
    · rw [b2.2.2.2.2.1]
    · have := c2.2.2.1
      rw [hwt] at this
      rw [fX6_fewest_21, this]
