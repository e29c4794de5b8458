def b5 (a b c d e : Bool) : Int32 := (if a then 1 else 0) ||| (if b then 2 else 0) ||| (if c then 4 else 0) ||| (if d then 8 else 0) ||| (if e then 16 else 0)
def bp (p : Nat → Bool) : Int32 := b5 (p 0) (p 1) (p 2) (p 3) (p 4)
theorem bp_ext {p q : Nat → Bool} (h : ∀ k, k < 5 → p k = q k) : bp p = bp q := by
  unfold bp
  rw [h 0 (by omega), h 1 (by omega), h 2 (by omega), h 3 (by omega), h 4 (by omega)]
theorem bp_or (p : Nat → Bool) {x : Nat} (hx : x < 5) : bp p ||| ((1 : Int32) <<< (J (x : Int) &&& (31 : Int32))) = bp (fun k => p k || k == x) := by
  have : x = 0 ∨ x = 1 ∨ x = 2 ∨ x = 3 ∨ x = 4 := by omega
  unfold bp
  rcases this with rfl | rfl | rfl | rfl | rfl
  · show b5 (p 0) (p 1) (p 2) (p 3) (p 4) ||| ((1 : Int32) <<< (J 0 &&& (31 : Int32))) = b5 (p 0 || true) (p 1 || false) (p 2 || false) (p 3 || false) (p 4 || false)
    generalize p 0 = a, p 1 = b, p 2 = c, p 3 = d, p 4 = e
    revert a b c d e; decide
  · show b5 (p 0) (p 1) (p 2) (p 3) (p 4) ||| ((1 : Int32) <<< (J 1 &&& (31 : Int32))) = b5 (p 0 || false) (p 1 || true) (p 2 || false) (p 3 || false) (p 4 || false)
    generalize p 0 = a, p 1 = b, p 2 = c, p 3 = d, p 4 = e
    revert a b c d e; decide
  · show b5 (p 0) (p 1) (p 2) (p 3) (p 4) ||| ((1 : Int32) <<< (J 2 &&& (31 : Int32))) = b5 (p 0 || false) (p 1 || false) (p 2 || true) (p 3 || false) (p 4 || false)
    generalize p 0 = a, p 1 = b, p 2 = c, p 3 = d, p 4 = e
    revert a b c d e; decide
  · show b5 (p 0) (p 1) (p 2) (p 3) (p 4) ||| ((1 : Int32) <<< (J 3 &&& (31 : Int32))) = b5 (p 0 || false) (p 1 || false) (p 2 || false) (p 3 || true) (p 4 || false)
    generalize p 0 = a, p 1 = b, p 2 = c, p 3 = d, p 4 = e
    revert a b c d e; decide
  · show b5 (p 0) (p 1) (p 2) (p 3) (p 4) ||| ((1 : Int32) <<< (J 4 &&& (31 : Int32))) = b5 (p 0 || false) (p 1 || false) (p 2 || false) (p 3 || false) (p 4 || true)
    generalize p 0 = a, p 1 = b, p 2 = c, p 3 = d, p 4 = e
    revert a b c d e; decide
theorem bp_z (p : Nat → Bool) : bp p ||| 0 = bp p := by
  unfold bp
  generalize p 0 = a, p 1 = b, p 2 = c, p 3 = d, p 4 = e
  revert a b c d e; decide
theorem bp_one {x : Nat} (hx : x < 5) : (1 : Int32) <<< (J (x : Int) &&& (31 : Int32)) = bp (fun k => k == x) := by
  have := bp_or (fun _ => false) hx
  simp only [Bool.false_or] at this
  rw [← this]
  have e : bp (fun _ => false) = 0 := by decide
  rw [e]
  have : x = 0 ∨ x = 1 ∨ x = 2 ∨ x = 3 ∨ x = 4 := by omega
  rcases this with rfl | rfl | rfl | rfl | rfl <;> decide
theorem bp_bit (p : Nat → Bool) {x : Nat} (hx : x < 5) : ((bp p) >>> (J (x : Int) &&& (31 : Int32))) &&& 1 = J (if p x then 1 else 0) := by
  have : x = 0 ∨ x = 1 ∨ x = 2 ∨ x = 3 ∨ x = 4 := by omega
  unfold bp
  rcases this with rfl | rfl | rfl | rfl | rfl
  all_goals
    generalize p 0 = a, p 1 = b, p 2 = c, p 3 = d, p 4 = e
    revert a b c d e; decide
theorem pop5_u {p : Nat → Bool} {τ : SS} (N : Nat) : ∀ (d j n : Nat), j + d = 5 → d < n → lp (fX6_used_51 N) (fun _ _ _ _ => none) n (bp p) (J (sm j (fun k => if p k then 1 else 0))) (J j) τ = some (J (sm 5 (fun k => if p k then 1 else 0)), τ) := by
  intro d
  induction d with
  | zero =>
    intro j n hj hn
    obtain ⟨n, rfl⟩ : ∃ n', n = n' + 1 := ⟨n - 1, by omega⟩
    rw [lp_succ, fX6_used_51, J5, if_pos ((J_le (by omega) (by omega) (by omega) (by omega)).mpr (by omega))]
    have : j = 5 := by omega
    subst this
    rfl
  | succ d ih =>
    intro j n hj hn
    obtain ⟨n, rfl⟩ : ∃ n', n = n' + 1 := ⟨n - 1, by omega⟩
    rw [lp_succ, fX6_used_51, J5, if_neg (fun q => by have := (J_le (by omega) (by omega) (by omega) (by omega)).mp q; omega), bp_bit p (by omega), J1, J_add, J_add]
    exact ih (j + 1) n (by omega) (by omega)
theorem pop5_w {p : Nat → Bool} {τ : SS} (N : Nat) : ∀ (d j n : Nat), j + d = 5 → d < n → lp (fX6_weigh_54 N) (fun _ _ _ _ => none) n (bp p) (J (sm j (fun k => if p k then 1 else 0))) (J j) τ = some (J (sm 5 (fun k => if p k then 1 else 0)), τ) := by
  intro d
  induction d with
  | zero =>
    intro j n hj hn
    obtain ⟨n, rfl⟩ : ∃ n', n = n' + 1 := ⟨n - 1, by omega⟩
    rw [lp_succ, fX6_weigh_54, J5, if_pos ((J_le (by omega) (by omega) (by omega) (by omega)).mpr (by omega))]
    have : j = 5 := by omega
    subst this
    rfl
  | succ d ih =>
    intro j n hj hn
    obtain ⟨n, rfl⟩ : ∃ n', n = n' + 1 := ⟨n - 1, by omega⟩
    rw [lp_succ, fX6_weigh_54, J5, if_neg (fun q => by have := (J_le (by omega) (by omega) (by omega) (by omega)).mp q; omega), bp_bit p (by omega), J1, J_add, J_add]
    exact ih (j + 1) n (by omega) (by omega)
def hs (ρ : Ro) (k j : Nat) : Bool := (List.range j).any (fun v => ρ v == some k)
theorem hs_succ {ρ : Ro} {k j : Nat} : hs ρ k (j + 1) = (hs ρ k j || ρ j == some k) := by
  simp [hs, List.range_succ, List.any_append]
theorem hs_true {ρ : Ro} {k j : Nat} : hs ρ k j = true ↔ ∃ v, v < j ∧ ρ v = some k := by
  simp [hs]
theorem cn_zero {ρ : Ro} {m : Nat} : cn ρ m = 0 ↔ ∀ v, v < 8 → ρ v ≠ some m := by
  constructor
  · intro h v hv q
    have := sm_ge (n := 8) (k := v) (f := fun w => if ρ w = some m then 1 else 0) hv (fun i _ => by by_cases e : ρ i = some m <;> simp [e])
    unfold cn at h
    rw [h] at this
    simp [q] at this
  · intro h
    exact sm_zero (fun i hi => by simp [h i hi])
theorem oc_bits {ρ : Ro} {p : Nat → Bool} (h : ∀ k, k < 5 → (p k = true ↔ ∃ v, v < 8 ∧ ρ v = some k)) : sm 5 (fun k => if p k then 1 else 0) = oc ρ := by
  unfold oc
  refine sm_congr (fun k hk => ?_)
  cases hp : p k with
  | true =>
    obtain ⟨v, h1, h2⟩ := (h k hk).mp hp
    rw [if_pos rfl, if_neg (fun q => cn_zero.mp q v h1 h2)]
  | false =>
    rw [if_neg (by decide), if_pos (cn_zero.mpr (fun v hv q => by
      have := (h k hk).mpr ⟨v, hv, q⟩
      rw [hp] at this
      cases this))]
theorem used_spec {τ : SS} {K : Kt} {o : Nat → Bool} {h : Ro} {g : Gl} {ρ : Ro} {w m N : Nat} (hN : 10 ≤ N) (hK : KOk K) (hO : MdOv τ K o) (hp : PR K h g o ρ w) (hM : RwM τ ρ) (hw : w < kW K) (hm : m < kM K) : fX6_used N (J w) (J m) τ = some (J (oc (rset ρ w (some m))), τ) := by
  have hW := hK.2.1
  have hM5 := hK.1
  have key : ∀ (d j n : Nat), j + d = w → d < n → lp (fX6_used_7 N) (fun _ _ _ _ => none) n (J w) (bp (fun k => k == m || hs ρ k j)) (J j) τ = some (J (oc (rset ρ w (some m))), τ) := by
    intro d
    induction d with
    | zero =>
      intro j n hj hn
      obtain ⟨n, rfl⟩ : ∃ n', n = n' + 1 := ⟨n - 1, by omega⟩
      rw [lp_succ, fX6_used_7, if_pos ((J_le (by omega) (by omega) (by omega) (by omega)).mpr (by omega))]
      have : j = w := by omega
      subst this
      have e := pop5_u (p := fun k => k == m || hs ρ k j) (τ := τ) N 5 0 N (by omega) (by omega)
      rw [oc_bits (ρ := rset ρ j (some m))] at e
      · exact e
      · intro k hk
        simp only [Bool.or_eq_true, beq_iff_eq, hs_true]
        constructor
        · rintro (rfl | ⟨v, h1, h2⟩)
          · exact ⟨j, by omega, rset_self⟩
          · exact ⟨v, by omega, by simp only [rset, if_neg (by omega : ¬ v = j)]; exact h2⟩
        · rintro ⟨v, h1, h2⟩
          by_cases e2 : v = j
          · subst e2; rw [rset_self] at h2; exact Or.inl (Option.some.inj h2).symm
          · simp only [rset, if_neg e2] at h2
            exact Or.inr ⟨v, ((hp.2.1 v).mp (by rw [h2]; rfl)).1, h2⟩
    | succ d ih =>
      intro j n hj hn
      obtain ⟨n, rfl⟩ : ∃ n', n = n' + 1 := ⟨n - 1, by omega⟩
      rw [lp_succ, fX6_used_7, if_neg (fun q => by have := (J_le (by omega) (by omega) (by omega) (by omega)).mp q; omega), ck_J (by omega) (by omega) (by omega), J_nn (by omega), hO j (by omega)]
      have hnext := ih (j + 1) n (by omega) (by omega)
      cases co : o j with
      | true =>
        have hn0 : ρ j = none := by
          cases q : ρ j with
          | none => rfl
          | some x =>
            have := ((hp.2.1 j).mp (by rw [q]; rfl)).2.2
            rw [co] at this
            cases this
        rw [if_neg (by decide), fX6_used_37, bp_z, J1, J_add]
        rw [show (fun k => k == m || hs ρ k (j + 1)) = (fun k => k == m || hs ρ k j) from by funext k; rw [hs_succ, hn0]; simp] at hnext
        exact hnext
      | false =>
        have hs' : (ρ j).isSome = true := (hp.2.1 j).mpr ⟨by omega, by omega, co⟩
        obtain ⟨x, hx⟩ : ∃ x, ρ j = some x := by
          cases q : ρ j with
          | none => rw [q] at hs'; cases hs'
          | some x => exact ⟨x, rfl⟩
        have hxM := (hp.1 j x hx).2
        rw [if_pos bz_f, ck_J (by omega) (by omega) (by omega), fX6_used_37, hM j x hx, bp_or _ (by omega), J1, J_add]
        rw [show (fun k => k == m || hs ρ k (j + 1)) = (fun k => (k == m || hs ρ k j) || k == x) from by
          funext k
          rw [hs_succ, hx]
          have : (some x == some k) = (k == x) := by
            apply Bool.eq_iff_iff.mpr
            simp only [beq_iff_eq, Option.some.injEq]
            exact eq_comm
          rw [this, Bool.or_assoc]] at hnext
        exact hnext
  have := key w 0 N (by omega) (by omega)
  rw [fX6_used, bp_one (by omega)]
  rw [show (fun k => k == m || hs ρ k 0) = (fun k => k == m) from by funext k; simp [hs]] at this
  exact this
def la (p : Nat → Bool) : Nat → Nat → Bool
  | 0, _ => true
  | d + 1, j => p j && la p d (j + 1)
theorem la_true {p : Nat → Bool} : ∀ (d j : Nat), la p d j = true ↔ ∀ v, j ≤ v → v < j + d → p v = true := by
  intro d
  induction d with
  | zero => intro j; exact ⟨fun _ v h1 h2 => absurd h2 (by omega), fun _ => rfl⟩
  | succ d ih =>
    intro j
    show (p j && la p d (j + 1)) = true ↔ _
    rw [Bool.and_eq_true, ih (j + 1)]
    constructor
    · rintro ⟨h1, h2⟩ v h3 h4
      by_cases e : v = j
      · subst e; exact h1
      · exact h2 v (by omega) (by omega)
    · intro h1
      exact ⟨h1 j (Nat.le_refl _) (by omega), fun v h2 h3 => h1 v (by omega) (by omega)⟩
def lastP (K : Kt) (ρ : Ro) (w m : Nat) (v : Nat) : Bool := !((ρ v).isSome && ((twin K w v && ρ v == some m) || (frnd K w v && ρ v != some m)))
theorem isTryL_spec {τ : SS} {K : Kt} {o : Nat → Bool} {h : Ro} {g : Gl} {ρ : Ro} {w m N : Nat} (hN : 10 ≤ N) (hK : KOk K) (hR : MdRep τ K) (hO : MdOv τ K o) (hp : PR K h g o ρ w) (hM : RwM τ ρ) (hw : w < kW K) (hm : m < kM K) : fX6_isTry_190 N (J w) (J m) τ = some (bz (la (lastP K ρ w m) w 0), τ) := by
  have hW := hK.2.1
  have hM5 := hK.1
  have key : ∀ (d j n : Nat), j + d = w → d < n → lp (fX6_isTry_193 N) (fun _ _ _ _ => none) n (J w) (J m) (J j) τ = some (bz (la (lastP K ρ w m) d j), τ) := by
    intro d
    induction d with
    | zero =>
      intro j n hj hn
      obtain ⟨n, rfl⟩ : ∃ n', n = n' + 1 := ⟨n - 1, by omega⟩
      rw [lp_succ, fX6_isTry_193, if_pos ((J_le (by omega) (by omega) (by omega) (by omega)).mpr (by omega))]
      rfl
    | succ d ih =>
      intro j n hj hn
      obtain ⟨n, rfl⟩ : ∃ n', n = n' + 1 := ⟨n - 1, by omega⟩
      rw [lp_succ, fX6_isTry_193, if_neg (fun q => by have := (J_le (by omega) (by omega) (by omega) (by omega)).mp q; omega), ck_J (by omega) (by omega) (by omega), J_nn (by omega), hO j (by omega)]
      have hnext := ih (j + 1) n (by omega) (by omega)
      show _ = some (bz (lastP K ρ w m j && la (lastP K ρ w m) d (j + 1)), τ)
      have go : lastP K ρ w m j = true → fX6_isTry_255 N (lp (fX6_isTry_193 N) (fun _ _ _ _ => none) n) (J w) (J m) (J j) τ = some (bz (lastP K ρ w m j && la (lastP K ρ w m) d (j + 1)), τ) := by
        intro q
        rw [fX6_isTry_255, J1, J_add, q, Bool.true_and]
        exact hnext
      cases co : o j with
      | true =>
        have hn0 : ρ j = none := by
          cases q : ρ j with
          | none => rfl
          | some x =>
            have := ((hp.2.1 j).mp (by rw [q]; rfl)).2.2
            rw [co] at this
            cases this
        rw [if_neg (by decide)]
        exact go (by simp [lastP, hn0])
      | false =>
        have hs' : (ρ j).isSome = true := (hp.2.1 j).mpr ⟨by omega, by omega, co⟩
        obtain ⟨x, hx⟩ : ∃ x, ρ j = some x := by
          cases q : ρ j with
          | none => rw [q] at hs'; cases hs'
          | some x => exact ⟨x, rfl⟩
        have hxM := (hp.1 j x hx).2
        have e9 := hM j x hx
        have ee := J_eq (a := (x : Int)) (b := (m : Int)) (by omega) (by omega) (by omega) (by omega)
        have el1 : lik K w j 1 = twin K w j := rfl
        have el2 : lik K w j 2 = frnd K w j := rfl
        rw [if_pos bz_f, show (1 : Int32) = J ((1 : Nat) : Int) from rfl, isLike_spec N hK hR hw (by omega) (by omega), cali_s, el1]
        have g231 : (twin K w j = false ∨ x ≠ m) → fX6_isTry_231 N (lp (fX6_isTry_193 N) (fun _ _ _ _ => none) n) (J w) (J m) (J j) τ = some (bz (lastP K ρ w m j && la (lastP K ρ w m) d (j + 1)), τ) := by
          intro hcond
          rw [fX6_isTry_231, show (2 : Int32) = J ((2 : Nat) : Int) from rfl, isLike_spec N hK hR hw (by omega) (by omega), cali_s, el2]
          have ht1 : (twin K w j && ρ j == some m) = false := by
            rcases hcond with q | q
            · rw [q]; rfl
            · rw [hx]; simp [q]
          cases cf : frnd K w j with
          | false =>
            rw [if_pos bz_f]
            exact go (by unfold lastP; rw [ht1, cf]; simp)
          | true =>
            rw [if_neg (by decide), ck_J (by omega) (by omega) (by omega), J_nn (by omega), e9]
            by_cases c : x = m
            · rw [if_pos (ee.mpr (by omega))]
              exact go (by unfold lastP; rw [ht1, hx, c]; simp)
            · rw [if_neg (fun q => c (by have := ee.mp q; omega)), fX6_isTry_253]
              have : lastP K ρ w m j = false := by unfold lastP; rw [ht1, hx, cf]; simp [c]
              rw [this]; rfl
        cases ct : twin K w j with
        | false =>
          rw [if_pos bz_f]
          exact g231 (Or.inl ct)
        | true =>
          rw [if_neg (by decide), ck_J (by omega) (by omega) (by omega), e9]
          by_cases c : x = m
          · rw [if_pos (ee.mpr (by omega)), fX6_isTry_253]
            have : lastP K ρ w m j = false := by unfold lastP; rw [hx, ct, c]; simp
            rw [this]; rfl
          · rw [if_neg (fun q => c (by have := ee.mp q; omega))]
            exact g231 (Or.inr c)
  rw [fX6_isTry_190]
  exact key w 0 N (by omega) (by omega)
