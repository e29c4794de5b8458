/-! rows that are right so far -/
def FrOk (K : Kt) (ρ : Ro) : Prop := ∀ v u x y, frnd K v u = true → ρ v = some x → ρ u = some y → x = y
def PR (K : Kt) (h : Ro) (g : Gl) (o : Nat → Bool) (ρ : Ro) (w : Nat) : Prop := RoOk K ρ ∧ (∀ v, (ρ v).isSome = true ↔ v < w ∧ v < kW K ∧ o v = false) ∧ TwApart K ρ ∧ FrOk K ρ ∧ (∀ m, m < kM K → uA K ρ m ≤ kRA K m ∧ uB K ρ m ≤ kRB K m) ∧ (∀ v, (ρ v).isSome = true → kd K v = 3 → ρ v = h v) ∧ gOK K g ρ = true
theorem okT_parts {K : Kt} {h : Ro} {g : Gl} {ρ : Ro} {w m : Nat} : okT K h g ρ w m = true ↔ (kd K w = 3 → h w = some m) ∧ kA K w ≤ kRA K m - uA K ρ m ∧ kB K w ≤ kRB K m - uB K ρ m ∧ (kd K w = 1 → ht K ρ m (kg K w).toNat = false) ∧ (blk K w = w ∨ ρ (blk K w) = some m) ∧ gOK K g (rset ρ w (some m)) = true := by
  unfold okT tk
  simp only [Bool.and_eq_true, Bool.or_eq_true, Bool.not_eq_true', decide_eq_true_eq, beq_iff_eq, Bool.and_eq_false_iff, beq_eq_false_iff_ne, bne_eq_false_iff_eq]
  constructor
  · rintro ⟨⟨h1, ⟨⟨h2, h3⟩, h4⟩, h5⟩, h6⟩
    exact ⟨fun q => h1.resolve_left (fun z => z q), h2, h3, fun q => h4.resolve_left (fun z => z q), h5, h6⟩
  · rintro ⟨h1, h2, h3, h4, h5, h6⟩
    refine ⟨⟨?_, ⟨⟨h2, h3⟩, ?_⟩, h5⟩, h6⟩
    · by_cases c : kd K w = 3
      · exact Or.inr (h1 c)
      · exact Or.inl c
    · by_cases c : kd K w = 1
      · exact Or.inr (h4 c)
      · exact Or.inl c
theorem PR_set {K : Kt} {h : Ro} {g : Gl} {o : Nat → Bool} {ρ : Ro} {w m : Nat} (hK : KOk K) (ho : OvOk K o) (hp : PR K h g o ρ w) (hw : w < kW K) (how : o w = false) (hm : m < kM K) (hok : okT K h g ρ w m = true) : PR K h g o (rset ρ w (some m)) (w + 1) := by
  obtain ⟨p1, p2, p3, p4, p5, p6, p7⟩ := hp
  have hW := hK.2.1
  have hn : ρ w = none := by
    cases q : ρ w with
    | none => rfl
    | some x =>
      have := (p2 w).mp (by rw [q]; rfl)
      omega
  have hq := okT_parts.mp hok
  obtain ⟨k1, k2, k3, k4, k5, k6⟩ := hq
  have htk : tk K ρ w m (kA K w) (kB K w) (kd K w) (kg K w) (blk K w) = true := by
    have := hok
    unfold okT at this
    simp only [Bool.and_eq_true] at this
    exact this.1.2
  refine ⟨rset_ok p1 hw hm, fun v => ?_, tk_tw hK p1 p3 hw hn htk, ?_, fun x hx => ⟨?_, ?_⟩, ?_, k6⟩
  · by_cases e : v = w
    · subst e
      rw [rset_self]
      exact ⟨fun _ => ⟨by omega, hw, how⟩, fun _ => rfl⟩
    · simp only [rset, if_neg e]
      rw [p2 v]
      exact ⟨fun q => ⟨by omega, q.2⟩, fun q => ⟨by omega, q.2⟩⟩
  · -- friends
    have key : ∀ v x, frnd K w v = true → ρ v = some x → x = m := by
      intro v x hf hx
      have hv := (p2 v).mp (by rw [hx]; rfl)
      have hb := blk_first hf hv.1
      have hbw : blk K w ≠ w := by omega
      have hbm := k5.resolve_left hbw
      have hff := frnd_true.mp hf
      have hfb := frnd_true.mp (blk_frnd hbw)
      exact p4 v (blk K w) x m (frnd_true.mpr ⟨hff.2.1, hfb.2.1, hff.2.2.symm.trans hfb.2.2⟩) hx hbm
    intro v u x y hf h1 h2
    have hff := frnd_true.mp hf
    by_cases e1 : v = w
    · subst e1
      rw [rset_self] at h1
      have := Option.some.inj h1
      by_cases e2 : u = v
      · subst e2
        rw [rset_self] at h2
        have := Option.some.inj h2
        omega
      · simp only [rset, if_neg e2] at h2
        have := key u y hf h2
        omega
    · simp only [rset, if_neg e1] at h1
      by_cases e2 : u = w
      · subst e2
        rw [rset_self] at h2
        have := Option.some.inj h2
        have := key v x (frnd_true.mpr ⟨hff.2.1, hff.1, hff.2.2.symm⟩) h1
        omega
      · simp only [rset, if_neg e2] at h2
        exact p4 v u x y hf h1 h2
  · rw [uA_set (by omega) hn]
    have := (p5 x hx).1
    by_cases e : x = m
    · subst e; rw [if_pos rfl]; omega
    · rw [if_neg e]; omega
  · rw [uB_set (by omega) hn]
    have := (p5 x hx).2
    by_cases e : x = m
    · subst e; rw [if_pos rfl]; omega
    · rw [if_neg e]; omega
  · intro v hv h3
    by_cases e : v = w
    · subst e
      rw [rset_self]
      exact (k1 h3).symm
    · simp only [rset, if_neg e] at hv ⊢
      exact p6 v hv h3
theorem PR_skip {K : Kt} {h : Ro} {g : Gl} {o : Nat → Bool} {ρ : Ro} {w w1 : Nat} (hp : PR K h g o ρ w) (hl : w ≤ w1) (ho : ∀ v, w ≤ v → v < w1 → v < kW K → o v = true) : PR K h g o ρ w1 := by
  obtain ⟨p1, p2, p3⟩ := hp
  refine ⟨p1, fun v => ?_, p3⟩
  rw [p2 v]
  constructor
  · intro q; exact ⟨by omega, q.2⟩
  · intro q
    refine ⟨?_, q.2⟩
    by_cases c : v < w
    · exact c
    · have := ho v (by omega) q.1 q.2.1
      rw [q.2.2] at this
      cases this
theorem PR_emp {K : Kt} {h : Ro} {g : Gl} {o : Nat → Bool} (hK : KOk K) (hg : gOK K g emp = true) : PR K h g o emp 0 := by
  refine ⟨emp_ok, fun v => ⟨fun q => (by cases q), fun q => absurd q.1 (by omega)⟩, emp_tw, fun v u x y _ h1 => (by cases h1), fun m hm => ?_, fun v q => (by cases q), hg⟩
  rw [uA_emp, uB_emp]
  have := hK.2.2.1 m hm
  omega
/-- the place of works in the reference's row, those that are given -/
def RwM (τ : SS) (ρ : Ro) : Prop := ∀ v m, ρ v = some m → τ 9 v = J (m : Int)
def sel (K : Kt) (b : Bool) (w : Nat) : Int := if b then kB K w else kA K w
theorem onto_spec {τ : SS} {K : Kt} {o : Nat → Bool} {h : Ro} {g : Gl} {ρ : Ro} {w m N : Nat} (hN : 10 ≤ N) (hK : KOk K) (hR : MdRep τ K) (hO : MdOv τ K o) (hp : PR K h g o ρ w) (hM : RwM τ ρ) (hw : w < kW K) (hm : m < kM K) : fX6_onto N (J w) (J m) 0 τ = some (J (kA K w + uA K ρ m), τ) ∧ fX6_onto N (J w) (J m) 1 τ = some (J (kB K w + uB K ρ m), τ) := by
  have hW := hK.2.1
  have hM5 := hK.1
  obtain ⟨w3, w4, -, -⟩ := hR.2.2.2 w hw
  have key : ∀ (b : Bool) (d j n : Nat), j + d = w → d < n → lp (fX6_onto_24 N) (fun _ _ _ _ _ _ => none) n (J w) (J m) (bz b) (J ((sel K b w) + sm j (fun v => if ρ v = some m then (sel K b v) else 0))) (J j) τ = some (J ((sel K b w) + sm w (fun v => if ρ v = some m then (sel K b v) else 0)), τ) := by
    intro b d
    induction d with
    | zero =>
      intro j n hj hn
      obtain ⟨n, rfl⟩ : ∃ n', n = n' + 1 := ⟨n - 1, by omega⟩
      rw [lp_succ, fX6_onto_24, if_pos ((J_le (by omega) (by omega) (by omega) (by omega)).mpr (by omega))]
      have : j = w := by omega
      subst this
      rfl
    | succ d ih =>
      intro j n hj hn
      obtain ⟨n, rfl⟩ : ∃ n', n = n' + 1 := ⟨n - 1, by omega⟩
      obtain ⟨j3, j4, -, -⟩ := hR.2.2.2 j (by omega)
      have hnext := ih (j + 1) n (by omega) (by omega)
      rw [lp_succ, fX6_onto_24, if_neg (fun q => by have := (J_le (by omega) (by omega) (by omega) (by omega)).mp q; omega), ck_J (by omega) (by omega) (by omega), J_nn (by omega), hO j (by omega)]
      have es : ∀ f : Nat → Int, sm (j + 1) f = sm j f + f j := fun f => rfl
      rw [es] at hnext
      cases co : o j with
      | true =>
        have hn0 : ρ j = none := by
          cases q : ρ j with
          | none => rfl
          | some x =>
            have := ((hp.2.1 j).mp (by rw [q]; rfl)).2.2
            rw [co] at this
            cases this
        rw [hn0, if_neg (by simp : ¬ (none : Option Nat) = some m), Int.add_zero] at hnext
        rw [if_neg (by decide), fX6_onto_77, fX6_onto_78, J0, J1, J_add, J_add, Int.add_zero]
        exact hnext
      | false =>
        have hs : (ρ j).isSome = true := (hp.2.1 j).mpr ⟨by omega, by omega, co⟩
        obtain ⟨x, hx⟩ : ∃ x, ρ j = some x := by
          cases q : ρ j with
          | none => rw [q] at hs; cases hs
          | some x => exact ⟨x, rfl⟩
        have hxM := (hp.1 j x hx).2
        have e9 := hM j x hx
        rw [if_pos bz_f, ck_J (by omega) (by omega) (by omega), e9]
        have ee := J_eq (a := (x : Int)) (b := (m : Int)) (by omega) (by omega) (by omega) (by omega)
        by_cases c : x = m
        · rw [if_pos (ee.mpr (by omega))]
          subst c
          rw [if_pos hx] at hnext
          cases b with
          | false =>
            rw [if_pos bz_f, ck_J (by omega) (by omega) (by omega), fX6_onto_78, j3, J1, J_add, J_add, Int.add_assoc]
            exact hnext
          | true =>
            rw [if_neg (by decide), ck_J (by omega) (by omega) (by omega), fX6_onto_78, j4, J1, J_add, J_add, Int.add_assoc]
            exact hnext
        · rw [if_neg (fun q => c (by have := ee.mp q; omega)), fX6_onto_77, fX6_onto_78, J0, J1, J_add, J_add, Int.add_zero]
          rw [if_neg (show ¬ ρ j = some m by rw [hx]; exact fun q => c (Option.some.inj q)), Int.add_zero] at hnext
          exact hnext
  have hz : ∀ i, w ≤ i → i < 8 → ρ i = none := by
    intro i h1 h2
    cases q : ρ i with
    | none => rfl
    | some x =>
      have := ((hp.2.1 i).mp (by rw [q]; rfl)).1
      omega
  constructor
  · have h1 := key false w 0 N (by omega) (by omega)
    have e : uA K ρ m = sm w (fun v => if ρ v = some m then kA K v else 0) := sm_ext (by omega) (fun i h1 h2 => by rw [hz i h1 h2]; simp)
    rw [e, fX6_onto, if_pos rfl, ck_J (by omega) (by omega) (by omega), J_nn (by omega), fX6_onto_19, w3]
    have e0 : sm 0 (fun v => if ρ v = some m then (sel K false v) else 0) = 0 := rfl
    rw [e0, Int.add_zero] at h1
    exact h1
  · have h1 := key true w 0 N (by omega) (by omega)
    have e : uB K ρ m = sm w (fun v => if ρ v = some m then kB K v else 0) := sm_ext (by omega) (fun i h1 h2 => by rw [hz i h1 h2]; simp)
    rw [e, fX6_onto, if_neg (by decide), ck_J (by omega) (by omega) (by omega), J_nn (by omega), fX6_onto_19, w4]
    have e0 : sm 0 (fun v => if ρ v = some m then (sel K true v) else 0) = 0 := rfl
    rw [e0, Int.add_zero] at h1
    exact h1
