def GlM (τ : SS) (g : Gl) : Prop := τ 0 17 = J (g.1 : Int) ∧ (g.1 = 0 ∨ g.1 = 1 → τ 0 18 = J (g.2.1 : Int)) ∧ (g.1 = 1 ∨ g.1 = 2 → τ 0 19 = J g.2.2.1) ∧ (g.1 = 1 → τ 0 20 = J g.2.2.2)
theorem lastP_ok {K : Kt} {h : Ro} {g : Gl} {o : Nat → Bool} {ρ : Ro} {w m : Nat} (hK : KOk K) (ho : OvOk K o) (hp : PR K h g o ρ w) (hw : w < kW K) : la (lastP K ρ w m) w 0 = true ↔ (kd K w = 1 → ht K ρ m (kg K w).toNat = false) ∧ (blk K w = w ∨ ρ (blk K w) = some m) := by
  have hW := hK.2.1
  have hbl := blk_le K w
  rw [la_true]
  have hl : ∀ v, lastP K ρ w m v = true ↔ ∀ x, ρ v = some x → (twin K w v = true → x ≠ m) ∧ (frnd K w v = true → x = m) := by
    intro v
    unfold lastP
    cases hv : ρ v with
    | none => simp
    | some x =>
      simp only [Option.isSome_some, Bool.true_and, Bool.not_eq_true', Bool.or_eq_false_iff, Bool.and_eq_false_iff, beq_eq_false_iff_ne, bne_eq_false_iff_eq, Option.some.injEq, ne_eq]
      constructor
      · rintro ⟨h1, h2⟩ y rfl
        refine ⟨fun q => ?_, fun q => ?_⟩
        · rcases h1 with h1 | h1
          · rw [q] at h1; cases h1
          · exact h1
        · rcases h2 with h2 | h2
          · rw [q] at h2; cases h2
          · exact h2
      · intro h1
        have h2 := h1 x rfl
        constructor
        · cases ct : twin K w v with
          | false => exact Or.inl rfl
          | true => exact Or.inr (h2.1 ct)
        · cases cf : frnd K w v with
          | false => exact Or.inl rfl
          | true => exact Or.inr (h2.2 cf)
  constructor
  · intro h1
    constructor
    · intro hk
      rw [ht_and hK hw hk]
      intro v hv hm hkv hg
      have hvw := ((hp.2.1 v).mp (by rw [hm]; rfl)).1
      exact ((hl v).mp (h1 v (by omega) (by omega)) m hm).1 (twin_true.mpr ⟨hk, hkv, hg.symm⟩) rfl
    · by_cases c : blk K w = w
      · exact Or.inl c
      · right
        have hf := blk_frnd c
        have hff := frnd_true.mp hf
        have hob : o (blk K w) = false := by
          cases q : o (blk K w) with
          | false => rfl
          | true =>
            have := ho (blk K w) (by omega) q
            omega
        have hsb := (hp.2.1 (blk K w)).mpr ⟨by omega, by omega, hob⟩
        obtain ⟨x, hx⟩ : ∃ x, ρ (blk K w) = some x := by
          cases q : ρ (blk K w) with
          | none => rw [q] at hsb; cases hsb
          | some x => exact ⟨x, rfl⟩
        have := ((hl (blk K w)).mp (h1 _ (by omega) (by omega)) x hx).2 hf
        rw [hx, this]
  · rintro ⟨h1, h2⟩ v hv0 hv
    rw [hl v]
    intro x hx
    have hv8 : v < 8 := by omega
    constructor
    · intro htw hxm
      have htt := twin_true.mp htw
      subst hxm
      exact (ht_and hK hw htt.1).mp (h1 htt.1) v hv8 hx htt.2.1 htt.2.2.symm
    · intro hf
      have hb := blk_first hf (by omega)
      have hbw : blk K w ≠ w := by omega
      have hbm := h2.resolve_left hbw
      have hff := frnd_true.mp hf
      have hfb := frnd_true.mp (blk_frnd hbw)
      exact hp.2.2.2.1 v (blk K w) x m (frnd_true.mpr ⟨hff.2.1, hfb.2.1, hff.2.2.symm.trans hfb.2.2⟩) hx hbm
def lessOf (g : Gl) (m : Nat) (b : Bool) : Int := if g.1 = 1 ∧ m = g.2.1 then (if b then g.2.2.2 else g.2.2.1) else 0
theorem isTry91_spec {τ : SS} {K : Kt} {o : Nat → Bool} {h : Ro} {g : Gl} {ρ : Ro} {w m N : Nat} (hN : 10 ≤ N) (hK : KOk K) (hR : MdRep τ K) (hO : MdOv τ K o) (ho : OvOk K o) (hp : PR K h g o ρ w) (hM : RwM τ ρ) (hw : w < kW K) (hlw : (h w).isSome = true) (hm : m < kM K) (hA : MdAt τ K 7 h) (hhM : RoOk K h) (hG : GlM τ g) (hg : GlOk K g) : fX6_isTry_91 N (J w) (J m) (J (lessOf g m false)) (J (lessOf g m true)) τ = some (bz (okT K h g ρ w m), τ) := by
  have hW := hK.2.1
  have hM5 := hK.1
  have hrm := hK.2.2.1 m hm
  have hkw := hK.2.2.2 w hw
  have hA8 := uA_bd hK hp.1 m
  have hB8 := uB_bd hK hp.1 m
  obtain ⟨g0, gm, ga, gb⟩ := g
  obtain ⟨q1, q2, q3, q4⟩ := hg
  obtain ⟨e1, e2, e3, e4⟩ := hG
  dsimp only at q1 q2 q3 q4 e1 e2 e3 e4
  have hno : ∀ v, w ≤ v → ρ v = none := fun v hv => by
    cases q : ρ v with
    | none => rfl
    | some x =>
      have := ((hp.2.1 v).mp (by rw [q]; rfl)).1
      omega
  have hnw := hno w (Nat.le_refl _)
  have hl0 : 0 ≤ lessOf (g0, gm, ga, gb) m false ∧ lessOf (g0, gm, ga, gb) m false ≤ 1000 ∧ 0 ≤ lessOf (g0, gm, ga, gb) m true ∧ lessOf (g0, gm, ga, gb) m true ≤ 1000 := by
    unfold lessOf
    by_cases c : g0 = 1 ∧ m = gm
    · have := q3 c.1
      simp only [if_pos c]
      exact this
    · simp only [if_neg c]
      omega
  generalize hla : lessOf (g0, gm, ga, gb) m false = lA at hl0
  generalize hlb : lessOf (g0, gm, ga, gb) m true = lB at hl0
  obtain ⟨o1, o2⟩ := onto_spec hN hK hR hO hp hM hw hm
  obtain ⟨r1, r2⟩ := hR.2.2.1 m hm
  obtain ⟨-, -, w5, -⟩ := hR.2.2.2 w hw
  -- what the goal asks of the row with it
  have hgoal : gOK K (g0, gm, ga, gb) (rset ρ w (some m)) = true ↔ (g0 = 0 → m ≠ gm) ∧ (g0 = 1 → m = gm → kA K w + uA K ρ m ≤ kRA K m - ga ∧ kB K w + uB K ρ m ≤ kRB K m - gb) ∧ (g0 = 2 → oc (rset ρ w (some m)) ≤ ga) := by
    have hgp := hp.2.2.2.2.2.2
    have hc : g0 = 0 ∨ g0 = 1 ∨ g0 = 2 ∨ g0 = 3 := by omega
    rcases hc with rfl | rfl | rfl | rfl
    · show (cn (rset ρ w (some m)) gm == 0) = true ↔ _
      have hg0 : (cn ρ gm == 0) = true := hgp
      simp only [beq_iff_eq] at hg0 ⊢
      rw [cn_set (by omega) hnw, hg0]
      by_cases c : gm = m
      · subst c; simp
      · have : ¬ m = gm := fun q => c q.symm
        simp [c, this]
    · show (decide (ga ≤ kRA K gm - uA K (rset ρ w (some m)) gm) && decide (gb ≤ kRB K gm - uB K (rset ρ w (some m)) gm)) = true ↔ _
      have hg0 : (decide (ga ≤ kRA K gm - uA K ρ gm) && decide (gb ≤ kRB K gm - uB K ρ gm)) = true := hgp
      simp only [Bool.and_eq_true, decide_eq_true_eq] at hg0 ⊢
      rw [uA_set (by omega) hnw, uB_set (by omega) hnw]
      by_cases c : gm = m
      · subst c
        simp only [if_true]
        constructor
        · intro q; exact ⟨fun z => by omega, fun _ _ => by omega, fun z => by omega⟩
        · intro q; have := q.2.1 (by simp) (by simp); omega
      · rw [if_neg c, if_neg c, Int.add_zero, Int.add_zero]
        exact ⟨fun _ => ⟨fun z => by omega, fun _ z => absurd z.symm c, fun z => by omega⟩, fun _ => hg0⟩
    · show decide (oc (rset ρ w (some m)) ≤ ga) = true ↔ _
      simp
    · exact ⟨fun _ => ⟨fun z => by omega, fun z => by omega, fun z => by omega⟩, fun _ => rfl⟩
  have hless : lA = (if g0 = 1 ∧ m = gm then ga else 0) ∧ lB = (if g0 = 1 ∧ m = gm then gb else 0) := by
    rw [← hla, ← hlb]
    unfold lessOf
    exact ⟨rfl, rfl⟩
  have hok := okT_parts (K := K) (h := h) (g := (g0, gm, ga, gb)) (ρ := ρ) (w := w) (m := m)
  have hfalse : ∀ {b : Bool}, (¬ okT K h (g0, gm, ga, gb) ρ w m = true) → okT K h (g0, gm, ga, gb) ρ w m = false := fun q => by simpa using q
  rw [fX6_isTry_91, show (0 : Int32) = J 0 from rfl, show fX6_onto N (J w) (J m) (J 0) τ = fX6_onto N (J w) (J m) 0 τ from rfl, o1, cali_s, ck_J (by omega) (by omega) (by omega), J_nn (by omega), r1, J_sub]
  have c1 := J_lt (a := kRA K m - lA) (b := kA K w + uA K ρ m) (by omega) (by omega) (by omega) (by omega)
  by_cases d1 : kRA K m - lA < kA K w + uA K ρ m
  · rw [if_pos (c1.mpr d1), fX6_isTry_130, hfalse (b := true) (fun q => ?_)]
    · rfl
    · have z := hok.mp q
      have zg := hgoal.mp z.2.2.2.2.2
      rw [hless.1] at d1
      by_cases cc : g0 = 1 ∧ m = gm
      · rw [if_pos cc] at d1; have := zg.2.1 cc.1 cc.2; omega
      · rw [if_neg cc] at d1; omega
  rw [if_neg (fun q => d1 (c1.mp q)), o2, cali_s, ck_J (by omega) (by omega) (by omega), r2, J_sub]
  have c2 := J_le (a := kB K w + uB K ρ m) (b := kRB K m - lB) (by omega) (by omega) (by omega) (by omega)
  by_cases d2 : kB K w + uB K ρ m ≤ kRB K m - lB
  rotate_left
  · rw [if_neg (fun q => d2 (c2.mp q)), fX6_isTry_130, hfalse (b := true) (fun q => ?_)]
    · rfl
    · have z := hok.mp q
      have zg := hgoal.mp z.2.2.2.2.2
      rw [hless.2] at d2
      by_cases cc : g0 = 1 ∧ m = gm
      · rw [if_pos cc] at d2; have := zg.2.1 cc.1 cc.2; omega
      · rw [if_neg cc] at d2; omega
  rw [if_pos (c2.mpr d2), ck_J (by omega) (by omega) (by omega), J_nn (by omega), w5, J3]
  -- the end: only the friends and twins are left
  have h190 : ((kd K w = 3 → h w = some m) ∧ (g0 = 0 → m ≠ gm) ∧ (g0 = 2 → oc (rset ρ w (some m)) ≤ ga)) → fX6_isTry_190 N (J w) (J m) τ = some (bz (okT K h (g0, gm, ga, gb) ρ w m), τ) := by
    rintro ⟨z1, z2, z3⟩
    rw [isTryL_spec hN hK hR hO hp hM hw hm]
    have : la (lastP K ρ w m) w 0 = okT K h (g0, gm, ga, gb) ρ w m := by
      apply Bool.eq_iff_iff.mpr
      rw [lastP_ok hK ho hp hw, hok, hgoal]
      constructor
      · rintro ⟨y1, y2⟩
        rw [hless.1] at d1
        rw [hless.2] at d2
        refine ⟨z1, ?_, ?_, y1, y2, z2, fun cc1 cc2 => ?_, z3⟩
        · by_cases cc : g0 = 1 ∧ m = gm
          · rw [if_pos cc] at d1; have := q3 cc.1; omega
          · rw [if_neg cc] at d1; omega
        · by_cases cc : g0 = 1 ∧ m = gm
          · rw [if_pos cc] at d2; have := q3 cc.1; omega
          · rw [if_neg cc] at d2; omega
        · rw [if_pos ⟨cc1, cc2⟩] at d1 d2
          omega
      · rintro ⟨-, -, -, y1, y2, -⟩
        exact ⟨y1, y2⟩
    rw [this]
  have h188 : ¬ ((kd K w = 3 → h w = some m) ∧ (g0 = 0 → m ≠ gm) ∧ (g0 = 2 → oc (rset ρ w (some m)) ≤ ga)) → fX6_isTry_188 N τ = some (bz (okT K h (g0, gm, ga, gb) ρ w m), τ) := by
    intro z
    rw [fX6_isTry_188, hfalse (b := true) (fun q => ?_)]
    · rfl
    · have y := hok.mp q
      have yg := hgoal.mp y.2.2.2.2.2
      exact z ⟨y.1, yg.1, yg.2.2⟩
  have h167 : (kd K w = 3 → h w = some m) → (g0 = 0 → m ≠ gm) → fX6_isTry_167 N (J w) (J m) τ = some (bz (okT K h (g0, gm, ga, gb) ρ w m), τ) := by
    intro z1 z2
    rw [fX6_isTry_167, e1, J2]
    have cg := J_eq (a := (g0 : Int)) (b := 2) (by omega) (by omega) (by omega) (by omega)
    by_cases c : g0 = 2
    · have hoc := oc_bd (rset ρ w (some m))
      have hq := q4 c
      rw [if_pos (cg.mpr (by omega)), used_spec hN hK hO hp hM hw hm, cali_s, e3 (Or.inr c)]
      have cl := J_le (a := oc (rset ρ w (some m))) (b := ga) (by omega) (by omega) (by omega) (by omega)
      by_cases d : oc (rset ρ w (some m)) ≤ ga
      · rw [if_pos (cl.mpr d)]
        exact h190 ⟨z1, z2, fun _ => d⟩
      · rw [if_neg (fun q => d (cl.mp q))]
        exact h188 (fun q => d (q.2.2 c))
    · rw [if_neg (fun q => c (by have := cg.mp q; omega))]
      exact h190 ⟨z1, z2, fun q => absurd q c⟩
  have h152 : (kd K w = 3 → h w = some m) → fX6_isTry_152 N (J w) (J m) τ = some (bz (okT K h (g0, gm, ga, gb) ρ w m), τ) := by
    intro z1
    rw [fX6_isTry_152, e1, J0]
    have cg := J_eq (a := (g0 : Int)) (b := 0) (by omega) (by omega) (by omega) (by omega)
    by_cases c : g0 = 0
    · have hq := q2 (Or.inl c)
      rw [if_pos (cg.mpr (by omega)), e2 (Or.inl c)]
      have cm := J_eq (a := (m : Int)) (b := (gm : Int)) (by omega) (by omega) (by omega) (by omega)
      by_cases d : m = gm
      · rw [if_pos (cm.mpr (by omega))]
        exact h188 (fun q => q.2.1 c d)
      · rw [if_neg (fun q => d (by have := cm.mp q; omega))]
        exact h167 z1 (fun _ => d)
    · rw [if_neg (fun q => c (by have := cg.mp q; omega))]
      exact h167 z1 (fun q => absurd q c)
  have ck3 := J_eq (a := (kd K w : Int)) (b := 3) (by omega) (by omega) (by omega) (by omega)
  by_cases c3 : kd K w = 3
  · obtain ⟨x, hx⟩ : ∃ x, h w = some x := by
      cases q : h w with
      | none => rw [q] at hlw; cases hlw
      | some x => exact ⟨x, rfl⟩
    have hxM := (hhM w x hx).2
    rw [if_pos (ck3.mpr (by omega)), ck_J (by omega) (by omega) (by omega), hA w x hw hx]
    have cm := J_eq (a := (x : Int)) (b := (m : Int)) (by omega) (by omega) (by omega) (by omega)
    by_cases d : x = m
    · rw [if_pos (cm.mpr (by omega))]
      exact h152 (fun _ => by rw [hx, d])
    · rw [if_neg (fun q => d (by have := cm.mp q; omega))]
      exact h188 (fun q => d (by have := q.1 c3; rw [hx] at this; exact Option.some.inj this))
  · rw [if_neg (fun q => c3 (by have := ck3.mp q; omega))]
    exact h152 (fun q => absurd q c3)
