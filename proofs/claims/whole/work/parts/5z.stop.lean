/-! byStop: a block stands nowhere while the others move, and comes last -/
def sN (K : Kt) (h π : Ro) (b : Nat) : Nat := (gb (mvc K h π (some b)) (kW K)).1
def sB (K : Kt) (h π : Ro) (b : Nat) : Nat → Nat := (gb (mvc K h π (some b)) (kW K)).2
def sps (K : Kt) (h π : Ro) (b o : Nat) : Ro := mvR K (dnb (sN K h π b) (sB K h π b) o) (shR K h b none (kW K)) π
def okS (K : Kt) (h π : Ro) (b : Nat) : Nat → Nat → Bool := okJ K (sB K h π b) (fun k => tgt π (sB K h π b k)) (fun _ => none) (sps K h π b)
def hasS (K : Kt) (h π : Ro) (b : Nat) : Bool := canX (sN K h π b) (okS K h π b) 0
theorem mvc_true {K : Kt} {h π : Ro} {b w : Nat} : mvc K h π (some b) w = true ↔ b ≠ w ∧ mvd K h π w = true := by
  unfold mvc
  rw [Bool.and_eq_true]
  simp
theorem shRn_sub {K : Kt} {h : Ro} {b : Nat} : ∀ v x, shR K h b none (kW K) v = some x → h v = some x := by
  intro v x e
  unfold shR at e
  by_cases c : v < kW K ∧ v < kW K ∧ blk K v = b
  · rw [if_pos c] at e; cases e
  · rw [if_neg c] at e; exact e
theorem sJS {K : Kt} {h π : Ro} {b : Nat} (hK : KOk K) (hH : HOk K h) (hP : PlanOk K h π) : JS K (sN K h π b) (sB K h π b) (fun k => tgt π (sB K h π b k)) (fun _ => none) (fun _ => True) (sps K h π b) := std_js (c := mvc K h π (some b)) (ρ := shR K h b none (kW K)) hK hH hP (fun w e => (mvc_true.mp e).2) (shR_okN hH.1) (fun b1 x e hx w hw hbw => by
  have hne := (mvc_true.mp e).1
  unfold shR
  rw [if_neg (fun q => hne (by rw [← q.2.2, hbw]))]
  exact uni_row hH.2.2.1 hH.fr_live hx w hw hbw)
theorem hasStop_spec {k : Nat} {σ τ : SS} {K : Kt} {h : Ro} {t : Int} {π : Ro} {N b : Nat} (hN : 600 ≤ N) (q : RelX k σ τ K h t true π) (hb : b < kW K) : ∃ σ1, fX0_hasStop N 40 (J (b : Int)) σ = some (bz (hasS K h π b), σ1) ∧ KeepO σ σ1 := by
  obtain ⟨q1, q2, q3, q4, q5, q6, q7, -, -, q10⟩ := q
  obtain ⟨z1, z2, z3⟩ := q10 rfl
  have hW := q1.2.1
  obtain ⟨σ1, a1, a2, a3, a4⟩ := gather_spec (q := 40) (out := some b) (N := N) (by omega) (by omega) q1 q3 q4 q2.1 z2 z1.1 (fun w q => by cases q; omega)
  have a1' : fX0_gather N 40 (J (b : Int)) σ = some σ1 := a1
  have hS1 : StRep σ1 K := q3.keep (fun x a b => a4 x (by omega))
  obtain ⟨σ2, b1, b2, b3⟩ := removeBlock_spec (N := N) (by omega) (by omega : 13 ≤ 33) q1 hS1 a2 q2.1 q2.2.1 hb
  have hk2 : KeepO σ σ2 := a4.trans (fun k a => b3 k (by omega))
  have hJ2 : JRep σ2 (sN K h π b) (sB K h π b) (fun k => tgt π (sB K h π b k)) (fun _ => none) := by
    have a3' : JRep σ1 (sN K h π b) (sB K h π b) (fun k => tgt π (sB K h π b k)) (fun _ => none) := a3
    unfold JRep at a3' ⊢
    rw [b3 27 (by omega), b3 29 (by omega), b3 30 (by omega), b3 31 (by omega)]
    exact a3'
  have e0 : sps K h π b 0 = shR K h b none (kW K) := by unfold sps; rw [mvR_zero]
  obtain ⟨σ3, c1, c2, c3⟩ := seekAnew_spec (σ := σ2) (N := N) hN q1 (sJS q1 q2 z1) True.intro (q3.keep (fun x a b => hk2 x (by omega))) (by rw [e0]; exact b2) (by rw [e0]; exact twapart_sub q2.2.1 shRn_sub) hJ2
  have c1' : fX0_seekAnew N σ2 = some (bz (hasS K h π b), σ3) := c1
  rw [fX0_hasStop, a1', calv_s, b1, calv_s, c1', cali_s]
  refine ⟨σ3, ?_, hk2.trans c2⟩
  cases hasS K h π b <;> rfl
section STOPEQ
variable {K : Kt} {h π : Ro} {b kb : Nat}
/-- the same blocks are over -/
def SR (K : Kt) (h π : Ro) (b kb os om : Nat) : Prop := os < 2 ^ (sN K h π b) ∧ om < 2 ^ (mN K h π) ∧ (∀ x, dnb (sN K h π b) (sB K h π b) os x = dnb (mN K h π) (mB K h π) om x) ∧ Nat.testBit om kb = false ∧ rm (mN K h π) om = rm (sN K h π b) os + 1
theorem sB_ok {k : Nat} (hk : k < sN K h π b) : sB K h π b k < kW K ∧ b ≠ sB K h π b k ∧ mvd K h π (sB K h π b k) = true := by
  have := (gb_spec (mvc K h π (some b)) (kW K)).2.1 k hk
  exact ⟨this.1, mvc_true.mp this.2⟩
theorem sps_eq {os om : Nat} (hH : HOk K h) (hP : PlanOk K h π) (hkb : kb < mN K h π) (eb : mB K h π kb = b) (r : SR K h π b kb os om) : posM K h π (some kb) om = sps K h π b os := by
  obtain ⟨r1, r2, r3, r4, r5⟩ := r
  have esb : sbO (mB K h π) (some kb) om = some b := by
    show (if Nat.testBit om kb = true then none else some (mB K h π kb)) = some b
    rw [r4, if_neg (by decide), eb]
  funext v
  unfold posM sps plR mvR
  rw [esb, r3]
  cases z : h v with
  | none =>
    rw [if_pos rfl]
    have hs := hP.2.2.2.2.1 v
    rw [z] at hs
    have hπ : π v = none := by
      cases y : π v with
      | none => rfl
      | some y1 => rw [y] at hs; simp at hs
    by_cases c : dnb (mN K h π) (mB K h π) om (blk K v) = true
    · rw [if_pos c, hπ]
    · rw [if_neg c]
      unfold shR
      rw [z]
      by_cases c2 : v < kW K ∧ v < kW K ∧ blk K v = b
      · rw [if_pos c2]
      · rw [if_neg c2]
  | some x =>
    have hvW := (hH.1 v x z).1
    rw [if_neg (show ¬ (some x : Option Nat) = none from nofun)]
    by_cases cb : blk K v = b
    · have hdb : dnb (mN K h π) (mB K h π) om b = false := by rw [← eb, dnb_own hkb]; exact r4
      rw [cb, hdb, if_pos (show (some b : Option Nat) = some b from rfl), if_neg (show ¬ false = true by decide)]
      unfold shR
      rw [if_pos ⟨hvW, hvW, cb⟩]
    · rw [if_neg (fun q => cb (Option.some.inj q).symm)]
      by_cases c : dnb (mN K h π) (mB K h π) om (blk K v) = true
      · rw [if_pos c, if_pos c]
      · rw [if_neg c, if_neg c]
        unfold shR
        rw [if_neg (fun q => cb q.2.2), z]
theorem dnb_sown {k o : Nat} (hk : k < sN K h π b) : dnb (sN K h π b) (sB K h π b) o (sB K h π b k) = Nat.testBit o k := by
  apply Bool.eq_iff_iff.mpr
  rw [dnb_true]
  constructor
  · rintro ⟨j, h1, h2, h3⟩
    have := gb_inj (c := mvc K h π (some b)) (j := kW K) h1 hk h3
    rw [← this]; exact h2
  · intro e
    exact ⟨k, hk, e, rfl⟩
theorem SR.step {os om k k1 : Nat} (r : SR K h π b kb os om) (hk : k < sN K h π b) (hk1 : k1 < mN K h π) (e : sB K h π b k = mB K h π k1) (hne : k1 ≠ kb) (hb : Nat.testBit os k = false) (hb1 : Nat.testBit om k1 = false) : SR K h π b kb (os ||| 2 ^ k) (om ||| 2 ^ k1) := by
  obtain ⟨r1, r2, r3, r4, r5⟩ := r
  refine ⟨or_lt r1 hk, or_lt r2 hk1, fun x => by rw [dnb_set hk, dnb_set hk1, r3, e], by rw [tb_set, r4, decide_eq_false hne]; rfl, ?_⟩
  have h1 := rm_set hk hb
  have h2 := rm_set hk1 hb1
  omega
theorem okM_other {om k1 : Nat} (hne : k1 ≠ kb) : okM K h π (some kb) om k1 = (!(Nat.testBit om k1) && tkB K (posM K h π (some kb) om) (mB K h π k1) (tgt π (mB K h π k1))) := by
  unfold okM
  rw [decide_eq_false (fun q => hne (Option.some.inj q).symm)]
  simp
theorem okS_is {os k : Nat} : okS K h π b os k = (!(Nat.testBit os k) && tkB K (sps K h π b os) (sB K h π b k) (tgt π (sB K h π b k))) := by
  unfold okS okJ opn
  simp
/-- the last one always comes: the plan's row is right -/
theorem last_comes {om : Nat} (hK : KOk K) (hH : HOk K h) (hP : PlanOk K h π) (hkb : kb < mN K h π) (eb : mB K h π kb = b) (hall : ∀ k, k < mN K h π → k ≠ kb → Nat.testBit om k = true) (hb : Nat.testBit om kb = false) : tkB K (posM K h π (some kb) om) b (tgt π b) = true := by
  obtain ⟨e1, e2, xb, yb, e3, e4, e5⟩ := mB_ok hkb
  rw [eb] at e1 e2 e3 e4
  have hW := hK.2.1
  have huh := uni_row hH.2.2.1 hH.fr_live e3
  have huπ := uni_row hP.2.2.1 (hP.fr_live hH) e4
  have hyM := (hP.1 b yb e4).2
  have esb : sbO (mB K h π) (some kb) om = some b := by
    show (if Nat.testBit om kb = true then none else some (mB K h π kb)) = some b
    rw [hb, if_neg (by decide), eb]
  have hpos : ∀ v m, posM K h π (some kb) om v = some m → blk K v ≠ b ∧ π v = some m := by
    intro v m e
    unfold posM plR at e
    rw [esb] at e
    cases z : h v with
    | none => rw [if_pos z] at e; cases e
    | some x =>
      have hvW := (hH.1 v x z).1
      rw [if_neg (show ¬ h v = none from by rw [z]; simp)] at e
      by_cases cb : blk K v = b
      · rw [if_pos (by rw [cb])] at e; cases e
      · rw [if_neg (fun q => cb (Option.some.inj q).symm)] at e
        refine ⟨cb, ?_⟩
        by_cases c : dnb (mN K h π) (mB K h π) om (blk K v) = true
        · rw [if_pos c] at e; exact e
        · rw [if_neg c] at e
          have hnm : mvd K h π (blk K v) = false := by
            cases y : mvd K h π (blk K v) with
            | false => rfl
            | true =>
              obtain ⟨k, k1, k2⟩ := (gb_spec (mvd K h π) (kW K)).2.2.1 (blk K v) (by have := blk_le K v; omega) y
              have hkk : k ≠ kb := fun q => cb (by rw [← eb, ← q]; exact k2.symm)
              exact absurd (dnb_true.mpr ⟨k, k1, hall k k1 hkk, k2⟩) c
          have hlead : ∃ x1, h (blk K v) = some x1 := by
            by_cases cv : blk K v = v
            · exact ⟨x, by rw [cv]; exact z⟩
            · have hf := frnd_true.mp (blk_frnd cv)
              have := hH.fr_live (blk K v) (by have := blk_le K v; omega) hf.2.1
              cases y : h (blk K v) with
              | none => rw [y] at this; cases this
              | some x1 => exact ⟨x1, rfl⟩
          obtain ⟨x1, hx1⟩ := hlead
          have hv1 := uni_row hH.2.2.1 hH.fr_live hx1 v hvW rfl
          have hs := (hP.2.2.2.2.1 (blk K v)).mpr (by rw [hx1]; rfl)
          obtain ⟨y1, hy1⟩ : ∃ y, π (blk K v) = some y := by
            cases y : π (blk K v) with
            | none => rw [y] at hs; cases hs
            | some y1 => exact ⟨y1, rfl⟩
          have hv2 := uni_row hP.2.2.1 (hP.fr_live hH) hy1 v hvW rfl
          have : y1 = x1 := by
            unfold mvd at hnm
            rw [hx1, hy1, blk_blk] at hnm
            simpa using hnm
          rw [hv2, this, ← hv1]
          exact e
  have hsum : ∀ (f : Nat → Int), (∀ w, w < kW K → 0 ≤ f w) → sm 8 (fun w => if posM K h π (some kb) om w = some yb then f w else 0) + sm (kW K) (fun w => if blk K w = b then f w else 0) ≤ sm 8 (fun w => if π w = some yb then f w else 0) := by
    intro f hf
    have e1 : sm (kW K) (fun w => if blk K w = b then f w else 0) = sm 8 (fun w => if w < kW K ∧ blk K w = b then f w else 0) := by
      rw [sm_ext (n := kW K) (m := 8) (f := fun w => if w < kW K ∧ blk K w = b then f w else 0) (by omega) (fun i h1 h2 => if_neg (fun q => by omega))]
      refine sm_congr (fun i hi => ?_)
      by_cases c : blk K i = b
      · rw [if_pos c, if_pos ⟨hi, c⟩]
      · rw [if_neg c, if_neg (fun q => c q.2)]
    rw [e1, ← sm_add]
    refine sm_mono (fun w _ => ?_)
    by_cases c : w < kW K ∧ blk K w = b
    · rw [if_pos c, if_neg (fun q => (hpos w yb q).1 c.2), if_pos (huπ w c.1 c.2)]
      omega
    · rw [if_neg c]
      by_cases c2 : posM K h π (some kb) om w = some yb
      · rw [if_pos c2, if_pos (hpos w yb c2).2]; omega
      · rw [if_neg c2]
        by_cases c3 : π w = some yb
        · rw [if_pos c3]
          have := hf w (hP.1 w yb c3).1
          omega
        · rw [if_neg c3]; omega
  have sA : uA K (posM K h π (some kb) om) yb + bA K b ≤ uA K π yb := hsum (kA K) (fun w hw => (hK.2.2.2 w hw).1)
  have sB' : uB K (posM K h π (some kb) om) yb + bB K b ≤ uB K π yb := hsum (kB K) (fun w hw => (hK.2.2.2 w hw).2.2.1)
  have hfit := hP.2.2.2.1 yb hyM
  rw [tgt_some e4]
  unfold tkB
  rw [decide_eq_true (by omega), decide_eq_true (by omega)]
  by_cases ek : kd K b = 1
  · have : ht K (posM K h π (some kb) om) yb (kg K b).toNat = false := (ht_and hK e1 ek).mpr (fun v hv hv2 hv3 q => by
      obtain ⟨w1, w2⟩ := hpos v yb hv2
      have hvb : v ≠ b := fun z => w1 (by rw [z]; exact e2)
      exact hP.2.1 v b yb hvb (twin_true.mpr ⟨hv3, ek, q⟩) w2 e4)
    rw [this]
    simp
  · simp [ek]
theorem stop_eq (hK : KOk K) (hH : HOk K h) (hP : PlanOk K h π) (hkb : kb < mN K h π) (eb : mB K h π kb = b) : ∀ (d os om : Nat), rm (sN K h π b) os = d → SR K h π b kb os om → canX (sN K h π b) (okS K h π b) os = canX (mN K h π) (okM K h π (some kb)) om := by
  have huniq : ∀ k, k < mN K h π → k ≠ kb → mB K h π k ≠ b := fun k hk hne q => hne (gb_inj (c := mvd K h π) (j := kW K) hk hkb (q.trans eb.symm))
  intro d
  induction d with
  | zero =>
    intro os om hd r
    obtain ⟨r1, r2, r3, r4, r5⟩ := id r
    rw [canX_end hd, canX_step okM_b (by omega)]
    symm
    have hs := rm_set hkb r4
    refine anyk_true.mpr ⟨kb, hkb, ?_⟩
    have h0 : rm (mN K h π) (om ||| 2 ^ kb) = 0 := by omega
    have hall := (all_bits (or_lt r2 hkb)).mp h0
    have hbits := rm_zero.mp h0
    have hl := last_comes hK hH hP hkb eb (fun k hk hne => by
      have := hbits k hk
      rw [tb_set, decide_eq_false (fun q => hne q.symm), Bool.or_false] at this
      exact this) r4
    rw [canX_end h0, Bool.and_true]
    unfold okM
    rw [r4, decide_eq_true hall, eb, hl]
    simp
  | succ d ih =>
    intro os om hd r
    obtain ⟨r1, r2, r3, r4, r5⟩ := id r
    have hpe := sps_eq hH hP hkb eb r
    rw [canX_step (ok := okS K h π b) okJ_b (by omega), canX_step okM_b (by omega)]
    apply Bool.eq_iff_iff.mpr
    rw [anyk_true, anyk_true]
    constructor
    · rintro ⟨k, hk, hx⟩
      rw [Bool.and_eq_true] at hx
      obtain ⟨s1, s2, s3⟩ := sB_ok hk
      obtain ⟨k1, hk1, ek1⟩ := (gb_spec (mvd K h π) (kW K)).2.2.1 _ s1 s3
      have hne : k1 ≠ kb := fun q => s2 (eb.symm.trans (by rw [← q]; exact ek1))
      have hbit : Nat.testBit os k = false := okJ_b os k hk hx.1
      have hbit1 : Nat.testBit om k1 = false := by
        rw [← dnb_own hk1, ← r3, show mB K h π k1 = sB K h π b k from ek1, dnb_sown hk]
        exact hbit
      have hstep := ih (os ||| 2 ^ k) (om ||| 2 ^ k1) (by have := rm_set hk hbit; omega) (r.step hk hk1 ek1.symm hne hbit hbit1)
      refine ⟨k1, hk1, ?_⟩
      rw [← hstep, hx.2, Bool.and_true, okM_other hne, hbit1, hpe, show mB K h π k1 = sB K h π b k from ek1]
      have := hx.1
      rw [okS_is, hbit] at this
      exact this
    · rintro ⟨k1, hk1, hx⟩
      rw [Bool.and_eq_true] at hx
      have hbit1 : Nat.testBit om k1 = false := okM_b (n := mN K h π) om k1 hk1 hx.1
      by_cases hne : k1 = kb
      · exfalso
        subst hne
        have hs := rm_set hkb r4
        have hna : ¬ om ||| 2 ^ k1 = 2 ^ (mN K h π) - 1 := fun q => by
          have := (all_bits (or_lt r2 hkb)).mpr q
          omega
        have := hx.1
        unfold okM at this
        rw [r4, decide_eq_true rfl, decide_eq_false hna] at this
        simp at this
      · have hmv := (gb_spec (mvd K h π) (kW K)).2.1 k1 hk1
        obtain ⟨k, hk, ek⟩ := (gb_spec (mvc K h π (some b)) (kW K)).2.2.1 _ hmv.1 (mvc_true.mpr ⟨fun q => huniq k1 hk1 hne q.symm, hmv.2⟩)
        have ek' : sB K h π b k = mB K h π k1 := ek
        have hk : k < sN K h π b := hk
        have hbit : Nat.testBit os k = false := by
          rw [← dnb_sown (b := b) hk, r3, ek', dnb_own hk1]
          exact hbit1
        have hstep := ih (os ||| 2 ^ k) (om ||| 2 ^ k1) (by have := rm_set hk hbit; omega) (r.step hk hk1 ek' hne hbit hbit1)
        refine ⟨k, hk, ?_⟩
        rw [hstep, hx.2, Bool.and_true, okS_is, hbit, ← hpe, ek']
        have := hx.1
        rw [okM_other hne, hbit1] at this
        exact this
end STOPEQ
