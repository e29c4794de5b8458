/-! the class's orders: jobs, the row as jobs are over, what is known to lead nowhere -/
def rq (o : Option Nat) : Int32 := match o with
  | none => 0
  | some d => (1 : Int32) <<< ((J ((d : Nat) : Int)) &&& (31 : Int32))
def opn (Q : Nat → Option Nat) (o k : Nat) : Bool := !(Nat.testBit o k) && (match Q k with
  | none => true
  | some d => Nat.testBit o d)
def okJ (K : Kt) (B T : Nat → Nat) (Q : Nat → Option Nat) (ps : Nat → Ro) (o k : Nat) : Bool := opn Q o k && tkB K (ps o) (B k) (T k)
def JS (K : Kt) (n : Nat) (B T : Nat → Nat) (Q : Nat → Option Nat) (G : Nat → Prop) (ps : Nat → Ro) : Prop := n ≤ 9 ∧ (∀ k, k < n → B k < kW K ∧ blk K (B k) = B k ∧ T k < kM K ∧ ∀ d, Q k = some d → d < 9) ∧ (∀ o, o < 2 ^ n → RoOk K (ps o)) ∧ (∀ o k, o < 2 ^ n → G o → k < n → opn Q o k = true → G (o ||| 2 ^ k) ∧ (∃ x, x < kM K ∧ ∀ w, w < kW K → blk K w = B k → ps o w = some x) ∧ shR K (ps o) (B k) (some (T k)) (kW K) = ps (o ||| 2 ^ k))
def JRep (σ : SS) (n : Nat) (B T : Nat → Nat) (Q : Nat → Option Nat) : Prop := σ 27 3 = J (n : Int) ∧ ∀ k, k < n → σ 29 k = J (B k : Int) ∧ σ 30 k = J (T k : Int) ∧ σ 31 k = rq (Q k)
def Memo (σ : SS) (n : Nat) (ok : Nat → Nat → Bool) : Prop := ∀ x, x < 2 ^ n → σ 32 x = 0 ∨ canX n ok x = false
def KeepS (σ σ1 : SS) : Prop := ∀ k, k ≠ 28 → k ≠ 32 → (k < 33 ∨ 38 < k) → σ1 k = σ k
theorem KeepS.trans {σ σ1 σ2 : SS} (h : KeepS σ σ1) (h1 : KeepS σ1 σ2) : KeepS σ σ2 := fun k a b c => (h1 k a b c).trans (h k a b c)
theorem JRep.keep {σ σ1 : SS} {n : Nat} {B T : Nat → Nat} {Q : Nat → Option Nat} (q : JRep σ n B T Q) (h : KeepS σ σ1) : JRep σ1 n B T Q := by
  unfold JRep at q ⊢
  rw [h 27 (by omega) (by omega) (by omega), h 29 (by omega) (by omega) (by omega), h 30 (by omega) (by omega) (by omega), h 31 (by omega) (by omega) (by omega)]
  exact q
theorem tkB_tw {K : Kt} {ρ : Ro} {b m : Nat} (hK : KOk K) (hρ : RoOk K ρ) (hT : TwApart K ρ) (hb : b < kW K) (ht : tkB K ρ b m = true) : TwApart K (shR K ρ b (some m) (kW K)) := by
  have hW := hK.2.1
  have key : ∀ v w x, v ≠ w → twin K v w = true → (v < kW K ∧ v < kW K ∧ blk K v = b) → shR K ρ b (some m) (kW K) v = some x → shR K ρ b (some m) (kW K) w = some x → False := by
    intro v w x hvw htw e1 h1 h2
    have ht2 := twin_true.mp htw
    have bv : blk K v = v := blk_own (by omega)
    have bw : blk K w = w := blk_own (by omega)
    have evb : v = b := by rw [← bv]; exact e1.2.2
    subst evb
    unfold shR at h1 h2
    rw [if_pos e1] at h1
    rw [if_neg (fun q => hvw (by rw [← bw, q.2.2]))] at h2
    cases h1
    unfold tkB at ht
    simp only [Bool.and_eq_true, ht2.1, beq_self_eq_true, Bool.not_true, Bool.false_or, Bool.not_eq_true'] at ht
    exact (ht_and hK hb ht2.1).mp ht.2 w (by have := (hρ w m h2).1; omega) h2 ht2.2.1 ht2.2.2.symm
  intro v w x hvw htw h1 h2
  by_cases e1 : v < kW K ∧ v < kW K ∧ blk K v = b
  · exact key v w x hvw htw e1 h1 h2
  · by_cases e2 : w < kW K ∧ w < kW K ∧ blk K w = b
    · have ht2 := twin_true.mp htw
      exact key w v x (Ne.symm hvw) (twin_true.mpr ⟨ht2.2.1, ht2.1, ht2.2.2.symm⟩) e2 h2 h1
    · unfold shR at h1 h2
      rw [if_neg e1] at h1
      rw [if_neg e2] at h2
      exact hT v w x hvw htw h1 h2
theorem shR_back {K : Kt} {ρ : Ro} {b m x : Nat} (hu : ∀ w, w < kW K → blk K w = b → ρ w = some x) : shR K (shR K ρ b (some m) (kW K)) b (some x) (kW K) = ρ := by
  funext w
  unfold shR
  by_cases e : w < kW K ∧ w < kW K ∧ blk K w = b
  · rw [if_pos e, hu w e.1 e.2.2]
  · rw [if_neg e, if_neg e]
section SEEK
variable {K : Kt} {n : Nat} {B T : Nat → Nat} {Q : Nat → Option Nat} {G : Nat → Prop} {ps : Nat → Ro} {N : Nat}
theorem okJ_b : OkB n (okJ K B T Q ps) := fun o k _ h => by
  unfold okJ opn at h
  simp only [Bool.and_eq_true, Bool.not_eq_true'] at h
  exact h.1.1
def SeekAt (K : Kt) (n : Nat) (B T : Nat → Nat) (Q : Nat → Option Nat) (ps : Nat → Ro) (d dp o : Nat) (r : Option (Int32 × SS)) (σ : SS) : Prop := ∃ σ1, r = some (bz (canX n (okJ K B T Q ps) o), σ1) ∧ RowRep σ1 33 K (ps o) ∧ Memo σ1 n (okJ K B T Q ps) ∧ KeepS σ σ1 ∧ (∀ i, i < dp → σ1 28 i = σ 28 i) ∧ (canX n (okJ K B T Q ps) o = true → ∀ i, i < d → σ1 28 (dp + i) = J (B (fstX n (okJ K B T Q ps) (stX n (okJ K B T Q ps) i o)) : Int))
theorem seek_spec (hN : 20 ≤ N) (hK : KOk K) (hJ : JS K n B T Q G ps) : ∀ (d dp o f : Nat) (σ : SS), rm n o = d → dp + d = n → o < 2 ^ n → G o → d < f → StRep σ K → RowRep σ 33 K (ps o) → TwApart K (ps o) → JRep σ n B T Q → Memo σ n (okJ K B T Q ps) → SeekAt K n B T Q ps d dp o (fX0_seek N f (J (o : Int)) (J (dp : Int)) σ) σ := by
  obtain ⟨j1, j2, j3, j4⟩ := hJ
  have hW := hK.2.1
  have hM := hK.1
  have h2n : 2 ^ n ≤ 512 := Nat.pow_le_pow_right (by omega : 0 < 2) j1
  intro d
  induction d with
  | zero =>
    intro dp o f σ hd hdp ho hg hf hS hR hT hJr hm
    obtain ⟨f, rfl⟩ : ∃ f', f = f' + 1 := ⟨f - 1, by omega⟩
    unfold fX0_seek
    rw [lp_succ, fX0_seek_e, hJr.1, if_neg (fun q => by have := (J_lt (by omega) (by omega) (by omega) (by omega)).mp q; omega), zk1]
    refine ⟨σ, by rw [canX_end hd]; rfl, hR, hm, fun _ _ _ _ => rfl, fun _ _ => rfl, fun _ i hi => absurd hi (by omega)⟩
  | succ d ih =>
    intro dp o f σ hd hdp ho hg hf hS hR hT hJr hm
    obtain ⟨f, rfl⟩ : ∃ f', f = f' + 1 := ⟨f - 1, by omega⟩
    have hstep := canX_step (n := n) (o := o) (okJ_b (K := K) (B := B) (T := T) (Q := Q) (ps := ps)) (by omega)
    have loop : ∀ (e j m : Nat) (σ : SS), j + e = n → e < m → (∀ k, k < j → (okJ K B T Q ps o k && canX n (okJ K B T Q ps) (o ||| 2 ^ k)) = false) → StRep σ K → RowRep σ 33 K (ps o) → JRep σ n B T Q → Memo σ n (okJ K B T Q ps) → SeekAt K n B T Q ps (d + 1) dp o (lp (fX0_seek_23 N (fX0_seek N f)) (fun _ _ _ _ => none) m (J (o : Int)) (J (dp : Int)) (J (j : Int)) σ) σ := by
      intro e
      induction e with
      | zero =>
        intro j m σ hj hm' hno hS hR hJr hm
        obtain ⟨m, rfl⟩ : ∃ m', m = m' + 1 := ⟨m - 1, by omega⟩
        have hc : canX n (okJ K B T Q ps) o = false := by rw [hstep]; exact anyk_false.mpr (fun k hk => hno k (by omega))
        rw [lp_succ, fX0_seek_23, hJr.1, if_pos ((J_le (by omega) (by omega) (by omega) (by omega)).mpr (by omega)), ck_J (by omega) (by omega) (by omega), J_nn (by omega), sg, zk0]
        refine ⟨_, by rw [hc]; rfl, hR.keep (fun k a b => stp_n (by omega)), fun x hx => ?_, fun k a b c => stp_n b, fun i _ => by rw [stp_n (by omega)], fun z => by rw [hc] at z; cases z⟩
        show stp σ 32 (upd (σ 32) o (1 &&& 1)) 32 x = 0 ∨ _
        rw [stp_s]
        by_cases c : x = o
        · subst c; exact Or.inr hc
        · rw [upd_n c]; exact hm x hx
      | succ e ihe =>
        intro j m σ hj hm' hno hS hR hJr hm
        obtain ⟨m, rfl⟩ : ∃ m', m = m' + 1 := ⟨m - 1, by omega⟩
        have hjn : j < n := by omega
        obtain ⟨b1, b2, b3, b4⟩ := j2 j hjn
        obtain ⟨r1, r2, r3⟩ := hJr.2 j hjn
        have no : (okJ K B T Q ps o j && canX n (okJ K B T Q ps) (o ||| 2 ^ j)) = false → SeekAt K n B T Q ps (d + 1) dp o (fX0_seek_169 N (fX0_seek N f) (lp (fX0_seek_23 N (fX0_seek N f)) (fun _ _ _ _ => none) m) (J (o : Int)) (J (dp : Int)) (J (j : Int)) σ) σ := by
          intro z
          rw [fX0_seek_169, J1, J_add]
          exact ihe (j + 1) m σ (by omega) (by omega) (fun k hk => by
            by_cases c : k = j
            · subst c; exact z
            · exact hno k (by omega)) hS hR hJr hm
        have no0 : opn Q o j = false → SeekAt K n B T Q ps (d + 1) dp o (fX0_seek_56 N (fX0_seek N f) (lp (fX0_seek_23 N (fX0_seek N f)) (fun _ _ _ _ => none) m) (J (o : Int)) (J (dp : Int)) (J (j : Int)) σ) σ := by
          intro z
          rw [fX0_seek_56, fX0_seek_57, if_pos rfl]
          exact no (by unfold okJ; rw [z]; rfl)
        rw [lp_succ, fX0_seek_23, hJr.1, if_neg (fun q => by have := (J_le (by omega) (by omega) (by omega) (by omega)).mp q; omega), bit_get o (by omega) j (by omega)]
        cases hb : Nat.testBit o j with
        | true =>
          rw [if_neg (by decide)]
          exact no0 (by unfold opn; rw [hb]; rfl)
        | false =>
          rw [if_neg (by decide : ¬ false = true), if_pos rfl, ck_J (by omega) (by omega) (by omega), J_nn (by omega), r3]
          have hq : (rq (Q j) &&& ((J (o : Int)) ^^^ (-1)) = 0) ↔ opn Q o j = true := by
            unfold opn
            rw [hb]
            cases hQ : Q j with
            | none => simp only [rq, and_zero_l]; simp
            | some x =>
              have hx := b4 x hQ
              have := bit_req o (by omega) x (by omega)
              simp only [rq]
              rw [← this]
              simp
          cases hop : opn Q o j with
          | false =>
            rw [if_neg (fun q => by have := hq.mp q; rw [hop] at this; cases this)]
            exact no0 hop
          | true =>
            rw [if_pos (hq.mpr hop), fX0_seek_57, if_neg (by decide)]
            simp (disch := omega) only [ck_J, J_nn, r1, r2]
            rw [takesBlock_spec N (by omega : 13 ≤ 33) hK hS hR (j3 o ho) b1 b3, cali_s]
            cases htk : tkB K (ps o) (B j) (T j) with
            | false =>
              rw [if_pos bz_f]
              exact no (by unfold okJ; rw [htk, Bool.and_false, Bool.false_and])
            | true =>
              have hokJ : okJ K B T Q ps o j = true := by unfold okJ; rw [htk, hop]; rfl
              obtain ⟨hg2, ⟨x, hx, hu⟩, hsh⟩ := j4 o j ho hg hjn hop
              have hT2 := tkB_tw hK (j3 o ho) hT b1 htk
              have ho2 := or_lt ho hjn
              have hrm := rm_set hjn hb
              obtain ⟨σ1, q1, R1, k1⟩ := shift_spec (N := N) (by omega) (by omega : 13 ≤ 33) hK hS hR (j3 o ho) hT hT2 b1 b3
              rw [hsh] at R1
              rw [if_neg (by decide)]
              have hfrom : σ 34 (B j) = J (x : Int) := by
                have := hR.1 (B j) (by omega)
                rw [hu (B j) b1 b2] at this
                exact this
              rw [r1, r2, ck_J (by omega) (by omega) (by omega), J_nn (by omega), hfrom, q1, calv_s, sg]
              have e29 : σ1 29 j = J (B j : Int) := by rw [k1 29 (by omega)]; exact r1
              rw [e29]
              generalize hσ2 : stp σ1 28 (upd (σ1 28) dp (J (B j : Int))) = σ2
              have n2 : ∀ y, y ≠ 28 → σ2 y = σ1 y := fun y hy => by rw [← hσ2, stp_n hy]
              have ks1 : KeepS σ σ1 := fun k a b c => k1 k (by omega)
              have ks2 : KeepS σ σ2 := fun k a b c => by rw [n2 k a]; exact ks1 k a b c
              have hS2 : StRep σ2 K := hS.keep (fun k a b => ks2 k (by omega) (by omega) (by omega))
              have hT3 : TwApart K (ps (o ||| 2 ^ j)) := by rw [← hsh]; exact hT2
              have m2 : Memo σ2 n (okJ K B T Q ps) := fun y hy => by rw [n2 32 (by omega), k1 32 (by omega)]; exact hm y hy
              obtain ⟨σ3, q3, R3, M3, k3, i3, c3⟩ := ih (dp + 1) (o ||| 2 ^ j) f σ2 (by omega) (by omega) ho2 hg2 (by omega) hS2 (R1.keep (fun k a b => n2 k (by omega))) hT3 (hJr.keep ks2) m2
              have hS3 : StRep σ3 K := hS2.keep (fun k a b => k3 k (by omega) (by omega) (by omega))
              rw [bit_set o (by omega) j (by omega), J1, J_add]
              have q3' : fX0_seek N f (J ((o ||| 2 ^ j : Nat) : Int)) (J ((dp : Int) + 1)) σ2 = some (bz (canX n (okJ K B T Q ps) (o ||| 2 ^ j)), σ3) := q3
              rw [q3', cali_s]
              have e29' : σ3 29 j = J (B j : Int) := by rw [k3 29 (by omega) (by omega) (by omega), n2 29 (by omega)]; exact e29
              rw [e29']
              have hT4 : TwApart K (shR K (ps (o ||| 2 ^ j)) (B j) (some x) (kW K)) := by rw [← hsh, shR_back hu]; exact hT
              obtain ⟨σ4, q4, R4, k4⟩ := shift_spec (N := N) (by omega) (by omega : 13 ≤ 33) hK hS3 R3 (j3 _ ho2) hT3 hT4 b1 hx
              rw [← hsh, shR_back hu] at R4
              rw [q4, calv_s]
              have ks4 : KeepS σ σ4 := ks2.trans (k3.trans (fun k a b c => k4 k (by omega)))
              have M4 : Memo σ4 n (okJ K B T Q ps) := fun y hy => by rw [k4 32 (by omega)]; exact M3 y hy
              have i4 : ∀ i, i < dp → σ4 28 i = σ 28 i := fun i hi => by rw [k4 28 (by omega), i3 i (by omega), ← hσ2, stp_s, upd_n (by omega), k1 28 (by omega)]
              cases hcx : canX n (okJ K B T Q ps) (o ||| 2 ^ j) with
              | false =>
                rw [if_pos bz_f]
                have := ihe (j + 1) m σ4 (by omega) (by omega) (fun k hk => by
                  by_cases c : k = j
                  · subst c; rw [hcx, Bool.and_false]
                  · exact hno k (by omega)) (hS.keep (fun k a b => ks4 k (by omega) (by omega) (by omega))) R4 (hJr.keep ks4) M4
                obtain ⟨σ5, p1, p2, p3, p4, p5, p6⟩ := this
                refine ⟨σ5, ?_, p2, p3, ks4.trans p4, fun i hi => by rw [p5 i hi, i4 i hi], p6⟩
                rw [fX0_seek_169, J1, J_add]
                exact p1
              | true =>
                have hc : canX n (okJ K B T Q ps) o = true := by
                  rw [hstep]
                  exact anyk_true.mpr ⟨j, hjn, by rw [hokJ, hcx]; rfl⟩
                have hfst : fstX n (okJ K B T Q ps) o = j := fstX_is hjn hno (by rw [hokJ, hcx]; rfl)
                rw [if_neg (by decide), show J 1 = (1 : Int32) from rfl, zk1]
                refine ⟨σ4, by rw [hc]; rfl, R4, M4, ks4, i4, fun _ i hi => ?_⟩
                rw [k4 28 (by omega)]
                cases i with
                | zero =>
                  show σ3 28 dp = J (B (fstX n (okJ K B T Q ps) o) : Int)
                  rw [i3 dp (by omega), ← hσ2, stp_s, upd_s, hfst]
                | succ i =>
                  have := c3 hcx i (by omega)
                  show σ3 28 (dp + (i + 1)) = J (B (fstX n (okJ K B T Q ps) (stX n (okJ K B T Q ps) i (o ||| 2 ^ (fstX n (okJ K B T Q ps) o)))) : Int)
                  rw [hfst, ← this]
                  congr 1
                  omega
    unfold fX0_seek
    rw [lp_succ, fX0_seek_e, hJr.1, if_pos ((J_lt (by omega) (by omega) (by omega) (by omega)).mpr (by omega)), ck_J (by omega) (by omega) (by omega), J_nn (by omega)]
    by_cases c : σ 32 o = 0
    · rw [if_pos c]
      exact loop n 0 N σ (by omega) (by omega) (fun k hk => absurd hk (by omega)) hS hR hJr hm
    · rw [if_neg c, zk0]
      rcases hm o ho with z | z
      · exact absurd z c
      · exact ⟨σ, by rw [z]; rfl, hR, hm, fun _ _ _ _ => rfl, fun _ _ => rfl, fun y => by rw [z] at y; cases y⟩
end SEEK
