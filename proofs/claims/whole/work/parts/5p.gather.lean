/-- the works of a kind, in order -/
def gb (c : Nat → Bool) : Nat → Nat × (Nat → Nat)
  | 0 => (0, fun _ => 0)
  | j + 1 => if c j then ((gb c j).1 + 1, fun k => if k = (gb c j).1 then j else (gb c j).2 k) else gb c j
theorem gb_spec (c : Nat → Bool) : ∀ j, (gb c j).1 ≤ j ∧ (∀ k, k < (gb c j).1 → (gb c j).2 k < j ∧ c ((gb c j).2 k) = true) ∧ (∀ w, w < j → c w = true → ∃ k, k < (gb c j).1 ∧ (gb c j).2 k = w) ∧ (∀ k k1, k < k1 → k1 < (gb c j).1 → (gb c j).2 k < (gb c j).2 k1) := by
  intro j
  induction j with
  | zero => exact ⟨Nat.le_refl _, fun k h => absurd h (Nat.not_lt_zero _), fun w h => by omega, fun k k1 _ h => absurd h (Nat.not_lt_zero _)⟩
  | succ j ih =>
    obtain ⟨i1, i2, i3, i4⟩ := ih
    cases e : c j with
    | false =>
      have eg : gb c (j + 1) = gb c j := by rw [gb, e, if_neg (by decide)]
      rw [eg]
      refine ⟨by omega, fun k h => ⟨by have := (i2 k h).1; omega, (i2 k h).2⟩, fun w h hc => ?_, i4⟩
      by_cases q : w = j
      · subst q; rw [e] at hc; cases hc
      · exact i3 w (by omega) hc
    | true =>
      have eg : gb c (j + 1) = ((gb c j).1 + 1, fun k => if k = (gb c j).1 then j else (gb c j).2 k) := by rw [gb, e, if_pos rfl]
      rw [eg]
      dsimp only
      refine ⟨by omega, fun k h => ?_, fun w h hc => ?_, fun k k1 h h1 => ?_⟩
      · by_cases q : k = (gb c j).1
        · rw [if_pos q]; exact ⟨by omega, e⟩
        · rw [if_neg q]
          have := i2 k (by omega)
          exact ⟨by omega, this.2⟩
      · by_cases q : w = j
        · exact ⟨(gb c j).1, by omega, by rw [if_pos rfl, q]⟩
        · obtain ⟨k, h1, h2⟩ := i3 w (by omega) hc
          exact ⟨k, by omega, by rw [if_neg (by omega)]; exact h2⟩
      · rw [if_neg (by omega : ¬ k = (gb c j).1)]
        by_cases q : k1 = (gb c j).1
        · rw [if_pos q]; exact (i2 k (by omega)).1
        · rw [if_neg q]; exact i4 k k1 h (by omega)
theorem gb_inj {c : Nat → Bool} {j k k1 : Nat} (h : k < (gb c j).1) (h1 : k1 < (gb c j).1) (e : (gb c j).2 k = (gb c j).2 k1) : k = k1 := by
  have h4 := (gb_spec c j).2.2.2
  by_cases a : k < k1
  · have := h4 k k1 a h1; omega
  · by_cases b : k1 < k
    · have := h4 k1 k b h; omega
    · omega
/-- blocks that are over -/
def dnb (n : Nat) (B : Nat → Nat) (o b : Nat) : Bool := anyk n (fun k => Nat.testBit o k && B k == b)
def mvR (K : Kt) (dn : Nat → Bool) (ρ π : Ro) : Ro := fun w => if dn (blk K w) = true then π w else ρ w
theorem dnb_true {n : Nat} {B : Nat → Nat} {o b : Nat} : dnb n B o b = true ↔ ∃ k, k < n ∧ Nat.testBit o k = true ∧ B k = b := by
  unfold dnb
  rw [anyk_true]
  constructor
  · rintro ⟨k, h1, h2⟩
    simp only [Bool.and_eq_true, beq_iff_eq] at h2
    exact ⟨k, h1, h2⟩
  · rintro ⟨k, h1, h2, h3⟩
    exact ⟨k, h1, by rw [h2, h3]; simp⟩
theorem dnb_set {n : Nat} {B : Nat → Nat} {o k b : Nat} (hk : k < n) : dnb n B (o ||| 2 ^ k) b = (dnb n B o b || B k == b) := by
  apply Bool.eq_iff_iff.mpr
  rw [Bool.or_eq_true, dnb_true, dnb_true, beq_iff_eq]
  constructor
  · rintro ⟨j, h1, h2, h3⟩
    rw [tb_set] at h2
    simp only [Bool.or_eq_true, decide_eq_true_eq] at h2
    rcases h2 with h2 | h2
    · exact Or.inl ⟨j, h1, h2, h3⟩
    · subst h2; exact Or.inr h3
  · rintro (⟨j, h1, h2, h3⟩ | h)
    · exact ⟨j, h1, by rw [tb_set, h2]; rfl, h3⟩
    · exact ⟨k, hk, by rw [tb_set]; simp, h⟩
theorem mvR_zero {K : Kt} {n : Nat} {B : Nat → Nat} {ρ π : Ro} : mvR K (dnb n B 0) ρ π = ρ := by
  funext w
  unfold mvR
  rw [if_neg]
  intro h
  obtain ⟨k, -, h2, -⟩ := dnb_true.mp h
  rw [Nat.zero_testBit] at h2
  cases h2
theorem mvR_ok {K : Kt} {dn : Nat → Bool} {ρ π : Ro} (h : RoOk K ρ) (h1 : RoOk K π) : RoOk K (mvR K dn ρ π) := by
  intro w m e
  unfold mvR at e
  by_cases c : dn (blk K w) = true
  · rw [if_pos c] at e; exact h1 w m e
  · rw [if_neg c] at e; exact h w m e
/-- one more block is over -/
theorem mvR_step {K : Kt} {n k m : Nat} {B : Nat → Nat} {o : Nat} {ρ π : Ro} (h : RoOk K ρ) (h1 : RoOk K π) (hk : k < n) (hu : ∀ w, w < kW K → blk K w = B k → π w = some m) : shR K (mvR K (dnb n B o) ρ π) (B k) (some m) (kW K) = mvR K (dnb n B (o ||| 2 ^ k)) ρ π := by
  funext w
  unfold shR
  by_cases e : w < kW K ∧ w < kW K ∧ blk K w = B k
  · rw [if_pos e]
    unfold mvR
    rw [if_pos (by rw [dnb_set hk, e.2.2]; simp), hu w e.1 e.2.2]
  · rw [if_neg e]
    have out : ∀ (ρ : Ro), RoOk K ρ → ¬ w < kW K → ρ w = none := fun ρ hρ hw => by
      cases z : ρ w with
      | none => rfl
      | some x => exact absurd (hρ w x z).1 hw
    by_cases hw : w < kW K
    · have hb : ¬ B k = blk K w := fun q => e ⟨hw, hw, q.symm⟩
      unfold mvR
      rw [dnb_set hk]
      have : (B k == blk K w) = false := by simp [hb]
      rw [this, Bool.or_false]
    · rw [out _ (mvR_ok h h1) hw, out _ (mvR_ok h h1) hw]
def KeepO (σ σ1 : SS) : Prop := ∀ k, (k < 27 ∨ 38 < k) → σ1 k = σ k
theorem KeepO.trans {σ σ1 σ2 : SS} (h : KeepO σ σ1) (h1 : KeepO σ1 σ2) : KeepO σ σ2 := fun k a => (h1 k a).trans (h k a)
theorem addJob_spec {σ : SS} {n b m : Nat} {B T : Nat → Nat} {Q : Nat → Option Nat} (N : Nat) (hn : n < 9) (hJ : JRep σ n B T Q) : ∃ σ1, fX0_addJob N (J (b : Int)) (J (m : Int)) σ = some σ1 ∧ JRep σ1 (n + 1) (fun k => if k = n then b else B k) (fun k => if k = n then m else T k) (fun k => if k = n then none else Q k) ∧ (∀ k, k ≠ 27 → k ≠ 29 → k ≠ 30 → k ≠ 31 → σ1 k = σ k) := by
  rw [fX0_addJob]
  simp (disch := omega) only [sg, ck_J, J_nn, hJ.1, stp_s, stp_n, upd_s, upd_n]
  refine ⟨_, rfl, ⟨?_, fun k hk => ⟨?_, ?_, ?_⟩⟩, fun k a b c d => ?_⟩
  · simp (disch := omega) only [stp_s, stp_n, upd_s, J1, J_add]; rfl
  · simp (disch := omega) only [stp_s, stp_n]
    by_cases c : k = n
    · subst c; rw [upd_s, if_pos rfl]
    · rw [upd_n c, if_neg c]; exact (hJ.2 k (by omega)).1
  · simp (disch := omega) only [stp_s, stp_n]
    by_cases c : k = n
    · subst c; rw [upd_s, if_pos rfl]
    · rw [upd_n c, if_neg c]; exact (hJ.2 k (by omega)).2.1
  · simp (disch := omega) only [stp_s, stp_n]
    by_cases c : k = n
    · subst c; rw [upd_s, if_pos rfl]; rfl
    · rw [upd_n c, if_neg c]; exact (hJ.2 k (by omega)).2.2
  · simp (disch := omega) only [stp_n]
theorem JRep.congr {σ : SS} {n : Nat} {B B1 T T1 : Nat → Nat} {Q Q1 : Nat → Option Nat} (q : JRep σ n B T Q) (h : ∀ k, k < n → B k = B1 k ∧ T k = T1 k ∧ Q k = Q1 k) : JRep σ n B1 T1 Q1 := by
  refine ⟨q.1, fun k hk => ?_⟩
  obtain ⟨h1, h2, h3⟩ := h k hk
  rw [← h1, ← h2, ← h3]
  exact q.2 k hk
def tgt (π : Ro) (b : Nat) : Nat := (π b).getD 0
/-- blocks that move, but for one -/
def mvc (K : Kt) (h π : Ro) (out : Option Nat) (w : Nat) : Bool := (out != some w) && mvd K h π w
theorem gather_spec {σ : SS} {q : Nat} {K : Kt} {h π : Ro} {out : Option Nat} {N : Nat} (hN : 10 ≤ N) (hq : q < 27 ∨ 38 < q) (hK : KOk K) (hS : StRep σ K) (hR : RowRep σ 13 K h) (hh : RoOk K h) (hQ : RowAt σ q π) (hπ : RoOk K π) (ho : ∀ w, out = some w → w < 8) : ∃ σ1, fX0_gather N q (rv out) σ = some σ1 ∧ RowRep σ1 33 K h ∧ JRep σ1 (gb (mvc K h π out) (kW K)).1 (gb (mvc K h π out) (kW K)).2 (fun k => tgt π ((gb (mvc K h π out) (kW K)).2 k)) (fun _ => none) ∧ KeepO σ σ1 := by
  have hW := hK.2.1
  have hM := hK.1
  obtain ⟨σ1, c1, c2, c3⟩ := copy_spec N hK hR
  have ko1 : KeepO σ σ1 := fun k a => c3 k (by omega)
  rw [fX0_gather, c1, calv_s, sg]
  have key : ∀ (d j n : Nat) (σ2 : SS), j + d = kW K → d < n → KeepO σ σ2 → RowRep σ2 33 K h → JRep σ2 (gb (mvc K h π out) j).1 (gb (mvc K h π out) j).2 (fun k => tgt π ((gb (mvc K h π out) j).2 k)) (fun _ => none) → ∃ σ1, lp (fX0_gather_18 N q) (fun _ _ _ => none) n (rv out) (J j) σ2 = some σ1 ∧ RowRep σ1 33 K h ∧ JRep σ1 (gb (mvc K h π out) (kW K)).1 (gb (mvc K h π out) (kW K)).2 (fun k => tgt π ((gb (mvc K h π out) (kW K)).2 k)) (fun _ => none) ∧ KeepO σ σ1 := by
    intro d
    induction d with
    | zero =>
      intro j n σ2 hj hn hko hR2 hJr
      obtain ⟨n, rfl⟩ : ∃ n', n = n' + 1 := ⟨n - 1, by omega⟩
      have e11 : σ2 1 1 = J (kW K : Int) := by rw [hko 1 (by omega)]; exact hS.2.1
      rw [lp_succ, fX0_gather_18, e11, if_pos ((J_le (by omega) (by omega) (by omega) (by omega)).mpr (by omega))]
      have : j = kW K := by omega
      subst this
      exact ⟨σ2, rfl, hR2, hJr, hko⟩
    | succ d ih =>
      intro j n σ2 hj hn hko hR2 hJr
      obtain ⟨n, rfl⟩ : ∃ n', n = n' + 1 := ⟨n - 1, by omega⟩
      have hjW : j < kW K := by omega
      have e11 : σ2 1 1 = J (kW K : Int) := by rw [hko 1 (by omega)]; exact hS.2.1
      have hS2 : StRep σ2 K := hS.keep (fun k a b => hko k (by omega))
      have hR13 : RowRep σ2 13 K h := hR.keep (fun k a b => hko k (by omega))
      have hQ2 : RowAt σ2 q π := fun w hw => by rw [hko q hq]; exact hQ w hw
      have no : mvc K h π out j = false → ∃ σ1, fX0_gather_54 N q (lp (fX0_gather_18 N q) (fun _ _ _ => none) n) (rv out) (J j) σ2 = some σ1 ∧ RowRep σ1 33 K h ∧ JRep σ1 (gb (mvc K h π out) (kW K)).1 (gb (mvc K h π out) (kW K)).2 (fun k => tgt π ((gb (mvc K h π out) (kW K)).2 k)) (fun _ => none) ∧ KeepO σ σ1 := by
        intro z
        have eg : gb (mvc K h π out) (j + 1) = gb (mvc K h π out) j := by rw [gb, z, if_neg (by decide)]
        rw [fX0_gather_54, J1, J_add]
        exact ih (j + 1) n σ2 (by omega) (by omega) hko hR2 (by rw [eg]; exact hJr)
      have ceq : J (j : Int) = rv out ↔ out = some j := by
        cases out with
        | none =>
          show J (j : Int) = J (-1) ↔ _
          rw [J_eq (by omega) (by omega) (by omega) (by omega)]
          simp
        | some w =>
          have := ho w rfl
          show J (j : Int) = J (w : Int) ↔ _
          rw [J_eq (by omega) (by omega) (by omega) (by omega), Option.some.injEq]
          omega
      rw [lp_succ, fX0_gather_18, e11, if_neg (fun q => by have := (J_le (by omega) (by omega) (by omega) (by omega)).mp q; omega)]
      by_cases co : out = some j
      · rw [if_pos (ceq.mpr co)]
        exact no (by unfold mvc; rw [co]; simp)
      · rw [if_neg (fun z => co (ceq.mp z)), isMovedIn_spec N hK hS2 hR13 hh hQ2 hπ hjW, cali_s]
        have em : mvc K h π out j = mvd K h π j := by
          unfold mvc
          have : (out != some j) = true := by simp [co]
          rw [this, Bool.true_and]
        cases hm : mvd K h π j with
        | false =>
          rw [if_pos bz_f]
          exact no (by rw [em, hm])
        | true =>
          have hπj : ∃ m, π j = some m ∧ m < kM K := by
            unfold mvd at hm
            simp only [Bool.and_eq_true] at hm
            cases z : π j with
            | none => rw [z] at hm; simp at hm
            | some m => exact ⟨m, rfl, (hπ j m z).2⟩
          obtain ⟨m, hm1, hm2⟩ := hπj
          have eg : gb (mvc K h π out) (j + 1) = ((gb (mvc K h π out) j).1 + 1, fun k => if k = (gb (mvc K h π out) j).1 then j else (gb (mvc K h π out) j).2 k) := by rw [gb, em, hm, if_pos rfl]
          have hnle := (gb_spec (mvc K h π out) j).1
          have eq : σ2 q j = J (m : Int) := by rw [hQ2 j (by omega), hm1]; rfl
          rw [if_neg (by decide), ck_J (by omega) (by omega) (by omega), J_nn (by omega), eq]
          obtain ⟨σ3, a1, a2, a3⟩ := addJob_spec (b := j) (m := m) N (by omega) hJr
          have a4 : JRep σ3 (gb (mvc K h π out) (j + 1)).1 (gb (mvc K h π out) (j + 1)).2 (fun k => tgt π ((gb (mvc K h π out) (j + 1)).2 k)) (fun _ => none) := by
            rw [eg]
            refine a2.congr (fun k hk => ⟨rfl, ?_, ?_⟩)
            · dsimp only
              by_cases c : k = (gb (mvc K h π out) j).1
              · rw [if_pos c, if_pos c]; unfold tgt; rw [hm1]; rfl
              · rw [if_neg c, if_neg c]
            · by_cases c : k = (gb (mvc K h π out) j).1
              · rw [if_pos c]
              · rw [if_neg c]
          rw [a1, calv_s, fX0_gather_54, J1, J_add]
          exact ih (j + 1) n σ3 (by omega) (by omega) (hko.trans (fun k a => a3 k (by omega) (by omega) (by omega) (by omega))) (hR2.keep (fun k a b => a3 k (by omega) (by omega) (by omega) (by omega))) a4
  refine key (kW K) 0 N _ (by omega) (by omega) (fun k a => by rw [stp_n (by omega)]; exact ko1 k a) (c2.keep (fun k a b => by rw [stp_n (by omega)])) ⟨by rw [stp_s, upd_s]; rfl, fun k hk => absurd hk (Nat.not_lt_zero _)⟩
theorem seekAnew_spec {σ : SS} {K : Kt} {n : Nat} {B T : Nat → Nat} {Q : Nat → Option Nat} {G : Nat → Prop} {ps : Nat → Ro} {N : Nat} (hN : 600 ≤ N) (hK : KOk K) (hJ : JS K n B T Q G ps) (hG : G 0) (hS : StRep σ K) (hR : RowRep σ 33 K (ps 0)) (hT : TwApart K (ps 0)) (hJr : JRep σ n B T Q) : ∃ σ1, fX0_seekAnew N σ = some (bz (canX n (okJ K B T Q ps) 0), σ1) ∧ KeepO σ σ1 ∧ JRep σ1 n B T Q ∧ (canX n (okJ K B T Q ps) 0 = true → ∀ i, i < n → σ1 28 i = J (B (fstX n (okJ K B T Q ps) (stX n (okJ K B T Q ps) i 0)) : Int)) := by
  have hn := hJ.1
  have h2n : 2 ^ n ≤ 512 := Nat.pow_le_pow_right (by omega : 0 < 2) hn
  have hp : 0 < 2 ^ n := Nat.pow_pos (by omega)
  have key : ∀ (d x m : Nat) (σ2 : SS), x + d = 2 ^ n → d < m → KeepO σ σ2 → RowRep σ2 33 K (ps 0) → JRep σ2 n B T Q → (∀ y, y < x → σ2 32 y = 0) → ∃ σ1, lp (fX0_seekAnew_2 N) (fun _ _ => none) m (J (x : Int)) σ2 = some (bz (canX n (okJ K B T Q ps) 0), σ1) ∧ KeepO σ σ1 ∧ JRep σ1 n B T Q ∧ (canX n (okJ K B T Q ps) 0 = true → ∀ i, i < n → σ1 28 i = J (B (fstX n (okJ K B T Q ps) (stX n (okJ K B T Q ps) i 0)) : Int)) := by
    intro d
    induction d with
    | zero =>
      intro x m σ2 hx hm hko hR2 hJ2 hz
      obtain ⟨m, rfl⟩ : ∃ m', m = m' + 1 := ⟨m - 1, by omega⟩
      rw [lp_succ, fX0_seekAnew_2, hJ2.1, bit_one n (by omega), if_pos ((J_le (by omega) (by omega) (by omega) (by omega)).mpr (by omega))]
      obtain ⟨σ3, s1, s2, s3, s4, s5, s6⟩ := seek_spec (N := N) (by omega) hK hJ n 0 0 11 σ2 rm_start (by omega) hp hG (by omega) (hS.keep (fun k a b => hko k (by omega))) hR2 hT hJ2 (fun y hy => Or.inl (hz y (by omega)))
      have s1' : fX0_seek N 11 0 0 σ2 = some (bz (canX n (okJ K B T Q ps) 0), σ3) := s1
      rw [s1', cali_s]
      refine ⟨σ3, ?_, hko.trans (fun k a => s4 k (by omega) (by omega) (by omega)), hJ2.keep s4, fun z i hi => ?_⟩
      · cases canX n (okJ K B T Q ps) 0 <;> rfl
      · have := s6 z i hi
        rw [Nat.zero_add] at this
        exact this
    | succ d ih =>
      intro x m σ2 hx hm hko hR2 hJ2 hz
      obtain ⟨m, rfl⟩ : ∃ m', m = m' + 1 := ⟨m - 1, by omega⟩
      rw [lp_succ, fX0_seekAnew_2, hJ2.1, bit_one n (by omega), if_neg (fun q => by have := (J_le (by omega) (by omega) (by omega) (by omega)).mp q; omega), ck_J (by omega) (by omega) (by omega), J_nn (by omega), sg, J1, J_add]
      refine ih (x + 1) m _ (by omega) (by omega) (fun k a => by rw [stp_n (by omega)]; exact hko k a) (hR2.keep (fun k a b => by rw [stp_n (by omega)])) ?_ (fun y hy => ?_)
      · unfold JRep at hJ2 ⊢
        simp (disch := omega) only [stp_n]
        exact hJ2
      · rw [stp_s]
        by_cases c : y = x
        · subst c; rw [upd_s]; rfl
        · rw [upd_n c]; exact hz y (by omega)
  exact key (2 ^ n) 0 N σ (by omega) (by omega) (fun _ _ => rfl) hR hJr (fun y hy => by omega)
