theorem lfr_le (p : Nat → Bool) : ∀ n v, lfr p n v ≤ v + n ∧ v ≤ lfr p n v := by
  intro n
  induction n with
  | zero => intro v; exact ⟨Nat.le_refl _, Nat.le_refl _⟩
  | succ n ih =>
    intro v
    unfold lfr
    by_cases h : p v = true
    · rw [if_pos h]; omega
    · rw [if_neg h]; have := ih (v + 1); omega
theorem lfr_before (p : Nat → Bool) : ∀ n v u, v ≤ u → u < lfr p n v → p u = false := by
  intro n
  induction n with
  | zero => intro v u h1 h2; exact absurd h2 (Nat.not_lt.mpr h1)
  | succ n ih =>
    intro v u h1 h2
    unfold lfr at h2
    by_cases h : p v = true
    · rw [if_pos h] at h2; omega
    · rw [if_neg h] at h2
      by_cases e : u = v
      · subst e; simpa using h
      · exact ih (v + 1) u (by omega) h2
theorem lfr_hit (p : Nat → Bool) : ∀ n v, lfr p n v < v + n → p (lfr p n v) = true := by
  intro n
  induction n with
  | zero => intro v h; exact absurd h (Nat.lt_irrefl _)
  | succ n ih =>
    intro v h
    unfold lfr at h ⊢
    by_cases hp : p v = true
    · rw [if_pos hp]; exact hp
    · rw [if_neg hp] at h ⊢; exact ih (v + 1) (by omega)
theorem blk_le (K : Kt) (w : Nat) : blk K w ≤ w := by
  have := (lfr_le (fun v => frnd K w v) w 0).1
  unfold blk
  omega
theorem frnd_true {K : Kt} {w v : Nat} : frnd K w v = true ↔ kd K w = 2 ∧ kd K v = 2 ∧ kg K w = kg K v := by
  simp [frnd, and_assoc]
theorem twin_true {K : Kt} {w v : Nat} : twin K w v = true ↔ kd K w = 1 ∧ kd K v = 1 ∧ kg K w = kg K v := by
  simp [twin, and_assoc]
theorem blk_own {K : Kt} {w : Nat} (h : kd K w ≠ 2) : blk K w = w := by
  have h1 := blk_le K w
  by_cases e : blk K w < w
  · have := lfr_hit (fun v => frnd K w v) w 0 (by unfold blk at e; omega)
    have h2 := frnd_true.mp this
    exact absurd h2.1 h
  · omega
theorem blk_frnd {K : Kt} {w : Nat} (h : blk K w ≠ w) : frnd K w (blk K w) = true := by
  have h1 := blk_le K w
  exact lfr_hit (fun v => frnd K w v) w 0 (by unfold blk at h h1; omega)
theorem blk_first {K : Kt} {w v : Nat} (h : frnd K w v = true) (hv : v < w) : blk K w ≤ v := by
  by_cases e : v < blk K w
  · have := lfr_before (fun v => frnd K w v) w 0 v (by omega) (by unfold blk at e; exact e)
    rw [h] at this
    cases this
  · omega
theorem blk_eq {K : Kt} {w v : Nat} (h : frnd K w v = true) : blk K w = blk K v := by
  have hf := frnd_true.mp h
  have key : ∀ a b, kd K a = 2 → kd K b = 2 → kg K a = kg K b → blk K a ≤ blk K b := by
    intro a b h1 h2 h3
    by_cases e : blk K b < a
    · refine blk_first ?_ e
      by_cases e2 : blk K b = b
      · rw [e2]; exact frnd_true.mpr ⟨h1, h2, h3⟩
      · have := frnd_true.mp (blk_frnd e2)
        exact frnd_true.mpr ⟨h1, this.2.1, h3.trans this.2.2⟩
    · have := blk_le K a; omega
  have h1 := key w v hf.1 hf.2.1 hf.2.2
  have h2 := key v w hf.2.1 hf.1 hf.2.2.symm
  omega
theorem blk_blk {K : Kt} {w : Nat} : blk K (blk K w) = blk K w := by
  by_cases e : blk K w = w
  · rw [e, e]
  · exact (blk_eq (blk_frnd e)).symm
theorem bA_bd {K : Kt} (hK : KOk K) (b : Nat) : 0 ≤ bA K b ∧ bA K b ≤ 8000 ∧ 0 ≤ bB K b ∧ bB K b ≤ 8000 := by
  have h1 := sm_bd (n := kW K) (f := fun w => if blk K w = b then kA K w else 0) (c := 1000) (fun w hw => by
    have := hK.2.2.2 w hw
    by_cases e : blk K w = b
    · simp only [e, if_true]; omega
    · simp only [e, if_false]; omega)
  have h2 := sm_bd (n := kW K) (f := fun w => if blk K w = b then kB K w else 0) (c := 1000) (fun w hw => by
    have := hK.2.2.2 w hw
    by_cases e : blk K w = b
    · simp only [e, if_true]; omega
    · simp only [e, if_false]; omega)
  have h3 := hK.2.1
  unfold bA bB
  omega
def tkB (K : Kt) (ρ : Ro) (b m : Nat) : Bool := decide (bA K b ≤ kRA K m - uA K ρ m) && decide (bB K b ≤ kRB K m - uB K ρ m) && (!(kd K b == 1) || !(ht K ρ m (kg K b).toNat))
theorem takesBlock_spec {σ : SS} {r : Nat} {K : Kt} {ρ : Ro} {b m : Nat} (N : Nat) (hr : 13 ≤ r) (hK : KOk K) (hS : StRep σ K) (hR : RowRep σ r K ρ) (hρ : RoOk K ρ) (hb : b < kW K) (hm : m < kM K) : fX1_takesBlock N r (J b) (J m) σ = some (bz (tkB K ρ b m), σ) := by
  have hm5 : m < 5 := Nat.lt_of_lt_of_le hm hK.1
  have hb8 : b < 8 := Nat.lt_of_lt_of_le hb hK.2.1
  have hA := uA_bd hK hρ m
  have hB := uB_bd hK hρ m
  have hrm := hK.2.2.1 m hm
  have hbb := bA_bd hK b
  obtain ⟨-, -, -, -, -, h8, -, -, h11, h12⟩ := hS.2.2.2.1 b hb
  unfold fX1_takesBlock fX1_takesBlock_57 fX1_takesBlock_58
  simp (disch := omega) only [ck_J, J_nn, freeA_spec N hK hS hR hm, freeB_spec N hK hS hR hm, cali_s, h8, h11, h12, J_lt, zk0, zk1]
  unfold tkB
  by_cases c1 : kRA K m - uA K ρ m < bA K b
  · rw [if_pos c1, decide_eq_false (by omega)]; rfl
  rw [if_neg c1, decide_eq_true (by omega : bA K b ≤ kRA K m - uA K ρ m)]
  by_cases c2 : kRB K m - uB K ρ m < bB K b
  · rw [if_pos c2, decide_eq_false (by omega)]; rfl
  rw [if_neg c2, decide_eq_true (by omega : bB K b ≤ kRB K m - uB K ρ m), (hR.2.1 m hm5).2.2.2]
  have key : (tw (fun g => ht K ρ m g) &&& (if kd K b = 1 then bitOf (kg K b) else 0) = 0) ↔ (!(kd K b == 1) || !(ht K ρ m (kg K b).toNat)) = true := by
    by_cases ek : kd K b = 1
    · have hg := (hK.2.2.2 b hb).2.2.2.2.2.2.2 (Or.inl ek)
      rw [if_pos ek, tw_and _ _ hg.1 hg.2]
      simp [ek]
    · rw [if_neg ek, (tw_z _).2.1]
      simp [ek]
  by_cases c3 : (!(kd K b == 1) || !(ht K ρ m (kg K b).toNat)) = true
  · rw [if_pos (key.mpr c3), c3]; rfl
  · rw [if_neg (fun q => c3 (key.mp q))]
    have : (!(kd K b == 1) || !(ht K ρ m (kg K b).toNat)) = false := by simpa using c3
    rw [this]
    rfl
/-- works of a block, those below j, on a machine -/
def shR (K : Kt) (ρ : Ro) (b : Nat) (o : Option Nat) (j : Nat) : Ro := fun v => if v < j ∧ v < kW K ∧ blk K v = b then o else ρ v
theorem shR_start {K : Kt} {ρ : Ro} {b : Nat} {o : Option Nat} : shR K ρ b o b = ρ := by
  funext v
  unfold shR
  rw [if_neg]
  intro h
  have := blk_le K v
  omega
theorem shR_step {K : Kt} {ρ : Ro} {b j : Nat} {o : Option Nat} (hj : j < kW K) : shR K ρ b o (j + 1) = if blk K j = b then rset (shR K ρ b o j) j o else shR K ρ b o j := by
  by_cases e : blk K j = b
  · rw [if_pos e]
    funext v
    unfold shR rset
    by_cases e2 : v = j
    · subst e2; simp [e, hj]
    · rw [if_neg e2]
      show (if v < j + 1 ∧ v < kW K ∧ blk K v = b then o else ρ v) = (if v < j ∧ v < kW K ∧ blk K v = b then o else ρ v)
      by_cases h : v < j ∧ v < kW K ∧ blk K v = b
      · rw [if_pos h, if_pos ⟨by omega, h.2⟩]
      · rw [if_neg h, if_neg (fun q => h ⟨by omega, q.2⟩)]
  · rw [if_neg e]
    funext v
    unfold shR
    by_cases h : v < j ∧ v < kW K ∧ blk K v = b
    · rw [if_pos h, if_pos ⟨by omega, h.2⟩]
    · rw [if_neg h, if_neg]
      intro q
      by_cases e2 : v = j
      · subst e2; exact e q.2.2
      · exact h ⟨by omega, q.2⟩
theorem shR_ok {K : Kt} {ρ : Ro} {b m j : Nat} (hρ : RoOk K ρ) (hm : m < kM K) : RoOk K (shR K ρ b (some m) j) := by
  intro w x h
  unfold shR at h
  by_cases e : w < j ∧ w < kW K ∧ blk K w = b
  · rw [if_pos e] at h; cases h; exact ⟨e.2.1, hm⟩
  · rw [if_neg e] at h; exact hρ w x h
theorem shR_okN {K : Kt} {ρ : Ro} {b j : Nat} (hρ : RoOk K ρ) : RoOk K (shR K ρ b none j) := by
  intro w x h
  unfold shR at h
  by_cases e : w < j ∧ w < kW K ∧ blk K w = b
  · rw [if_pos e] at h; cases h
  · rw [if_neg e] at h; exact hρ w x h
theorem twapart_sub {K : Kt} {ρ ρ1 : Ro} (hT : TwApart K ρ) (h : ∀ v x, ρ1 v = some x → ρ v = some x) : TwApart K ρ1 := fun v w m hvw ht h1 h2 => hT v w m hvw ht (h v m h1) (h w m h2)
theorem shR_tw {K : Kt} {ρ : Ro} {b m j : Nat} (hT : TwApart K ρ) (hT2 : TwApart K (shR K ρ b (some m) (kW K))) : TwApart K (shR K ρ b (some m) j) := by
  intro v w x hvw ht h1 h2
  have ht2 := twin_true.mp ht
  have bv : blk K v = v := blk_own (by omega)
  have bw : blk K w = w := blk_own (by omega)
  unfold shR at h1 h2
  by_cases e1 : v < j ∧ v < kW K ∧ blk K v = b
  · have e2 : ¬ (w < j ∧ w < kW K ∧ blk K w = b) := fun q => hvw (by rw [← bv, ← bw, e1.2.2, q.2.2])
    rw [if_pos e1] at h1
    rw [if_neg e2] at h2
    refine hT2 v w x hvw ht ?_ ?_
    · unfold shR; rw [if_pos ⟨e1.2.1, e1.2⟩]; exact h1
    · unfold shR
      rw [if_neg (fun q => hvw (by rw [← bv, ← bw, e1.2.2, q.2.2]))]
      exact h2
  · rw [if_neg e1] at h1
    by_cases e2 : w < j ∧ w < kW K ∧ blk K w = b
    · rw [if_pos e2] at h2
      refine hT2 v w x hvw ht ?_ ?_
      · unfold shR
        rw [if_neg (fun q => hvw (by rw [← bv, ← bw, e2.2.2, q.2.2]))]
        exact h1
      · unfold shR; rw [if_pos ⟨e2.2.1, e2.2⟩]; exact h2
    · rw [if_neg e2] at h2
      exact hT v w x hvw ht h1 h2
theorem shift_loop {r : Nat} {K : Kt} {ρ : Ro} {b m : Nat} (N : Nat) (hr : 13 ≤ r) (hK : KOk K) (hρ : RoOk K ρ) (hT : TwApart K ρ) (hT2 : TwApart K (shR K ρ b (some m) (kW K))) (hb : b < kW K) (hm : m < kM K) : ∀ (d j n : Nat) (σ : SS), j + d = kW K → d < n → StRep σ K → RowRep σ r K (shR K ρ b (some m) j) → ∃ σ1, lp (fX1_shift_2 N r) (fun _ _ _ _ => none) n (J b) (J m) (J j) σ = some σ1 ∧ RowRep σ1 r K (shR K ρ b (some m) (kW K)) ∧ Keep r (r + 5) σ σ1 := by
  have hW := hK.2.1
  have hM := hK.1
  intro d
  induction d with
  | zero =>
    intro j n σ hj hn hS hR
    obtain ⟨n, rfl⟩ : ∃ n', n = n' + 1 := ⟨n - 1, by omega⟩
    rw [lp_succ]
    unfold fX1_shift_2
    rw [hS.2.1, if_pos (by rw [J_le (by omega) (by omega) (by omega) (by omega)]; omega)]
    have : j = kW K := by omega
    subst this
    exact ⟨σ, rfl, hR, Keep.rfl⟩
  | succ d ih =>
    intro j n σ hj hn hS hR
    obtain ⟨n, rfl⟩ : ∃ n', n = n' + 1 := ⟨n - 1, by omega⟩
    have hjW : j < kW K := by omega
    obtain ⟨-, -, -, -, -, -, -, h10, -⟩ := hS.2.2.2.1 j hjW
    have hbj := blk_le K j
    rw [lp_succ]
    unfold fX1_shift_2 fX1_shift_37
    rw [hS.2.1, if_neg (by rw [J_le (by omega) (by omega) (by omega) (by omega)]; omega), ck_J (by omega) (by omega) (by omega), J_nn (by omega), h10, J1, J_add]
    have hs := shR_step (K := K) (ρ := ρ) (b := b) (o := some m) hjW
    by_cases e : blk K j = b
    · rw [if_pos (by rw [e])]
      rw [if_pos e] at hs
      obtain ⟨σ1, q1, R1, k1⟩ := remove_spec N hr hK hS hR (shR_ok hρ hm) (shR_tw hT hT2) hjW
      have hS1 : StRep σ1 K := hS.keep (fun k _ h2 => k1 k (by omega))
      obtain ⟨σ2, q2, R2, k2⟩ := put_spec N hr hK hS1 R1 hjW (by omega : m < 5) rset_self
      have hS2 : StRep σ2 K := hS1.keep (fun k _ h2 => k2 k (by omega))
      rw [q1, calv_s, q2, calv_s]
      have eR : rset (rset (shR K ρ b (some m) j) j none) j (some m) = shR K ρ b (some m) (j + 1) := by
        rw [hs]
        funext v
        by_cases e2 : v = j <;> simp [rset, e2]
      rw [eR] at R2
      obtain ⟨σ3, q3, R3, k3⟩ := ih (j + 1) n σ2 (by omega) (by omega) hS2 R2
      exact ⟨σ3, q3, R3, (k1.trans k2).trans k3⟩
    · rw [if_neg (by rw [J_eq (by omega) (by omega) (by omega) (by omega)]; omega)]
      rw [if_neg e] at hs
      rw [← hs] at hR
      exact ih (j + 1) n σ (by omega) (by omega) hS hR
theorem shift_spec {σ : SS} {r : Nat} {K : Kt} {ρ : Ro} {b m : Nat} {N : Nat} (hN : 10 ≤ N) (hr : 13 ≤ r) (hK : KOk K) (hS : StRep σ K) (hR : RowRep σ r K ρ) (hρ : RoOk K ρ) (hT : TwApart K ρ) (hT2 : TwApart K (shR K ρ b (some m) (kW K))) (hb : b < kW K) (hm : m < kM K) : ∃ σ1, fX1_shift N r (J b) (J m) σ = some σ1 ∧ RowRep σ1 r K (shR K ρ b (some m) (kW K)) ∧ Keep r (r + 5) σ σ1 := by
  have hW := hK.2.1
  exact shift_loop N hr hK hρ hT hT2 hb hm (kW K - b) b N σ (by omega) (by omega) hS (by rw [shR_start]; exact hR)
theorem removeBlock_loop {r : Nat} {K : Kt} {ρ : Ro} {b : Nat} (N : Nat) (hr : 13 ≤ r) (hK : KOk K) (hρ : RoOk K ρ) (hT : TwApart K ρ) (hb : b < kW K) : ∀ (d j n : Nat) (σ : SS), j + d = kW K → d < n → StRep σ K → RowRep σ r K (shR K ρ b none j) → ∃ σ1, lp (fX1_removeBlock_2 N r) (fun _ _ _ => none) n (J b) (J j) σ = some σ1 ∧ RowRep σ1 r K (shR K ρ b none (kW K)) ∧ Keep r (r + 5) σ σ1 := by
  have hW := hK.2.1
  have hM := hK.1
  have hsub : ∀ j v x, shR K ρ b none j v = some x → ρ v = some x := fun j v x h => by
    unfold shR at h
    by_cases e : v < j ∧ v < kW K ∧ blk K v = b
    · rw [if_pos e] at h; cases h
    · rw [if_neg e] at h; exact h
  intro d
  induction d with
  | zero =>
    intro j n σ hj hn hS hR
    obtain ⟨n, rfl⟩ : ∃ n', n = n' + 1 := ⟨n - 1, by omega⟩
    rw [lp_succ]
    unfold fX1_removeBlock_2
    rw [hS.2.1, if_pos (by rw [J_le (by omega) (by omega) (by omega) (by omega)]; omega)]
    have : j = kW K := by omega
    subst this
    exact ⟨σ, rfl, hR, Keep.rfl⟩
  | succ d ih =>
    intro j n σ hj hn hS hR
    obtain ⟨n, rfl⟩ : ∃ n', n = n' + 1 := ⟨n - 1, by omega⟩
    have hjW : j < kW K := by omega
    obtain ⟨-, -, -, -, -, -, -, h10, -⟩ := hS.2.2.2.1 j hjW
    have hbj := blk_le K j
    rw [lp_succ]
    unfold fX1_removeBlock_2 fX1_removeBlock_31
    rw [hS.2.1, if_neg (by rw [J_le (by omega) (by omega) (by omega) (by omega)]; omega), ck_J (by omega) (by omega) (by omega), J_nn (by omega), h10, J1, J_add]
    have hs := shR_step (K := K) (ρ := ρ) (b := b) (o := none) hjW
    by_cases e : blk K j = b
    · rw [if_pos (by rw [e])]
      rw [if_pos e] at hs
      obtain ⟨σ1, q1, R1, k1⟩ := remove_spec N hr hK hS hR (shR_okN hρ) (twapart_sub hT (hsub j)) hjW
      have hS1 : StRep σ1 K := hS.keep (fun k _ h2 => k1 k (by omega))
      rw [q1, calv_s]
      rw [← hs] at R1
      obtain ⟨σ3, q3, R3, k3⟩ := ih (j + 1) n σ1 (by omega) (by omega) hS1 R1
      exact ⟨σ3, q3, R3, k1.trans k3⟩
    · rw [if_neg (by rw [J_eq (by omega) (by omega) (by omega) (by omega)]; omega)]
      rw [if_neg e] at hs
      rw [← hs] at hR
      exact ih (j + 1) n σ (by omega) (by omega) hS hR
theorem removeBlock_spec {σ : SS} {r : Nat} {K : Kt} {ρ : Ro} {b : Nat} {N : Nat} (hN : 10 ≤ N) (hr : 13 ≤ r) (hK : KOk K) (hS : StRep σ K) (hR : RowRep σ r K ρ) (hρ : RoOk K ρ) (hT : TwApart K ρ) (hb : b < kW K) : ∃ σ1, fX1_removeBlock N r (J b) σ = some σ1 ∧ RowRep σ1 r K (shR K ρ b none (kW K)) ∧ Keep r (r + 5) σ σ1 := by
  have hW := hK.2.1
  exact removeBlock_loop N hr hK hρ hT hb (kW K - b) b N σ (by omega) (by omega) hS (by rw [shR_start]; exact hR)
