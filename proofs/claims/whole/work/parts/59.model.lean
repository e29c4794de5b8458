/-! the reference: what stands in it -/
def MdRep (τ : SS) (K : Kt) : Prop := τ 0 0 = J (kM K) ∧ τ 0 3 = J (kW K) ∧ (∀ m, m < kM K → τ 1 m = J (kRA K m) ∧ τ 2 m = J (kRB K m)) ∧ (∀ w, w < kW K → τ 3 w = J (kA K w) ∧ τ 4 w = J (kB K w) ∧ τ 5 w = J (kd K w) ∧ τ 6 w = J (kg K w))
def MdOv (τ : SS) (K : Kt) (o : Nat → Bool) : Prop := ∀ w, w < kW K → τ 8 w = bz (o w)
def OvOk (K : Kt) (o : Nat → Bool) : Prop := ∀ w, w < kW K → o w = true → kd K w = 4
/-- places as told in a row of the reference, of works that live -/
def MdAt (τ : SS) (K : Kt) (k : Nat) (h : Ro) : Prop := ∀ w m, w < kW K → h w = some m → τ k w = J (m : Int)
theorem MdRep.keep {τ τ1 : SS} {K : Kt} (q : MdRep τ K) (h0 : τ1 0 0 = τ 0 0) (h3 : τ1 0 3 = τ 0 3) (h : ∀ k, 1 ≤ k → k ≤ 6 → τ1 k = τ k) : MdRep τ1 K := by
  unfold MdRep at q ⊢
  rw [h0, h3, h 1 (by omega) (by omega), h 2 (by omega) (by omega), h 3 (by omega) (by omega), h 4 (by omega) (by omega), h 5 (by omega) (by omega), h 6 (by omega) (by omega)]
  exact q
theorem in_spec {τ : SS} (N : Nat) {a lo hi : Int} (h1 : -2147483648 ≤ a ∧ a < 2147483648) (h2 : -2147483648 ≤ lo ∧ lo < 2147483648) (h3 : -2147483648 ≤ hi ∧ hi < 2147483648) : fX6_in N (J a) (J lo) (J hi) τ = some (bz (decide (lo ≤ a) && decide (a ≤ hi)), τ) := by
  rw [fX6_in, fX6_in_14, fX6_in_15, fX6_in_15]
  have e1 := J_lt h1.1 h1.2 h2.1 h2.2
  have e2 := J_lt h3.1 h3.2 h1.1 h1.2
  by_cases c1 : a < lo
  · rw [if_pos (e1.mpr c1), decide_eq_false (by omega)]; rfl
  · rw [if_neg (fun q => c1 (e1.mp q)), decide_eq_true (by omega : lo ≤ a)]
    by_cases c2 : hi < a
    · rw [if_pos (e2.mpr c2), decide_eq_false (by omega)]; rfl
    · rw [if_neg (fun q => c2 (e2.mp q)), decide_eq_true (by omega : a ≤ hi)]; rfl
def lik (K : Kt) (w v k : Nat) : Bool := kd K w == k && kd K v == k && kg K w == kg K v
theorem isLike_spec {τ : SS} {K : Kt} {w v k : Nat} (N : Nat) (hK : KOk K) (hR : MdRep τ K) (hw : w < kW K) (hv : v < kW K) (hk : k ≤ 4) : fX6_isLike N (J w) (J v) (J k) τ = some (bz (lik K w v k), τ) := by
  have hW := hK.2.1
  have kw := hK.2.2.2 w hw
  have kv := hK.2.2.2 v hv
  obtain ⟨-, -, w5, w6⟩ := hR.2.2.2 w hw
  obtain ⟨-, -, v5, v6⟩ := hR.2.2.2 v hv
  rw [fX6_isLike, fX6_isLike_39, fX6_isLike_40, fX6_isLike_40]
  simp (disch := omega) only [ck_J, J_nn, w5, v5, w6, v6, zk0, zk1]
  have e1 := J_eq (a := (kd K w : Int)) (b := (k : Int)) (by omega) (by omega) (by omega) (by omega)
  have e2 := J_eq (a := (kd K v : Int)) (b := (k : Int)) (by omega) (by omega) (by omega) (by omega)
  have e3 := J_eq (a := kg K w) (b := kg K v) (by omega) (by omega) (by omega) (by omega)
  unfold lik
  by_cases c1 : kd K w = k
  · rw [if_pos (e1.mpr (by omega))]
    by_cases c2 : kd K v = k
    · rw [if_pos (e2.mpr (by omega))]
      by_cases c3 : kg K w = kg K v
      · rw [if_pos (e3.mpr c3)]; simp [c1, c2, c3, bz]
      · rw [if_neg (fun q => c3 (e3.mp q))]; simp [c1, c2, c3, bz]
    · rw [if_neg (fun q => c2 (by have := e2.mp q; omega))]; simp [c1, c2, bz]
  · rw [if_neg (fun q => c1 (by have := e1.mp q; omega))]; simp [c1, bz]
theorem blockOf_spec {τ : SS} {K : Kt} {o : Nat → Bool} {w N : Nat} (hN : 10 ≤ N) (hK : KOk K) (hR : MdRep τ K) (hO : MdOv τ K o) (ho : OvOk K o) (hw : w < kW K) : fX6_blockOf N (J w) τ = some (J (blk K w : Nat), τ) := by
  have hW := hK.2.1
  have key : ∀ (d j n : Nat), j + d = w → d < n → lp (fX6_blockOf_2 N) (fun _ _ _ => none) n (J w) (J j) τ = some (J (lfr (fun v => frnd K w v) d j : Nat), τ) := by
    intro d
    induction d with
    | zero =>
      intro j n hj hn
      obtain ⟨n, rfl⟩ : ∃ n', n = n' + 1 := ⟨n - 1, by omega⟩
      rw [lp_succ, fX6_blockOf_2, if_pos ((J_le (by omega) (by omega) (by omega) (by omega)).mpr (by omega)), fX6_blockOf_32]
      rfl
    | succ d ih =>
      intro j n hj hn
      obtain ⟨n, rfl⟩ : ∃ n', n = n' + 1 := ⟨n - 1, by omega⟩
      rw [lp_succ, fX6_blockOf_2, if_neg (fun q => by have := (J_le (by omega) (by omega) (by omega) (by omega)).mp q; omega), ck_J (by omega) (by omega) (by omega), J_nn (by omega), hO j (by omega)]
      unfold lfr
      cases co : o j with
      | true =>
        have hk4 := ho j (by omega) co
        have : frnd K w j = false := by simp [frnd, hk4]
        rw [if_neg (by decide), fX6_blockOf_26, J1, J_add, this, if_neg (by decide)]
        exact ih (j + 1) n (by omega) (by omega)
      | false =>
        rw [if_pos bz_f, show (2 : Int32) = J ((2 : Nat) : Int) from rfl, isLike_spec N hK hR hw (by omega) (by omega), cali_s]
        have e : lik K w j 2 = frnd K w j := rfl
        rw [e]
        cases cf : frnd K w j with
        | false =>
          rw [if_pos bz_f, fX6_blockOf_26, J1, J_add, if_neg (by decide)]
          exact ih (j + 1) n (by omega) (by omega)
        | true =>
          rw [if_neg (by decide), fX6_blockOf_32, if_pos rfl]
  have := key w 0 N (by omega) (by omega)
  exact this
def isB (K : Kt) (o : Nat → Bool) (w : Nat) : Bool := !(o w) && blk K w == w
theorem isBlock_spec {τ : SS} {K : Kt} {o : Nat → Bool} {w N : Nat} (hN : 10 ≤ N) (hK : KOk K) (hR : MdRep τ K) (hO : MdOv τ K o) (ho : OvOk K o) (hw : w < kW K) : fX6_isBlock N (J w) τ = some (bz (isB K o w), τ) := by
  have hW := hK.2.1
  have hb := blk_le K w
  rw [fX6_isBlock, hR.2.1, J1, J_sub, show (0 : Int32) = J 0 from rfl, in_spec N (by omega) (by omega) (by omega), cali_s, decide_eq_true (by omega : (0 : Int) ≤ (w : Int)), decide_eq_true (by omega : (w : Int) ≤ (kW K : Int) - 1)]
  rw [if_neg (by decide), ck_J (by omega) (by omega) (by omega), J_nn (by omega), hO w hw]
  unfold isB
  cases co : o w with
  | true => rw [if_neg (by decide), fX6_isBlock_36, fX6_isBlock_37]; rfl
  | false =>
    rw [if_pos (by rfl), blockOf_spec hN hK hR hO ho hw, cali_s]
    have e := J_eq (a := (blk K w : Int)) (b := (w : Int)) (by omega) (by omega) (by omega) (by omega)
    by_cases c : blk K w = w
    · rw [if_pos (e.mpr (by omega)), fX6_isBlock_37, c]; simp only [beq_self_eq_true]; rfl
    · rw [if_neg (fun q => c (by have := e.mp q; omega)), fX6_isBlock_36, fX6_isBlock_37]; simp [bz, zk, c]
