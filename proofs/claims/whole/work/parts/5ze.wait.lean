theorem run_spec2 {σ : SS} {K : Kt} {h : Ro} {g : Gl} {t : Int} {N : Nat} (hN : 10 ≤ N) (hK : KOk K) (hS : StRep σ K) (hH : RowRep σ 13 K h) (hh : RoOk K h) (hg : GlOk K g) (ht : -2147483648 ≤ t ∧ t < 2147483648) (h8 : σ 19 8 = J (g.1 : Int)) (h9 : g.1 = 0 ∨ g.1 = 1 → σ 19 9 = J (g.2.1 : Int)) (h10 : g.1 = 1 ∨ g.1 = 2 → σ 19 10 = J g.2.2.1) (h11 : g.1 = 1 → σ 19 11 = J g.2.2.2) : ∃ σ1, fX2_run N (J t) σ = some σ1 ∧ AcC σ1 K h (srch K h g t) ∧ Keep 19 26 σ σ1 ∧ GlRep σ1 g t := by
  have hW := hK.2.1
  rw [fX2_run]
  simp only [sg]
  generalize hs5 : stp (stp (stp (stp (stp σ 19 (upd (σ 19) 12 (J t))) 19 (upd (stp σ 19 (upd (σ 19) 12 (J t)) 19) 4 0)) 19 (upd (stp (stp σ 19 (upd (σ 19) 12 (J t))) 19 (upd (stp σ 19 (upd (σ 19) 12 (J t)) 19) 4 0) 19) 5 0)) 19 (upd (stp (stp (stp σ 19 (upd (σ 19) 12 (J t))) 19 (upd (stp σ 19 (upd (σ 19) 12 (J t)) 19) 4 0)) 19 (upd (stp (stp σ 19 (upd (σ 19) 12 (J t))) 19 (upd (stp σ 19 (upd (σ 19) 12 (J t)) 19) 4 0) 19) 5 0) 19) 6 (-1))) 19 (upd (stp (stp (stp (stp σ 19 (upd (σ 19) 12 (J t))) 19 (upd (stp σ 19 (upd (σ 19) 12 (J t)) 19) 4 0)) 19 (upd (stp (stp σ 19 (upd (σ 19) 12 (J t))) 19 (upd (stp σ 19 (upd (σ 19) 12 (J t)) 19) 4 0) 19) 5 0)) 19 (upd (stp (stp (stp σ 19 (upd (σ 19) 12 (J t))) 19 (upd (stp σ 19 (upd (σ 19) 12 (J t)) 19) 4 0)) 19 (upd (stp (stp σ 19 (upd (σ 19) 12 (J t))) 19 (upd (stp σ 19 (upd (σ 19) 12 (J t)) 19) 4 0) 19) 5 0) 19) 6 (-1)) 19) 7 (-1)) = s5
  have k5 : Keep 19 19 σ s5 := fun k hk => by rw [← hs5]; simp (disch := omega) only [stp_n]
  have f8 : ∀ i, 8 ≤ i → i ≠ 12 → s5 19 i = σ 19 i := fun i hi hi2 => by rw [← hs5]; simp (disch := omega) only [stp_s, upd_n]
  have f12 : s5 19 12 = J t := by rw [← hs5]; simp (disch := omega) only [stp_s, upd_n, upd_s]
  have f4 : s5 19 4 = 0 := by rw [← hs5]; simp (disch := omega) only [stp_s, upd_n, upd_s]
  have f5 : s5 19 5 = 0 := by rw [← hs5]; simp (disch := omega) only [stp_s, upd_n, upd_s]
  have f6 : s5 19 6 = -1 := by rw [← hs5]; simp (disch := omega) only [stp_s, upd_n, upd_s]
  have f7 : s5 19 7 = -1 := by rw [← hs5]; simp (disch := omega) only [stp_s, upd_n, upd_s]
  obtain ⟨s6, c1, c2, c3⟩ := clear_spec (σ := s5) (r := 21) K hW hN
  rw [c1, calv_s]
  have k6 : Keep 19 26 σ s6 := (k5.mono (by omega) (by omega)).trans (c3.mono (by omega) (by omega))
  have e19 : s6 19 = s5 19 := c3 19 (by omega)
  have hI : SI s6 K h emp g t (0, false, []) := by
    refine ⟨hS.keep (fun x _ _ => k6 x (by omega)), hH.keep (fun x _ _ => k6 x (by omega)), c2, ⟨?_, ?_, ?_, ?_, ?_⟩, ?_, ?_, ?_, ?_, ?_, ?_⟩
    · rw [e19, f8 8 (by omega) (by omega)]; exact h8
    · intro q; rw [e19, f8 9 (by omega) (by omega)]; exact h9 q
    · intro q; rw [e19, f8 10 (by omega) (by omega)]; exact h10 q
    · intro q; rw [e19, f8 11 (by omega) (by omega)]; exact h11 q
    · rw [e19, f12]
    · rw [e19, f4]; rfl
    · rw [e19, f5]; rfl
    · exact Nat.zero_le _
    · rw [e19, f6]; rfl
    · rw [e19, f7]; rfl
    · intro b hb; cases hb
  rw [goalHolds_spec N hK hI.1 hI.2.2.1 emp_ok hg hI.2.2.2.1, cali_s]
  unfold srch
  cases cg : gOK K g emp with
  | false =>
    rw [if_pos bz_f, fX2_run_45, if_neg (by decide)]
    exact ⟨s6, rfl, hI.2.2.2.2, k6, hI.2.2.2.1⟩
  | true =>
    rw [if_neg (by decide), if_pos rfl]
    obtain ⟨s7, g1, g2, g3⟩ := give_spec hN hK hh hg ht (kW K) 0 10 (by omega) (by omega) s6 emp (0, false, []) hI emp_ok emp_tw (fun _ _ => rfl) rfl
    rw [mvs_emp] at g1
    have g1' : fX2_giveFrom N 10 0 0 s6 = some s7 := g1
    rw [g1', calv_s, fX2_run_45]
    exact ⟨s7, rfl, g2.2.2.2.2, k6.trans g3, g2.2.2.2.1⟩
/-! longs as whole numbers -/
def LL (a : Int) : Int64 := Int64.ofInt a
theorem LL_add (a b : Int) : LL a + LL b = LL (a + b) := (Int64.ofInt_add a b).symm
theorem LL_mul (a b : Int) : LL a * LL b = LL (a * b) := (Int64.ofInt_mul a b).symm
theorem LL_toInt {a : Int} (h1 : -9223372036854775808 ≤ a) (h2 : a < 9223372036854775808) : (LL a).toInt = a := Int64.toInt_ofInt_of_le (by omega) (by omega)
theorem LL_lt {a b : Int} (h1 : -9223372036854775808 ≤ a) (h2 : a < 9223372036854775808) (h3 : -9223372036854775808 ≤ b) (h4 : b < 9223372036854775808) : LL a < LL b ↔ a < b := by rw [Int64.lt_iff_toInt_lt, LL_toInt h1 h2, LL_toInt h3 h4]
theorem LL_eq {a b : Int} (h1 : -9223372036854775808 ≤ a) (h2 : a < 9223372036854775808) (h3 : -9223372036854775808 ≤ b) (h4 : b < 9223372036854775808) : LL a = LL b ↔ a = b := by rw [← Int64.toInt_inj, LL_toInt h1 h2, LL_toInt h3 h4]
theorem LL_le {a b : Int} (h1 : -9223372036854775808 ≤ a) (h2 : a < 9223372036854775808) (h3 : -9223372036854775808 ≤ b) (h4 : b < 9223372036854775808) : LL a ≤ LL b ↔ a ≤ b := by rw [Int64.le_iff_toInt_le, LL_toInt h1 h2, LL_toInt h3 h4]
theorem J_LL {a : Int} (h1 : -2147483648 ≤ a) (h2 : a < 2147483648) : (J a).toInt64 = LL a := Int64.toInt_inj.mp (by rw [Int32.toInt_toInt64, J_toInt h1 h2, LL_toInt (by omega) (by omega)])
theorem L0 : (0 : Int64) = LL 0 := rfl
theorem Lm1 : (-1 : Int64) = LL (-1) := rfl
theorem Lm5 : (-5 : Int64) = LL (-5) := rfl
/-! waiting: what is weighed -/
def gE (m : Nat) : Gl := (0, m, 0, 0)
theorem gE_ok {K : Kt} {m : Nat} (hm : m < kM K) : GlOk K (gE m) := ⟨Nat.zero_le _, fun _ => hm, fun z => absurd z (show ¬ (0 : Nat) = 1 by decide), fun z => absurd z (show ¬ (0 : Nat) = 2 by decide)⟩
def oT (K : Kt) (h : Ro) (T : Int) (w : Nat) : Bool := ovf h w || (kd K w == 4 && decide (kg K w ≤ T))
theorem oT_lv {K : Kt} {h : Ro} {T : Int} : ∀ v, v < kW K → lvC K h T v = !(oT K h T v) := by
  intro v _
  unfold lvC oT ovf
  cases e : h v with
  | none => rfl
  | some x => cases (kd K v == 4 && decide (kg K v ≤ T)) <;> rfl
theorem oT_ok {K : Kt} {h : Ro} {T : Int} (q : HOk K h) : OvOk K (oT K h T) := fun w hw e => by
  unfold oT at e
  cases c : ovf h w with
  | true => exact q.ov w hw c
  | false =>
    rw [c, Bool.false_or, Bool.and_eq_true, beq_iff_eq] at e
    exact e.1
theorem oT_live {K : Kt} {h : Ro} {T : Int} : ∀ v, v < kW K → oT K h T v = false → (h v).isSome = true := fun v hv e => by
  unfold oT at e
  rw [Bool.or_eq_false_iff] at e
  exact ovf_live v hv e.1
abbrev Wt : Type := Option (Int × Int)
def wbest (o : Wt) (tk c : Int) : Wt := match o with
  | none => some (tk, c)
  | some x => if c < x.2 ∨ (c = x.2 ∧ tk < x.1) then some (tk, c) else some x
def wnw (K : Kt) (h : Ro) (p t T : Int) (b : Option Ro) (o : Wt) : Wt := match b with
  | none => o
  | some b => wbest o (T - t) ((T - t) * p + cst K h b (kW K))
def wac (K : Kt) (h : Ro) (p t T : Int) (A : Ac) (o : Wt) : Bool × Wt := (A.2.1, if A.2.1 = true then o else wnw K h p t T (bestOf (mvs K h) A.2.2) o)
def wst (K : Kt) (h : Ro) (m : Nat) (p t T : Int) (o : Wt) : Bool × Wt := wac K h p t T (srch K h (gE m) T) o
def ws (K : Kt) (h : Ro) (m : Nat) (p t : Int) : Nat → Bool × Wt
  | 0 => wst K h m p t t none
  | j + 1 => if (ws K h m p t j).1 = true then ws K h m p t j else if ((h j).isSome && kd K j == 4) = true then wst K h m p t (kg K j) (ws K h m p t j).2 else ws K h m p t j
def wres (s : Bool × Wt) : Int32 := if s.1 = true then J (-5) else match s.2 with
  | none => J (-1)
  | some x => J x.1
theorem ws_stop {K : Kt} {h : Ro} {m : Nat} {p t : Int} {j : Nat} (e : (ws K h m p t j).1 = true) : ∀ d, ws K h m p t (j + d) = ws K h m p t j := by
  intro d
  induction d with
  | zero => rfl
  | succ d ih =>
    show ws K h m p t (j + d + 1) = _
    rw [ws, ih, if_pos e]
def wB (o : Wt) : Prop := match o with
  | none => True
  | some x => 0 ≤ x.1 ∧ x.1 < 2147483648 ∧ 0 ≤ x.2 ∧ x.2 < 4611686018427387904
theorem cst_bd {K : Kt} (hK : KOk K) {h π : Ro} {n : Nat} : 0 ≤ cst K h π n ∧ cst K h π n ≤ n * 16000 := by
  have := sm_bd (n := n) (f := fun w => if mvd K h π w = true then bA K w + bB K w else 0) (c := 16000) (fun w _ => by
    have := bA_bd hK w
    show 0 ≤ (if mvd K h π w = true then bA K w + bB K w else 0) ∧ (if mvd K h π w = true then bA K w + bB K w else 0) ≤ 16000
    by_cases c : mvd K h π w = true
    · rw [if_pos c]; omega
    · rw [if_neg c]; omega)
  exact this
theorem wC_bd {K : Kt} (hK : KOk K) {h b : Ro} {p t T : Int} (ht : 0 ≤ t ∧ t ≤ T ∧ T < 2147483648) (hp : 0 ≤ p ∧ p ≤ 1000) : 0 ≤ (T - t) * p ∧ (T - t) * p ≤ 2147483647000 ∧ 0 ≤ cst K h b (kW K) ∧ cst K h b (kW K) ≤ 128000 := by
  have h1 := cst_bd (h := h) (π := b) (n := kW K) hK
  have h2 := hK.2.1
  have h3 : 0 ≤ (T - t) * p := Int.mul_nonneg (by omega) hp.1
  have h4 : (T - t) * p ≤ 2147483647 * 1000 := Int.mul_le_mul (by omega) hp.2 hp.1 (by decide)
  omega
theorem wbest_B {o : Wt} {tk c : Int} (ho : wB o) (h : 0 ≤ tk ∧ tk < 2147483648 ∧ 0 ≤ c ∧ c < 4611686018427387904) : wB (wbest o tk c) := by
  cases o with
  | none => exact h
  | some x =>
    unfold wbest
    dsimp only
    by_cases q : c < x.2 ∨ (c = x.2 ∧ tk < x.1)
    · rw [if_pos q]; exact h
    · rw [if_neg q]; exact ho
theorem wst_B {K : Kt} {h : Ro} {m : Nat} {p t T : Int} {o : Wt} (hK : KOk K) (ht : 0 ≤ t ∧ t ≤ T ∧ T < 2147483648) (hp : 0 ≤ p ∧ p ≤ 1000) (ho : wB o) : wB (wst K h m p t T o).2 := by
  show wB (if (srch K h (gE m) T).2.1 = true then o else wnw K h p t T (bestOf (mvs K h) (srch K h (gE m) T).2.2) o)
  by_cases c : (srch K h (gE m) T).2.1 = true
  · rw [if_pos c]; exact ho
  · rw [if_neg c]
    cases bestOf (mvs K h) (srch K h (gE m) T).2.2 with
    | none => exact ho
    | some b =>
      have := wC_bd (h := h) (b := b) hK ht hp
      exact wbest_B ho ⟨by omega, by omega, by omega, by omega⟩
theorem ws_B {K : Kt} {h : Ro} {m : Nat} {p t : Int} (hK : KOk K) (ht : 0 ≤ t ∧ t < 2147483648) (hp : 0 ≤ p ∧ p ≤ 1000) (hl : ∀ w, (h w).isSome = true → kd K w = 4 → t < kg K w) : ∀ j, j ≤ kW K → wB (ws K h m p t j).2 := by
  intro j
  induction j with
  | zero => intro _; exact wst_B hK ⟨ht.1, Int.le_refl _, ht.2⟩ hp trivial
  | succ j ih =>
    intro hj
    have h1 := ih (by omega)
    rw [ws]
    by_cases c1 : (ws K h m p t j).1 = true
    · rw [if_pos c1]; exact h1
    · rw [if_neg c1]
      by_cases c2 : ((h j).isSome && kd K j == 4) = true
      · rw [if_pos c2]
        rw [Bool.and_eq_true, beq_iff_eq] at c2
        have := hl j c2.1 c2.2
        have := (hK.2.2.2 j (by omega)).2.2.2.2.2.2.1
        exact wst_B hK ⟨ht.1, by omega, by omega⟩ hp h1
      · rw [if_neg c2]; exact h1
/-! the class's side -/
def WC (σ : SS) (o : Wt) : Prop := match o with
  | none => σ 39 3 = J (-1)
  | some x => σ 39 3 = J x.1 ∧ pk (σ 39 4) (σ 39 5) = LL x.2
theorem WC.keep {σ σ1 : SS} {o : Wt} (q : WC σ o) (h : σ1 39 = σ 39) : WC σ1 o := by
  unfold WC at q ⊢
  rw [h]
  exact q
def KeepV (σ σ1 : SS) : Prop := ∀ k, (k < 19 ∨ 26 < k) → k ≠ 39 → σ1 k = σ k
theorem KeepV.trans {σ σ1 σ2 : SS} (h : KeepV σ σ1) (h1 : KeepV σ1 σ2) : KeepV σ σ2 := fun k a b => (h1 k a b).trans (h k a b)
theorem w108 {σ1 : SS} {N : Nat} {tk C : Int} : ∃ σ2, fX4_weigh_108 N (J tk) (LL C) σ1 = some (bz false, σ2) ∧ WC σ2 (some (tk, C)) ∧ (∀ k, k ≠ 39 → σ2 k = σ1 k) := by
  rw [fX4_weigh_108, sg, sg, fX4_weigh_119, zk0]
  refine ⟨_, rfl, ⟨?_, ?_⟩, fun k hk => ?_⟩
  · simp (disch := omega) only [stp_s, upd_n, upd_s]
  · simp (disch := omega) only [stp_s, upd_n, upd_s]
    exact pk_hl _
  · simp (disch := omega) only [stp_n]
theorem cweigh_spec {σ : SS} {K : Kt} {h : Ro} {m N : Nat} {p t T : Int} {o : Wt} (hN : 20 ≤ N) (hK : KOk K) (hH : HOk K h) (hm : m < kM K) (ht : 0 ≤ t ∧ t ≤ T ∧ T < 2147483648) (hp : 0 ≤ p ∧ p ≤ 1000) (hS : StRep σ K) (hR : RowRep σ 13 K h) (h8 : σ 19 8 = J 0) (h9 : σ 19 9 = J (m : Int)) (hc : WC σ o) (hb : wB o) : ∃ σ1, fX4_weigh N (J T) (J (T - t)) (J p) σ = some (bz (wst K h m p t T o).1, σ1) ∧ WC σ1 (wst K h m p t T o).2 ∧ σ1 19 8 = J 0 ∧ σ1 19 9 = J (m : Int) ∧ KeepV σ σ1 := by
  obtain ⟨σ1, c1, c2, c3, c4⟩ := run_spec2 (σ := σ) (g := gE m) (t := T) (h := h) (N := N) (by omega) hK hS hR hH.1 (gE_ok hm) (by omega) h8 (fun _ => h9) (fun z => absurd z (show ¬ ((0 : Nat) = 1 ∨ (0 : Nat) = 2) by decide)) (fun z => absurd z (show ¬ (0 : Nat) = 1 by decide))
  have leaf := srchM_leaf (K := K) (o := oT K h T) (h := h) (g := gE m) hK (oT_ok hH)
  rw [← srch_eq (o := oT K h T) (t := T) oT_lv] at leaf
  have hS1 : StRep σ1 K := hS.keep (fun x _ _ => c3 x (by omega))
  have hR1 : RowRep σ1 13 K h := hR.keep (fun x _ _ => c3 x (by omega))
  have k1 : KeepV σ σ1 := fun k a _ => c3 k (by omega)
  have g8 : σ1 19 8 = J 0 := c4.1
  have g9 : σ1 19 9 = J (m : Int) := c4.2.1 (Or.inl rfl)
  have hc1 : WC σ1 o := hc.keep (c3 39 (by omega))
  rw [fX4_weigh, c1, calv_s]
  unfold wst
  generalize srch K h (gE m) T = A at c2 leaf
  show ∃ σ2, _ = some (bz A.2.1, σ2) ∧ WC σ2 (if A.2.1 = true then o else wnw K h p t T (bestOf (mvs K h) A.2.2) o) ∧ _
  have e29 : fX4_weigh_29 N σ1 = some (bz A.2.1, σ1) := by
    rw [fX4_weigh_29, c2.2.1]
    cases A.2.1 <;> rfl
  rw [c2.2.1]
  cases hsp : A.2.1 with
  | true =>
    rw [hsp] at e29
    rw [if_neg (show ¬ bz true = (0 : Int32) by decide), if_pos rfl]
    exact ⟨σ1, e29, hc1, g8, g9, k1⟩
  | false =>
    rw [hsp] at e29
    rw [if_pos bz_f, if_neg (show ¬ false = true by decide), c2.2.2.2.1]
    have hm1 := wv_m1 (wt := mvs K h) (o := bestOf (mvs K h) A.2.2) (fun b => mvs_bd)
    cases hbo : bestOf (mvs K h) A.2.2 with
    | none =>
      rw [hbo] at hm1
      rw [if_pos (hm1.mpr rfl)]
      exact ⟨σ1, e29, hc1, g8, g9, k1⟩
    | some b =>
      rw [hbo] at hm1
      have hlf := leaf b (bestOf_mem hbo)
      have hbd := wC_bd (h := h) (b := b) hK ht hp
      rw [if_neg (fun z => by have := hm1.mp z; cases this), costTo_spec (π := b) (by omega) hK hS1 hR1 hH.1 (c2.2.2.2.2.2 b hbo) hlf.1, cali_s, J_LL (by omega) (by omega), J_LL (by omega) (by omega), J_LL (by omega) (by omega), LL_mul, LL_add]
      show ∃ σ2, _ ∧ WC σ2 (wbest o (T - t) ((T - t) * p + cst K h b (kW K))) ∧ _
      generalize hC : (T - t) * p + cst K h b (kW K) = C
      have hCb : 0 ≤ C ∧ C < 4611686018427387904 := by omega
      obtain ⟨σ2, w1, w2, w3⟩ := w108 (σ1 := σ1) (N := N) (tk := T - t) (C := C)
      have yes : wbest o (T - t) C = some (T - t, C) → ∃ σ2, fX4_weigh_108 N (J (T - t)) (LL C) σ1 = some (bz false, σ2) ∧ WC σ2 (wbest o (T - t) C) ∧ σ2 19 8 = J 0 ∧ σ2 19 9 = J (m : Int) ∧ KeepV σ σ2 := by
        intro e
        rw [e]
        exact ⟨σ2, w1, w2, by rw [w3 19 (by omega)]; exact g8, by rw [w3 19 (by omega)]; exact g9, fun k a a2 => by rw [w3 k a2]; exact k1 k a a2⟩
      cases o with
      | none =>
        have e3 : σ1 39 3 = -1 := hc1
        have all : ∀ x, ∃ σ2, fX4_weigh_93 N (J (T - t)) (LL C) x σ1 = some (bz false, σ2) ∧ WC σ2 (wbest none (T - t) C) ∧ σ2 19 8 = J 0 ∧ σ2 19 9 = J (m : Int) ∧ KeepV σ σ2 := by
          intro x
          rw [fX4_weigh_93, if_pos e3]
          exact yes rfl
        rw [fX4_weigh_88, fX4_weigh_92]
        by_cases d1 : lg_cmp (LL C) (pk (σ1 39 4) (σ1 39 5)) < 0
        · rw [if_pos d1]; exact all 1
        · rw [if_neg d1]
          by_cases d2 : lg_cmp (LL C) (pk (σ1 39 4) (σ1 39 5)) = 0
          · rw [if_pos d2]
            by_cases d3 : σ1 39 3 ≤ J (T - t)
            · rw [if_pos d3]; exact all 0
            · rw [if_neg d3]; exact all 1
          · rw [if_neg d2]; exact all 0
      | some x =>
        obtain ⟨tk0, c0⟩ := x
        obtain ⟨b1, b2, b3, b4⟩ := hb
        dsimp only at b1 b2 b3 b4
        obtain ⟨e3, e4⟩ := hc1
        dsimp only at e3 e4
        have nm : J tk0 = (-1 : Int32) ↔ tk0 = -1 := by rw [Jm1]; exact J_eq (a := tk0) (b := -1) (by omega) (by omega) (by omega) (by omega)
        have ne : ¬ σ1 39 3 = -1 := fun z => by
          rw [e3] at z
          have := nm.mp z
          omega
        have clt := LL_lt (a := C) (b := c0) (by omega) (by omega) (by omega) (by omega)
        have ceq := LL_eq (a := C) (b := c0) (by omega) (by omega) (by omega) (by omega)
        have cle := J_le (a := tk0) (b := T - t) (by omega) (by omega) (by omega) (by omega)
        have y93 : (C < c0 ∨ (C = c0 ∧ T - t < tk0)) → ∃ σ2, fX4_weigh_93 N (J (T - t)) (LL C) 1 σ1 = some (bz false, σ2) ∧ WC σ2 (wbest (some (tk0, c0)) (T - t) C) ∧ σ2 19 8 = J 0 ∧ σ2 19 9 = J (m : Int) ∧ KeepV σ σ2 := by
          intro q
          rw [fX4_weigh_93, if_neg ne, if_neg (by decide)]
          exact yes (if_pos q)
        have n93 : ¬ (C < c0 ∨ (C = c0 ∧ T - t < tk0)) → ∃ σ2, fX4_weigh_93 N (J (T - t)) (LL C) 0 σ1 = some (bz false, σ2) ∧ WC σ2 (wbest (some (tk0, c0)) (T - t) C) ∧ σ2 19 8 = J 0 ∧ σ2 19 9 = J (m : Int) ∧ KeepV σ σ2 := by
          intro q
          have e : wbest (some (tk0, c0)) (T - t) C = some (tk0, c0) := if_neg q
          rw [fX4_weigh_93, if_neg ne, if_pos rfl, fX4_weigh_119, zk0, e]
          exact ⟨σ1, rfl, ⟨e3, e4⟩, g8, g9, k1⟩
        rw [e4, e3, fX4_weigh_88, fX4_weigh_92]
        by_cases d1 : C < c0
        · rw [if_pos ((lg_cmp_lt _ _).mpr (clt.mpr d1))]
          exact y93 (Or.inl d1)
        · rw [if_neg (fun z => d1 (clt.mp ((lg_cmp_lt _ _).mp z)))]
          by_cases d2 : C = c0
          · rw [if_pos ((lg_cmp_eq _ _).mpr (ceq.mpr d2))]
            by_cases d3 : tk0 ≤ T - t
            · rw [if_pos (cle.mpr d3)]
              exact n93 (by omega)
            · rw [if_neg (fun z => d3 (cle.mp z))]
              exact y93 (by omega)
          · rw [if_neg (fun z => d2 (ceq.mp ((lg_cmp_eq _ _).mp z)))]
            exact n93 (by omega)
theorem least_spec {σ : SS} {K : Kt} {h : Ro} {m N : Nat} {p t : Int} (hN : 20 ≤ N) (hK : KOk K) (hH : HOk K h) (hm : m < kM K) (ht : 0 ≤ t ∧ t < 2147483648) (hp : 0 ≤ p ∧ p ≤ 1000) (hl : ∀ w, (h w).isSome = true → kd K w = 4 → t < kg K w) (hS : StRep σ K) (hR : RowRep σ 13 K h) : ∃ σ1, fX4_least N (J (m : Int)) (J t) (J p) σ = some (wres (ws K h m p t (kW K)), σ1) ∧ KeepV σ σ1 := by
  have hW := hK.2.1
  have hM := hK.1
  obtain ⟨σ1, a1, a2, a3, -, -, a6⟩ := aim_spec (σ := σ) N 0 (J (m : Int)) 0 0
  rw [fX4_least, a1, calv_s, sg]
  generalize hσ2 : stp σ1 39 (upd (σ1 39) 3 (-1)) = σ2
  have k2 : KeepV σ σ2 := fun k b c => by rw [← hσ2, stp_n c, a6 k (by omega)]
  have f3 : WC σ2 none := by
    show σ2 39 3 = J (-1)
    rw [← hσ2, stp_s, upd_s]
    rfl
  have f8 : σ2 19 8 = J 0 := by rw [← hσ2, stp_n (by omega), a2]; rfl
  have f9 : σ2 19 9 = J (m : Int) := by rw [← hσ2, stp_n (by omega), a3]
  obtain ⟨σ3, w1, w2, w3, w4, w5⟩ := cweigh_spec (σ := σ2) (t := t) (T := t) (o := none) hN hK hH hm ⟨ht.1, Int.le_refl _, ht.2⟩ hp (hS.keep (fun x _ _ => k2 x (by omega) (by omega))) (hR.keep (fun x _ _ => k2 x (by omega) (by omega))) f8 f9 f3 trivial
  rw [Int.sub_self] at w1
  have w1' : fX4_weigh N (J t) 0 (J p) σ2 = some (bz (wst K h m p t t none).1, σ3) := w1
  rw [w1', cali_s]
  have key : ∀ (d j n : Nat) (σ4 : SS), j + d = kW K → d < n → KeepV σ σ4 → WC σ4 (ws K h m p t j).2 → σ4 19 8 = J 0 → σ4 19 9 = J (m : Int) → ∃ σ5, lp (fX4_least_28 N) (fun _ _ _ _ _ => none) n (J t) (J p) (bz (ws K h m p t j).1) (J (j : Int)) σ4 = some (wres (ws K h m p t (kW K)), σ5) ∧ KeepV σ σ5 := by
    intro d
    induction d with
    | zero =>
      intro j n σ4 hj hn hk hw h8 h9
      obtain ⟨n, rfl⟩ : ∃ n', n = n' + 1 := ⟨n - 1, by omega⟩
      have ej : j = kW K := by omega
      subst ej
      rw [lp_succ, fX4_least_28, hk 1 (by omega) (by omega), hS.2.1, if_pos ((J_le (by omega) (by omega) (by omega) (by omega)).mpr (by omega)), fX4_least_108, fX4_least_122, fX4_least_122]
      unfold wres
      cases e1 : (ws K h m p t (kW K)).1 with
      | true =>
        rw [if_neg (by decide), if_pos rfl]
        exact ⟨σ4, rfl, hk⟩
      | false =>
        rw [if_pos bz_f, if_neg (by decide)]
        refine ⟨σ4, ?_, hk⟩
        cases e2 : (ws K h m p t (kW K)).2 with
        | none =>
          rw [e2] at hw
          have e3 : σ4 39 3 = J (-1) := hw
          rw [e3]
        | some x =>
          rw [e2] at hw
          have e3 : σ4 39 3 = J x.1 := hw.1
          rw [e3]
    | succ d ih =>
      intro j n σ4 hj hn hk hw h8 h9
      obtain ⟨n, rfl⟩ : ∃ n', n = n' + 1 := ⟨n - 1, by omega⟩
      have hjW : j < kW K := by omega
      have kj := hK.2.2.2 j hjW
      have hS4 : StRep σ4 K := hS.keep (fun x _ _ => hk x (by omega) (by omega))
      have hR4 : RowRep σ4 13 K h := hR.keep (fun x _ _ => hk x (by omega) (by omega))
      obtain ⟨-, -, s6, -, -, -, s9, -⟩ := hS4.2.2.2.1 j hjW
      have es : ws K h m p t (j + 1) = if (ws K h m p t j).1 = true then ws K h m p t j else if ((h j).isSome && kd K j == 4) = true then wst K h m p t (kg K j) (ws K h m p t j).2 else ws K h m p t j := rfl
      rw [lp_succ, fX4_least_28, hS4.2.1, if_neg (fun q => by have := (J_le (by omega) (by omega) (by omega) (by omega)).mp q; omega)]
      cases e1 : (ws K h m p t j).1 with
      | true =>
        have := ws_stop e1 (d + 1)
        rw [show j + (d + 1) = kW K by omega] at this
        rw [if_neg (by decide), fX4_least_108, if_neg (by decide), fX4_least_122, this]
        unfold wres
        rw [if_pos e1]
        exact ⟨σ4, rfl, hk⟩
      | false =>
        rw [e1, if_neg (by decide)] at es
        rw [if_pos bz_f, ck_J (by omega) (by omega) (by omega), J_nn (by omega), hR4.1 j (by omega)]
        have skip : ((h j).isSome && kd K j == 4) = false → ∃ σ5, fX4_least_102 N (lp (fX4_least_28 N) (fun _ _ _ _ _ => none) n) (J t) (J p) (bz false) (J (j : Int)) σ4 = some (wres (ws K h m p t (kW K)), σ5) ∧ KeepV σ σ5 := by
          intro z
          rw [z, if_neg (by decide)] at es
          have := ih (j + 1) n σ4 (by omega) (by omega) hk (by rw [es]; exact hw) h8 h9
          rw [es, e1] at this
          rw [fX4_least_102, J1, J_add]
          exact this
        cases hj0 : h j with
        | none =>
          rw [if_pos (show rv none = (-1 : Int32) from rfl)]
          exact skip (by rw [hj0]; rfl)
        | some x =>
          have hxM := (hH.1 j x hj0).2
          have cx := J_eq (a := (x : Int)) (b := -1) (by omega) (by omega) (by omega) (by omega)
          have c4 : J (kd K j : Int) = (4 : Int32) ↔ (kd K j : Int) = 4 := J_eq (a := (kd K j : Int)) (b := 4) (by omega) (by omega) (by omega) (by omega)
          rw [if_neg (show ¬ rv (some x) = (-1 : Int32) from fun z => by have := cx.mp z; omega), ck_J (by omega) (by omega) (by omega), s6]
          by_cases c : kd K j = 4
          · have hlt := hl j (by rw [hj0]; rfl) c
            have z : ((h j).isSome && kd K j == 4) = true := by rw [hj0, c]; rfl
            rw [z, if_pos rfl] at es
            rw [if_pos (c4.mpr (by omega)), ck_J (by omega) (by omega) (by omega), ck_J (by omega) (by omega) (by omega), s9 c, J_sub]
            obtain ⟨σ5, v1, v2, v3, v4, v5⟩ := cweigh_spec (σ := σ4) (t := t) (T := kg K j) hN hK hH hm ⟨ht.1, by omega, by omega⟩ hp hS4 hR4 h8 h9 hw (ws_B hK ht hp hl j (by omega))
            rw [← es] at v1 v2
            rw [v1, cali_s, fX4_least_102, J1, J_add]
            exact ih (j + 1) n σ5 (by omega) (by omega) (hk.trans v5) v2 v3 v4
          · rw [if_neg (fun z => c (by have := c4.mp z; omega))]
            exact skip (by simp [c])
  exact key (kW K) 0 N σ3 (by omega) (by omega) (k2.trans w5) w2 w3 w4
