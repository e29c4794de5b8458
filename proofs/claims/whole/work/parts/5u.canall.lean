def mN (K : Kt) (h π : Ro) : Nat := (gb (mvd K h π) (kW K)).1
def mB (K : Kt) (h π : Ro) : Nat → Nat := (gb (mvd K h π) (kW K)).2
theorem mvc_none {K : Kt} {h π : Ro} : mvc K h π none = mvd K h π := by
  funext w
  unfold mvc
  rfl
theorem mN_le {K : Kt} {h π : Ro} (hK : KOk K) : mN K h π ≤ 8 := by
  have := (gb_spec (mvd K h π) (kW K)).1
  have := hK.2.1
  unfold mN
  omega
theorem mB_ok {K : Kt} {h π : Ro} {k : Nat} (hk : k < mN K h π) : mB K h π k < kW K ∧ blk K (mB K h π k) = mB K h π k ∧ ∃ x y, h (mB K h π k) = some x ∧ π (mB K h π k) = some y ∧ y ≠ x := by
  have := (gb_spec (mvd K h π) (kW K)).2.1 k hk
  exact ⟨this.1, mvd_true this.2⟩
/-- what of the reference stands while orders are looked for -/
def MB (τ : SS) (K : Kt) (h π : Ro) : Prop := MdRep τ K ∧ MdOv τ K (ovf h) ∧ MdAt τ K 7 h ∧ MdPl τ K π ∧ MRep τ (mN K h π) (mB K h π)
def KeepN (τ τ1 : SS) : Prop := ∀ x, x ≠ 13 → x ≠ 14 → τ1 x = τ x
theorem KeepN.trans {τ τ1 τ2 : SS} (h : KeepN τ τ1) (h1 : KeepN τ1 τ2) : KeepN τ τ2 := fun x a b => (h1 x a b).trans (h x a b)
theorem MB.keep {τ τ1 : SS} {K : Kt} {h π : Ro} (q : MB τ K h π) (k : KeepN τ τ1) : MB τ1 K h π := by
  obtain ⟨q1, q2, q3, q4, q5⟩ := q
  refine ⟨q1.keep (by rw [k 0 (by omega) (by omega)]) (by rw [k 0 (by omega) (by omega)]) (fun x a b => k x (by omega) (by omega)), fun w hw => ?_, fun w m hw hm => ?_, fun w hw => ?_, ?_⟩
  · rw [k 8 (by omega) (by omega)]; exact q2 w hw
  · rw [k 7 (by omega) (by omega)]; exact q3 w m hw hm
  · rw [k 11 (by omega) (by omega)]; exact q4 w hw
  · unfold MRep at q5 ⊢
    rw [k 0 (by omega) (by omega), k 12 (by omega) (by omega)]
    exact q5
theorem listMoves_spec {k : Nat} {σ τ : SS} {K : Kt} {h : Ro} {t : Int} {π : Ro} {N : Nat} (hN : 20 ≤ N) (q : RelX k σ τ K h t true π) : ∃ τ1, fX6_listMoves N τ = some τ1 ∧ MB τ1 K h π ∧ (∀ x, x ≠ 0 → x ≠ 12 → τ1 x = τ x) ∧ ∀ i, i ≠ 23 → τ1 0 i = τ 0 i := by
  obtain ⟨q1, q2, q3, q4, q5, q6, q7, -, -, q10⟩ := q
  have hW := q1.2.1
  have hM := q1.1
  obtain ⟨z1, z2, z3⟩ := q10 rfl
  have key : ∀ (d j n : Nat) (τ2 : SS), j + d = kW K → d < n → MRep τ2 (gb (mvd K h π) j).1 (gb (mvd K h π) j).2 → (∀ x, x ≠ 0 → x ≠ 12 → τ2 x = τ x) → (∀ i, i ≠ 23 → τ2 0 i = τ 0 i) → ∃ τ1, lp (fX6_listMoves_7 N) (fun _ _ => none) n (J (j : Int)) τ2 = some τ1 ∧ MRep τ1 (mN K h π) (mB K h π) ∧ (∀ x, x ≠ 0 → x ≠ 12 → τ1 x = τ x) ∧ ∀ i, i ≠ 23 → τ1 0 i = τ 0 i := by
    intro d
    induction d with
    | zero =>
      intro j n τ2 hj hn hm h1 h2
      obtain ⟨n, rfl⟩ : ∃ n', n = n' + 1 := ⟨n - 1, by omega⟩
      rw [lp_succ, fX6_listMoves_7, h2 3 (by omega), q5.2.1, if_pos ((J_le (by omega) (by omega) (by omega) (by omega)).mpr (by omega))]
      have : j = kW K := by omega
      subst this
      exact ⟨τ2, rfl, hm, h1, h2⟩
    | succ d ih =>
      intro j n τ2 hj hn hm h1 h2
      obtain ⟨n, rfl⟩ : ∃ n', n = n' + 1 := ⟨n - 1, by omega⟩
      have hjW : j < kW K := by omega
      have hR2 : MdRep τ2 K := q5.keep (h2 0 (by omega)) (h2 3 (by omega)) (fun k a b => h1 k (by omega) (by omega))
      have hO2 : MdOv τ2 K (ovf h) := fun w hw => by rw [h1 8 (by omega) (by omega)]; exact q6 w hw
      have no : mvd K h π j = false → ∃ τ1, fX6_listMoves_58 N (lp (fX6_listMoves_7 N) (fun _ _ => none) n) (J (j : Int)) τ2 = some τ1 ∧ MRep τ1 (mN K h π) (mB K h π) ∧ (∀ x, x ≠ 0 → x ≠ 12 → τ1 x = τ x) ∧ ∀ i, i ≠ 23 → τ1 0 i = τ 0 i := by
        intro z
        have eg : gb (mvd K h π) (j + 1) = gb (mvd K h π) j := by rw [gb, z, if_neg (by decide)]
        rw [fX6_listMoves_58, J1, J_add]
        exact ih (j + 1) n τ2 (by omega) (by omega) (by rw [eg]; exact hm) h1 h2
      rw [lp_succ, fX6_listMoves_7, h2 3 (by omega), q5.2.1, if_neg (fun q => by have := (J_le (by omega) (by omega) (by omega) (by omega)).mp q; omega), isBlock_spec (by omega) q1 hR2 hO2 q2.ov hjW, cali_s]
      cases eb : isB K (ovf h) j with
      | false =>
        rw [if_pos (show bz false = (0 : Int32) from rfl)]
        refine no ?_
        cases e : mvd K h π j with
        | false => rfl
        | true =>
          obtain ⟨m1, x, y, m2, -⟩ := mvd_true e
          unfold isB at eb
          rw [ovf_some m2, m1] at eb
          simp at eb
      | true =>
        obtain ⟨hbb, x, hx⟩ := isB_true eb
        have hπs := (z1.2.2.2.2.1 j).mpr (by rw [hx]; rfl)
        obtain ⟨y, hy⟩ : ∃ y, π j = some y := by
          cases z : π j with
          | none => rw [z] at hπs; cases hπs
          | some y => exact ⟨y, rfl⟩
        have hxM := (q2.1 j x hx).2
        have hyM := (z1.1 j y hy).2
        rw [if_neg (show ¬ bz true = (0 : Int32) by decide)]
        simp (disch := omega) only [ck_J, J_nn, h1 11 (by omega) (by omega), z3 j hjW, h1 7 (by omega) (by omega), q7 j x hjW hx, hy]
        have cxy := J_eq (a := (y : Int)) (b := (x : Int)) (by omega) (by omega) (by omega) (by omega)
        by_cases c : y = x
        · rw [if_pos (show rv (some y) = J (x : Int) from cxy.mpr (by omega))]
          exact no (by unfold mvd; rw [hx, hy, c]; simp)
        · have hmv : mvd K h π j = true := by unfold mvd; rw [hx, hy, hbb]; simp [c]
          have eg : gb (mvd K h π) (j + 1) = ((gb (mvd K h π) j).1 + 1, fun k => if k = (gb (mvd K h π) j).1 then j else (gb (mvd K h π) j).2 k) := by rw [gb, hmv, if_pos rfl]
          have hnle := (gb_spec (mvd K h π) j).1
          rw [if_neg (show ¬ rv (some y) = J (x : Int) from fun z => c (by have := cxy.mp z; omega)), hm.1]
          simp (disch := omega) only [ck_J, J_nn, sg, stp_n, hm.1, J1, J_add, fX6_listMoves_58]
          refine ih (j + 1) n _ (by omega) (by omega) ?_ (fun x a b => by rw [stp_n a, stp_n b]; exact h1 x a b) (fun i hi => by rw [stp_s, upd_n hi]; exact h2 i hi)
          rw [eg]
          refine ⟨by rw [stp_s, upd_s]; rfl, fun k hk => ?_⟩
          rw [stp_n (by omega), stp_s]
          dsimp only at hk ⊢
          by_cases c : k = (gb (mvd K h π) j).1
          · subst c; rw [upd_s, if_pos rfl]
          · rw [upd_n c, if_neg c]; exact hm.2 k (by omega)
  rw [fX6_listMoves, sg]
  obtain ⟨τ1, a1, a2, a3, a4⟩ := key (kW K) 0 N (stp τ 0 (upd (τ 0) 23 0)) (by omega) (by omega) ⟨by rw [stp_s, upd_s]; rfl, fun k hk => absurd hk (Nat.not_lt_zero _)⟩ (fun x a _ => stp_n a) (fun i hi => by rw [stp_s, upd_n hi])
  exact ⟨τ1, a1, ⟨q5.keep (a4 0 (by omega)) (a4 3 (by omega)) (fun k a b => a3 k (by omega) (by omega)), fun w hw => by rw [a3 8 (by omega) (by omega)]; exact q6 w hw, fun w m hw hm => by rw [a3 7 (by omega) (by omega)]; exact q7 w m hw hm, fun w hw => by rw [a3 11 (by omega) (by omega)]; exact z3 w hw, a2⟩, a3, a4⟩
theorem all_bits {n o : Nat} (ho : o < 2 ^ n) : rm n o = 0 ↔ o = 2 ^ n - 1 := by
  rw [rm_zero]
  constructor
  · intro h
    apply Nat.eq_of_testBit_eq
    intro i
    rw [Nat.testBit_two_pow_sub_one]
    by_cases c : i < n
    · rw [h i c, decide_eq_true c]
    · rw [decide_eq_false c]
      exact Nat.testBit_lt_two_pow (Nat.lt_of_lt_of_le ho (Nat.pow_le_pow_right (by omega) (by omega)))
  · intro h k hk
    rw [h, Nat.testBit_two_pow_sub_one, decide_eq_true hk]
theorem or_gt {o k : Nat} (h : Nat.testBit o k = false) : o < o ||| 2 ^ k := by
  have h1 : o ≤ o ||| 2 ^ k := Nat.left_le_or
  by_cases e : o = o ||| 2 ^ k
  · have : Nat.testBit (o ||| 2 ^ k) k = true := by rw [tb_set]; simp
    rw [← e, h] at this
    cases this
  · omega
/-- a block that stands nowhere till its turn -/
def sbO (B : Nat → Nat) (out : Option Nat) (o : Nat) : Option Nat := match out with
  | none => none
  | some x => if Nat.testBit o x then none else some (B x)
def posM (K : Kt) (h π : Ro) (out : Option Nat) (o : Nat) : Ro := plR K h π (dnb (mN K h π) (mB K h π) o) (sbO (mB K h π) out o) none
def okM (K : Kt) (h π : Ro) (out : Option Nat) (o k : Nat) : Bool := !(Nat.testBit o k) && !(decide (out = some k) && !(decide (o ||| 2 ^ k = 2 ^ (mN K h π) - 1))) && tkB K (posM K h π out o) (mB K h π k) (tgt π (mB K h π k))
theorem okM_b {K : Kt} {h π : Ro} {out : Option Nat} {n : Nat} : OkB n (okM K h π out) := fun o k _ e => by
  unfold okM at e
  simp only [Bool.and_eq_true, Bool.not_eq_true'] at e
  exact e.1.1
theorem plR_ok {K : Kt} {h π : Ro} {dn : Nat → Bool} {sb : Option Nat} {mo : Option Nat} (hh : RoOk K h) (hπ : RoOk K π) (hm : ∀ m, mo = some m → m < kM K) : RoOk K (plR K h π dn sb mo) := by
  intro w m e
  unfold plR at e
  by_cases c : h w = none
  · rw [if_pos c] at e; cases e
  · rw [if_neg c] at e
    obtain ⟨y, hy⟩ : ∃ y, h w = some y := by
      cases z : h w with
      | none => exact absurd z c
      | some y => exact ⟨y, rfl⟩
    have hw := (hh w y hy).1
    by_cases c2 : sb = some (blk K w)
    · rw [if_pos c2] at e; exact ⟨hw, hm m e⟩
    · rw [if_neg c2] at e
      by_cases c3 : dn (blk K w) = true
      · rw [if_pos c3] at e; exact hπ w m e
      · rw [if_neg c3] at e; exact hh w m e
theorem plR_live {K : Kt} {h π : Ro} {dn : Nat → Bool} {sb : Option Nat} {mo : Option Nat} : ∀ w, h w = none → plR K h π dn sb mo w = none := fun w e => by
  unfold plR
  rw [if_pos e]
theorem dnb_own {K : Kt} {h π : Ro} {o k : Nat} (hk : k < mN K h π) : dnb (mN K h π) (mB K h π) o (mB K h π k) = Nat.testBit o k := by
  apply Bool.eq_iff_iff.mpr
  rw [dnb_true]
  constructor
  · rintro ⟨j, h1, h2, h3⟩
    have := gb_inj (c := mvd K h π) (j := kW K) h1 hk h3
    rw [← this]; exact h2
  · intro e
    exact ⟨k, hk, e, rfl⟩
theorem tgt_some {π : Ro} {b y : Nat} (h : π b = some y) : tgt π b = y := by
  unfold tgt
  rw [h]
  rfl
/-- a block that hasn't moved isn't where it goes -/
theorem own_far {K : Kt} {h π : Ro} {o k : Nat} {sb mo : Option Nat} (hH : HOk K h) (hk : k < mN K h π) (hb : Nat.testBit o k = false) (hmo : sb = some (mB K h π k) → mo ≠ some (tgt π (mB K h π k))) : ∀ w, w < kW K → blk K w = mB K h π k → plR K h π (dnb (mN K h π) (mB K h π) o) sb mo w ≠ some (tgt π (mB K h π k)) := by
  intro w hw hbw
  obtain ⟨b1, b2, x, y, b3, b4, b5⟩ := mB_ok hk
  have hx := uni_row hH.2.2.1 hH.fr_live b3 w hw hbw
  unfold plR
  rw [if_neg (by rw [hx]; simp), hbw, dnb_own hk, hb, if_neg (by decide : ¬ false = true)]
  by_cases c : sb = some (mB K h π k)
  · rw [if_pos c]; exact hmo c
  · rw [if_neg c, hx, tgt_some b4]
    intro q
    exact b5 (Option.some.inj q).symm
theorem comesK_spec {τ : SS} {K : Kt} {h π : Ro} {o k : Nat} {sb mo : Option Nat} {N : Nat} (hN : 20 ≤ N) (hK : KOk K) (hH : HOk K h) (hP : PlanOk K h π) (hB : MB τ K h π) (hk : k < mN K h π) (hb : Nat.testBit o k = false) (hmo : sb = some (mB K h π k) → mo ≠ some (tgt π (mB K h π k))) (hm : ∀ m, mo = some m → m < kM K) (h13 : ∀ w, w < kW K → τ 13 w = rv (plR K h π (dnb (mN K h π) (mB K h π) o) sb mo w)) : fX6_comes N (J (mB K h π k : Int)) (J (tgt π (mB K h π k) : Int)) τ = some (bz (tkB K (plR K h π (dnb (mN K h π) (mB K h π) o) sb mo) (mB K h π k) (tgt π (mB K h π k))), τ) := by
  obtain ⟨b1, b2, x, y, b3, b4, b5⟩ := mB_ok hk
  refine comes_spec hN hK hH hB.1 hB.2.1 h13 (plR_ok hH.1 hP.1 hm) plR_live b1 (by rw [b3]; simp) ?_ (own_far hH hk hb hmo)
  rw [tgt_some b4]
  exact (hP.1 _ y b4).2
theorem canAll_spec {τ : SS} {K : Kt} {h π : Ro} {out : Option Nat} {N : Nat} (hN : 300 ≤ N) (hK : KOk K) (hH : HOk K h) (hP : PlanOk K h π) (hB : MB τ K h π) (ho : ∀ x, out = some x → x < mN K h π) : ∃ τ1, fX6_canAll N (rv out) τ = some (bz (canX (mN K h π) (okM K h π out) 0), τ1) ∧ (∀ o, o < 2 ^ (mN K h π) → τ1 14 o = bz (canX (mN K h π) (okM K h π out) o)) ∧ KeepN τ τ1 := by
  have hn := mN_le (h := h) (π := π) hK
  have hW := hK.2.1
  have hM := hK.1
  have h2n : 2 ^ (mN K h π) ≤ 256 := Nat.pow_le_pow_right (by omega : 0 < 2) hn
  have hp : 0 < 2 ^ (mN K h π) := Nat.pow_pos (by omega)
  have outer : ∀ (e m : Nat) (τ2 : SS), e ≤ 2 ^ (mN K h π) → e < m → (∀ x, e ≤ x → x < 2 ^ (mN K h π) → τ2 14 x = bz (canX (mN K h π) (okM K h π out) x)) → KeepN τ τ2 → ∃ τ1, lp (fX6_canAll_11 N) (fun _ _ _ _ => none) m (rv out) (J ((2 ^ (mN K h π) - 1 : Nat) : Int)) (J ((e : Int) - 1)) τ2 = some (bz (canX (mN K h π) (okM K h π out) 0), τ1) ∧ (∀ o, o < 2 ^ (mN K h π) → τ1 14 o = bz (canX (mN K h π) (okM K h π out) o)) ∧ KeepN τ τ1 := by
    intro e
    induction e with
    | zero =>
      intro m τ2 he hm hv hk
      obtain ⟨m, rfl⟩ : ∃ m', m = m' + 1 := ⟨m - 1, by omega⟩
      rw [lp_succ, fX6_canAll_11, show (0 : Int32) = J 0 from rfl, if_pos ((J_lt (by omega) (by omega) (by omega) (by omega)).mpr (by omega)), ck_J (by omega) (by omega) (by omega), J_nat (by omega) (by omega)]
      have h0 := hv 0 (Nat.le_refl _) hp
      rw [show (0 : Int).toNat = 0 from rfl, h0]
      refine ⟨τ2, ?_, fun o ho => hv o (Nat.zero_le _) ho, hk⟩
      cases canX (mN K h π) (okM K h π out) 0 <;> rfl
    | succ e ih =>
      intro m τ2 he hm hv hk
      obtain ⟨m, rfl⟩ : ∃ m', m = m' + 1 := ⟨m - 1, by omega⟩
      have heq : ((e + 1 : Nat) : Int) - 1 = (e : Int) := by omega
      have inner : rm (mN K h π) e ≠ 0 → ∀ (d j n : Nat) (τ3 : SS), j + d = mN K h π → d < n → KeepN τ τ3 → (∀ x, e < x → x < 2 ^ (mN K h π) → τ3 14 x = bz (canX (mN K h π) (okM K h π out) x)) → τ3 14 e = bz (anyk j (fun k => okM K h π out e k && canX (mN K h π) (okM K h π out) (e ||| 2 ^ k))) → ∃ τ1, lp (fX6_canAll_34 N (lp (fX6_canAll_11 N) (fun _ _ _ _ => none) m)) (fun _ _ _ _ _ => none) n (rv out) (J ((2 ^ (mN K h π) - 1 : Nat) : Int)) (J (e : Int)) (J (j : Int)) τ3 = some (bz (canX (mN K h π) (okM K h π out) 0), τ1) ∧ (∀ o, o < 2 ^ (mN K h π) → τ1 14 o = bz (canX (mN K h π) (okM K h π out) o)) ∧ KeepN τ τ1 := by
        intro hr
        have hstep := canX_step (okM_b (K := K) (h := h) (π := π) (out := out)) hr
        have done : ∀ τ3 : SS, KeepN τ τ3 → (∀ x, e < x → x < 2 ^ (mN K h π) → τ3 14 x = bz (canX (mN K h π) (okM K h π out) x)) → τ3 14 e = bz (canX (mN K h π) (okM K h π out) e) → ∃ τ1, fX6_canAll_174 N (lp (fX6_canAll_11 N) (fun _ _ _ _ => none) m) (rv out) (J ((2 ^ (mN K h π) - 1 : Nat) : Int)) (J (e : Int)) τ3 = some (bz (canX (mN K h π) (okM K h π out) 0), τ1) ∧ (∀ o, o < 2 ^ (mN K h π) → τ1 14 o = bz (canX (mN K h π) (okM K h π out) o)) ∧ KeepN τ τ1 := by
          intro τ3 hk3 hv3 h14
          rw [fX6_canAll_174, Jm1, J_add]
          exact ih m τ3 (by omega) (by omega) (fun x h1 h2 => by
            by_cases c : x = e
            · subst c; exact h14
            · exact hv3 x (by omega) h2) hk3
        intro d
        induction d with
        | zero =>
          intro j n τ3 hj hn' hk3 hv3 h14
          obtain ⟨n, rfl⟩ : ∃ n', n = n' + 1 := ⟨n - 1, by omega⟩
          have hB3 := hB.keep hk3
          rw [lp_succ, fX6_canAll_34, hB3.2.2.2.2.1, if_pos ((J_le (by omega) (by omega) (by omega) (by omega)).mpr (by omega))]
          refine done τ3 hk3 hv3 ?_
          rw [h14, hstep]
          have : j = mN K h π := by omega
          rw [this]
        | succ d ihd =>
          intro j n τ3 hj hn' hk3 hv3 h14
          obtain ⟨n, rfl⟩ : ∃ n', n = n' + 1 := ⟨n - 1, by omega⟩
          have hB3 := hB.keep hk3
          have hjn : j < mN K h π := by omega
          obtain ⟨b1, b2, x, y, b3, b4, b5⟩ := mB_ok hjn
          have ea : anyk (j + 1) (fun k => okM K h π out e k && canX (mN K h π) (okM K h π out) (e ||| 2 ^ k)) = (anyk j (fun k => okM K h π out e k && canX (mN K h π) (okM K h π out) (e ||| 2 ^ k)) || (okM K h π out e j && canX (mN K h π) (okM K h π out) (e ||| 2 ^ j))) := rfl
          rw [lp_succ, fX6_canAll_34, hB3.2.2.2.2.1, if_neg (fun q => by have := (J_le (by omega) (by omega) (by omega) (by omega)).mp q; omega), ck_J (by omega) (by omega) (by omega), J_nn (by omega), h14]
          cases hprev : anyk j (fun k => okM K h π out e k && canX (mN K h π) (okM K h π out) (e ||| 2 ^ k)) with
          | true =>
            rw [if_neg (by decide)]
            refine done τ3 hk3 hv3 ?_
            rw [h14, hprev, hstep]
            obtain ⟨k, k1, k2⟩ := anyk_true.mp hprev
            rw [anyk_true.mpr ⟨k, by omega, k2⟩]
          | false =>
            rw [hprev, Bool.false_or] at ea
            rw [hprev] at h14
            rw [if_pos (by rfl), bit_get e (by omega) j (by omega)]
            cases hb : Nat.testBit e j with
            | true =>
              rw [if_neg (by decide), fX6_canAll_168, J1, J_add]
              refine ihd (j + 1) n τ3 (by omega) (by omega) hk3 hv3 ?_
              rw [h14, ea]
              have : okM K h π out e j = false := by unfold okM; rw [hb]; rfl
              rw [this, Bool.false_and]
            | false =>
              have hlt := or_lt (show e < 2 ^ (mN K h π) by omega) hjn
              have hgt := or_gt hb
              rw [if_neg (by decide : ¬ false = true), if_pos rfl, bit_set e (by omega) j (by omega)]
              have cout : J (j : Int) = rv out ↔ out = some j := by
                cases hout : out with
                | none =>
                  show J (j : Int) = J (-1) ↔ _
                  rw [J_eq (by omega) (by omega) (by omega) (by omega)]
                  simp
                | some w =>
                  have := ho w hout
                  show J (j : Int) = J (w : Int) ↔ _
                  rw [J_eq (by omega) (by omega) (by omega) (by omega), Option.some.injEq]
                  omega
              have call := J_eq (a := ((e ||| 2 ^ j : Nat) : Int)) (b := ((2 ^ (mN K h π) - 1 : Nat) : Int)) (by omega) (by omega) (by omega) (by omega)
              have tolate : (if J (j : Int) = rv out then (if J ((e ||| 2 ^ j : Nat) : Int) = J ((2 ^ (mN K h π) - 1 : Nat) : Int) then fX6_canAll_81 N (lp (fX6_canAll_11 N) (fun _ _ _ _ => none) m) (lp (fX6_canAll_34 N (lp (fX6_canAll_11 N) (fun _ _ _ _ => none) m)) (fun _ _ _ _ _ => none) n) (rv out) (J ((2 ^ (mN K h π) - 1 : Nat) : Int)) (J (e : Int)) (J (j : Int)) τ3 else fX6_canAll_82 N (lp (fX6_canAll_11 N) (fun _ _ _ _ => none) m) (lp (fX6_canAll_34 N (lp (fX6_canAll_11 N) (fun _ _ _ _ => none) m)) (fun _ _ _ _ _ => none) n) (rv out) (J ((2 ^ (mN K h π) - 1 : Nat) : Int)) (J (e : Int)) (J (j : Int)) 1 τ3) else fX6_canAll_81 N (lp (fX6_canAll_11 N) (fun _ _ _ _ => none) m) (lp (fX6_canAll_34 N (lp (fX6_canAll_11 N) (fun _ _ _ _ => none) m)) (fun _ _ _ _ _ => none) n) (rv out) (J ((2 ^ (mN K h π) - 1 : Nat) : Int)) (J (e : Int)) (J (j : Int)) τ3) = fX6_canAll_82 N (lp (fX6_canAll_11 N) (fun _ _ _ _ => none) m) (lp (fX6_canAll_34 N (lp (fX6_canAll_11 N) (fun _ _ _ _ => none) m)) (fun _ _ _ _ _ => none) n) (rv out) (J ((2 ^ (mN K h π) - 1 : Nat) : Int)) (J (e : Int)) (J (j : Int)) (bz (decide (out = some j) && !(decide (e ||| 2 ^ j = 2 ^ (mN K h π) - 1)))) τ3 := by
                by_cases c : out = some j
                · rw [if_pos (cout.mpr c), decide_eq_true c]
                  by_cases c2 : e ||| 2 ^ j = 2 ^ (mN K h π) - 1
                  · rw [if_pos (call.mpr (by omega)), decide_eq_true c2, fX6_canAll_81]; rfl
                  · rw [if_neg (fun q => c2 (by have := call.mp q; omega)), decide_eq_false c2]; rfl
                · rw [if_neg (fun q => c (cout.mp q)), decide_eq_false c, fX6_canAll_81]; rfl
              rw [tolate]
              have toplace : ∀ l : Int32, fX6_canAll_82 N (lp (fX6_canAll_11 N) (fun _ _ _ _ => none) m) (lp (fX6_canAll_34 N (lp (fX6_canAll_11 N) (fun _ _ _ _ => none) m)) (fun _ _ _ _ _ => none) n) (rv out) (J ((2 ^ (mN K h π) - 1 : Nat) : Int)) (J (e : Int)) (J (j : Int)) l τ3 = fX6_canAll_108 N (lp (fX6_canAll_11 N) (fun _ _ _ _ => none) m) (lp (fX6_canAll_34 N (lp (fX6_canAll_11 N) (fun _ _ _ _ => none) m)) (fun _ _ _ _ _ => none) n) (rv out) (J ((2 ^ (mN K h π) - 1 : Nat) : Int)) (J (e : Int)) (J (j : Int)) l (rv (sbO (mB K h π) out e)) (J (e : Int)) τ3 := by
                intro l
                rw [fX6_canAll_82]
                cases hout : out with
                | none =>
                  rw [if_pos (show rv none < (0 : Int32) from (J_lt (a := -1) (b := 0) (by omega) (by omega) (by omega) (by omega)).mpr (by omega)), fX6_canAll_107]
                  rfl
                | some w =>
                  have hwn := ho w hout
                  rw [if_neg (show ¬ rv (some w) < (0 : Int32) from fun q => by have := (J_lt (a := (w : Int)) (b := 0) (by omega) (by omega) (by omega) (by omega)).mp q; omega)]
                  show (if (((J (e : Int)) >>> ((J (w : Int)) &&& (31 : Int32))) &&& 1) = 0 then _ else _) = _
                  rw [bit_get e (by omega) w (by omega)]
                  cases hbw : Nat.testBit e w with
                  | true =>
                    rw [if_neg (by decide), fX6_canAll_107]
                    have : sbO (mB K h π) (some w) e = none := by show (if Nat.testBit e w = true then none else some (mB K h π w)) = none; rw [hbw]; rfl
                    rw [this]
                    rfl
                  | false =>
                    rw [if_neg (by decide : ¬ false = true), if_pos rfl]
                    show ck (J (w : Int)) 8 _ = _
                    have : sbO (mB K h π) (some w) e = some (mB K h π w) := by show (if Nat.testBit e w = true then none else some (mB K h π w)) = _; rw [hbw]; rfl
                    rw [this, ck_J (by omega) (by omega) (by omega)]
                    show fX6_canAll_108 N _ _ _ _ _ _ l (τ3 12 (J (w : Int)).toNatClampNeg) _ τ3 = _
                    rw [J_nn (by omega), hB3.2.2.2.2.2 w hwn]
                    rfl
              rw [toplace, fX6_canAll_108]
              have hsb8 : ∀ b, sbO (mB K h π) out e = some b → b < 8 := by
                intro b hb'
                unfold sbO at hb'
                cases hout : out with
                | none => rw [hout] at hb'; cases hb'
                | some w =>
                  rw [hout] at hb'
                  dsimp only at hb'
                  by_cases c : Nat.testBit e w = true
                  · rw [if_pos c] at hb'; cases hb'
                  · rw [if_neg c] at hb'
                    cases hb'
                    have := (mB_ok (ho w hout)).1
                    omega
              obtain ⟨τ4, p1, p2, p3⟩ := place_spec (τ := τ3) (π := π) (n := mN K h π) (B := mB K h π) (o := e) (sb := sbO (mB K h π) out e) (mo := none) (N := N) (by omega) hK hH hB3.1 hB3.2.1 hB3.2.2.1 hn (fun k hk => by have := (mB_ok hk).1; omega) hB3.2.2.2.2 (fun _ => hB3.2.2.2.1) (by omega) hsb8
              have p1' : fX6_place N (J (e : Int)) (rv (sbO (mB K h π) out e)) (-1) τ3 = some τ4 := p1
              have hk4 : KeepN τ τ4 := fun x a b => by rw [p3 x a]; exact hk3 x a b
              have hB4 := hB.keep hk4
              rw [p1', calv_s]
              have fin : ∀ (v : Int32) (b : Bool), v = bz b → b = (okM K h π out e j && canX (mN K h π) (okM K h π out) (e ||| 2 ^ j)) → ∃ τ1, fX6_canAll_167 N (lp (fX6_canAll_11 N) (fun _ _ _ _ => none) m) (lp (fX6_canAll_34 N (lp (fX6_canAll_11 N) (fun _ _ _ _ => none) m)) (fun _ _ _ _ _ => none) n) (rv out) (J ((2 ^ (mN K h π) - 1 : Nat) : Int)) (J (e : Int)) (J (j : Int)) v (J (e : Int)) τ4 = some (bz (canX (mN K h π) (okM K h π out) 0), τ1) ∧ (∀ o, o < 2 ^ (mN K h π) → τ1 14 o = bz (canX (mN K h π) (okM K h π out) o)) ∧ KeepN τ τ1 := by
                intro v b hvb hbb
                rw [fX6_canAll_167, ck_J (by omega) (by omega) (by omega), J_nn (by omega), sg, fX6_canAll_168, J1, J_add]
                refine ihd (j + 1) n _ (by omega) (by omega) (fun x a b => by rw [stp_n b]; exact hk4 x a b) (fun x h1 h2 => ?_) ?_
                · rw [stp_s, upd_n (by omega), p3 14 (by omega)]; exact hv3 x h1 h2
                · rw [stp_s, upd_s, ea, ← hbb, hvb]
                  cases b <;> rfl
              have hok : okM K h π out e j = (!(decide (out = some j) && !(decide (e ||| 2 ^ j = 2 ^ (mN K h π) - 1))) && tkB K (posM K h π out e) (mB K h π j) (tgt π (mB K h π j))) := by
                unfold okM
                rw [hb]
                rfl
              cases hlate : (decide (out = some j) && !(decide (e ||| 2 ^ j = 2 ^ (mN K h π) - 1))) with
              | true =>
                rw [hlate] at hok
                rw [if_neg (by decide), fX6_canAll_166]
                exact fin 0 false rfl (by rw [hok]; rfl)
              | false =>
                rw [hlate, Bool.not_false, Bool.true_and] at hok
                rw [if_pos (by rfl), bit_set e (by omega) j (by omega), ck_J (by omega) (by omega) (by omega), J_nn (by omega), p3 14 (by omega), hv3 (e ||| 2 ^ j) hgt hlt]
                cases hcx : canX (mN K h π) (okM K h π out) (e ||| 2 ^ j) with
                | false =>
                  rw [if_pos (by rfl), fX6_canAll_166]
                  exact fin 0 false rfl (by rw [hcx, Bool.and_false])
                | true =>
                  rw [if_neg (by decide)]
                  simp (disch := omega) only [ck_J, J_nn]
                  have hpl := hB4.2.2.2.1 (mB K h π j) b1
                  rw [b4] at hpl
                  rw [hB4.2.2.2.2.2 j hjn, ck_J (by omega) (by omega) (by omega), J_nn (by omega), hpl]
                  have hcm := comesK_spec (τ := τ4) (sb := sbO (mB K h π) out e) (mo := none) (N := N) (by omega) hK hH hP hB4 hjn hb (fun _ => by simp) (fun m q => by cases q) p2
                  rw [show rv (some y) = J (tgt π (mB K h π j) : Int) from by rw [tgt_some b4]; rfl, hcm, cali_s]
                  cases htk : tkB K (plR K h π (dnb (mN K h π) (mB K h π) e) (sbO (mB K h π) out e) none) (mB K h π j) (tgt π (mB K h π j)) with
                  | false =>
                    rw [if_pos (by rfl), fX6_canAll_166]
                    exact fin 0 false rfl (by rw [hok, hcx]; unfold posM; rw [htk]; rfl)
                  | true =>
                    rw [if_neg (by decide)]
                    exact fin 1 true rfl (by rw [hok, hcx]; unfold posM; rw [htk]; rfl)
      have call := J_eq (a := (e : Int)) (b := ((2 ^ (mN K h π) - 1 : Nat) : Int)) (by omega) (by omega) (by omega) (by omega)
      have hall := all_bits (n := mN K h π) (o := e) (by omega)
      rw [lp_succ, fX6_canAll_11, heq, if_neg (show ¬ J (e : Int) < (0 : Int32) from fun q => by have := (J_lt (a := (e : Int)) (b := 0) (by omega) (by omega) (by omega) (by omega)).mp q; omega)]
      have start : ∀ (v : Int32) (b : Bool), v = bz b → ∃ τ3, fX6_canAll_30 N (lp (fX6_canAll_11 N) (fun _ _ _ _ => none) m) (rv out) (J ((2 ^ (mN K h π) - 1 : Nat) : Int)) (J (e : Int)) v (J (e : Int)) τ2 = lp (fX6_canAll_34 N (lp (fX6_canAll_11 N) (fun _ _ _ _ => none) m)) (fun _ _ _ _ _ => none) N (rv out) (J ((2 ^ (mN K h π) - 1 : Nat) : Int)) (J (e : Int)) (J ((0 : Nat) : Int)) τ3 ∧ KeepN τ τ3 ∧ (∀ x, e < x → x < 2 ^ (mN K h π) → τ3 14 x = bz (canX (mN K h π) (okM K h π out) x)) ∧ τ3 14 e = bz b := by
        intro v b hvb
        rw [fX6_canAll_30, ck_J (by omega) (by omega) (by omega), J_nn (by omega), sg]
        refine ⟨_, rfl, fun x a b => by rw [stp_n b]; exact hk x a b, fun x h1 h2 => by rw [stp_s, upd_n (by omega)]; exact hv x (by omega) h2, ?_⟩
        rw [stp_s, upd_s, hvb]
        cases b <;> rfl
      by_cases c : e = 2 ^ (mN K h π) - 1
      · rw [if_pos (call.mpr (by omega))]
        obtain ⟨τ3, s1, s2, s3, s4⟩ := start 1 true rfl
        have hr0 := hall.mpr c
        have hB3 := hB.keep s2
        rw [s1]
        have hcx := canX_end (ok := okM K h π out) hr0
        obtain ⟨N', rfl⟩ : ∃ N', N = N' + 1 := ⟨N - 1, by omega⟩
        have go174 : lp (fX6_canAll_34 (N' + 1) (lp (fX6_canAll_11 (N' + 1)) (fun _ _ _ _ => none) m)) (fun _ _ _ _ _ => none) (N' + 1) (rv out) (J ((2 ^ (mN K h π) - 1 : Nat) : Int)) (J (e : Int)) (J ((0 : Nat) : Int)) τ3 = fX6_canAll_174 (N' + 1) (lp (fX6_canAll_11 (N' + 1)) (fun _ _ _ _ => none) m) (rv out) (J ((2 ^ (mN K h π) - 1 : Nat) : Int)) (J (e : Int)) τ3 := by
          rw [lp_succ, fX6_canAll_34]
          by_cases c2 : τ3 0 23 ≤ J ((0 : Nat) : Int)
          · rw [if_pos c2]
          · rw [if_neg c2, ck_J (by omega) (by omega) (by omega), J_nn (by omega), s4, if_neg (by decide)]
        rw [go174, fX6_canAll_174, Jm1, J_add]
        exact ih m τ3 (by omega) (by omega) (fun x h1 h2 => by
          by_cases c3 : x = e
          · subst c3; rw [s4, hcx]
          · exact s3 x (by omega) h2) s2
      · rw [if_neg (fun q => c (by have := call.mp q; omega))]
        obtain ⟨τ3, s1, s2, s3, s4⟩ := start 0 false rfl
        rw [s1]
        exact inner (fun q => c (hall.mp q)) (mN K h π) 0 N τ3 (by omega) (by omega) s2 s3 s4
  have ha : ((1 : Int32) <<< ((τ 0 23) &&& (31 : Int32))) - 1 = J ((2 ^ (mN K h π) - 1 : Nat) : Int) := by
    rw [hB.2.2.2.2.1, bit_one _ (by omega), J1, J_sub]
    congr 1
    omega
  rw [fX6_canAll, ha]
  have := outer (2 ^ (mN K h π)) N τ (Nat.le_refl _) (by omega) (fun x h1 h2 => by omega) (fun _ _ _ => rfl)
  rw [show ((2 ^ (mN K h π) : Nat) : Int) - 1 = ((2 ^ (mN K h π) - 1 : Nat) : Int) from by omega] at this
  exact this
