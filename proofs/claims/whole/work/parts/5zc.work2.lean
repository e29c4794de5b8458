def nOK (K : Kt) (h : Ro) (m k : Nat) (g : Int) (v : Nat) : Bool := (ovf h v || !(kd K v == k && kg K v == g)) || ((!(k == 1) || h v != some m) && (!(k == 2) || h v == some m))
def nin (K : Kt) (h : Ro) (m k : Nat) (g : Int) (r : Bool) : Nat → Bool
  | 0 => r
  | v + 1 => nin K h m k g r v && nOK K h m k g v
theorem nin_true {K : Kt} {h : Ro} {m k : Nat} {g : Int} {r : Bool} : ∀ n, nin K h m k g r n = true ↔ r = true ∧ ∀ v, v < n → nOK K h m k g v = true := by
  intro n
  induction n with
  | zero => exact ⟨fun e => ⟨e, fun v hv => absurd hv (Nat.not_lt_zero _)⟩, fun e => e.1⟩
  | succ n ih =>
    rw [nin, Bool.and_eq_true, ih]
    constructor
    · rintro ⟨⟨h0, h1⟩, h2⟩
      refine ⟨h0, fun v hv => ?_⟩
      by_cases c : v = n
      · subst c; exact h2
      · exact h1 v (by omega)
    · rintro ⟨h0, h1⟩
      exact ⟨⟨h0, fun v hv => h1 v (by omega)⟩, h1 n (by omega)⟩
theorem nOK_true {K : Kt} {h : Ro} {m k : Nat} {g : Int} {v : Nat} : nOK K h m k g v = true ↔ ∀ x, h v = some x → kd K v = k → kg K v = g → (k = 1 → x ≠ m) ∧ (k = 2 → x = m) := by
  unfold nOK ovf
  cases e1 : h v with
  | none => exact ⟨fun _ x z => (by cases z), fun _ => rfl⟩
  | some x =>
    simp only [Option.isNone_some, Bool.false_or, Bool.and_eq_true, Bool.or_eq_true, Bool.not_eq_true', bne_iff_ne, beq_iff_eq, ne_eq, Option.some.injEq, Bool.and_eq_false_iff, beq_eq_false_iff_ne]
    constructor
    · rintro h1 x' rfl h2 h3
      have h4 := h1.resolve_left (fun z => z.elim (fun z => z h2) (fun z => z h3))
      exact ⟨fun z => h4.1.resolve_left (fun y => y z), fun z => h4.2.resolve_left (fun y => y z)⟩
    · intro hq
      by_cases c1 : kd K v = k
      · by_cases c2 : kg K v = g
        · obtain ⟨h1, h2⟩ := hq x rfl c1 c2
          right
          refine ⟨?_, ?_⟩
          · by_cases c : k = 1
            · exact Or.inr (h1 c)
            · exact Or.inl c
          · by_cases c : k = 2
            · exact Or.inr (h2 c)
            · exact Or.inl c
        · exact Or.inl (Or.inr c2)
      · exact Or.inl (Or.inl c1)
theorem nin_tk {K : Kt} {h : Ro} {a b g : Int} {k m : Nat} (hH : HOk K h) (hg : k = 1 ∨ k = 2 → 0 ≤ g ∧ g < 4) (hW : kW K ≤ 8) : nin K h m k g (decide (a ≤ kRA K m - uA K h m) && decide (b ≤ kRB K m - uB K h m)) (kW K) = tk K h (kW K) m a b k g (blk (addW K a b k g) (kW K)) := by
  apply Bool.eq_iff_iff.mpr
  rw [nin_true, Bool.and_eq_true, decide_eq_true_eq, decide_eq_true_eq, tk_parts]
  constructor
  · rintro ⟨⟨h1, h2⟩, h3⟩
    refine ⟨h1, h2, fun hk => ?_, ?_⟩
    · cases e : ht K h m g.toNat with
      | false => rfl
      | true =>
        exfalso
        simp only [ht, List.any_eq_true, List.mem_range, Bool.and_eq_true, beq_iff_eq] at e
        obtain ⟨v, _, ⟨v2, v3⟩, v4⟩ := e
        have hg0 := hg (Or.inl hk)
        have := nOK_true.mp (h3 v (hH.1 v m v2).1) m v2 (by omega) (by omega)
        exact this.1 hk rfl
    · by_cases c : blk (addW K a b k g) (kW K) = kW K
      · exact Or.inl c
      · right
        have hle := blk_le (addW K a b k g) (kW K)
        have hf := frnd_true.mp (blk_frnd c)
        generalize blk (addW K a b k g) (kW K) = l at c hle hf
        have hl : l < kW K := by omega
        rw [(aw_old (K := K) (a := a) (b := b) (k := k) (g := g) (w := l) (by omega)).2.2.1, (aw_old (K := K) (a := a) (b := b) (k := k) (g := g) (w := l) (by omega)).2.2.2, aw_new.2.2.1, aw_new.2.2.2] at hf
        cases z : h l with
        | none => have := hH.2.2.2.2 l hl z; omega
        | some x =>
          have := nOK_true.mp (h3 l hl) x z (by omega) hf.2.2.symm
          rw [this.2 hf.1]
  · rintro ⟨h1, h2, h3, h4⟩
    refine ⟨⟨h1, h2⟩, fun v hv => nOK_true.mpr (fun x hx hd hgv => ⟨fun hk e => ?_, fun hk => ?_⟩)⟩
    · have hg0 := hg (Or.inl hk)
      have := h3 hk
      have h5 : ht K h m g.toNat = true := by
        simp only [ht, List.any_eq_true, List.mem_range, Bool.and_eq_true, beq_iff_eq]
        exact ⟨v, by omega, ⟨by rw [hx, e], by omega⟩, by omega⟩
      rw [this] at h5
      cases h5
    · have hfv : frnd (addW K a b k g) (kW K) v = true := by
        apply frnd_true.mpr
        rw [(aw_old (K := K) (a := a) (b := b) (k := k) (g := g) (w := v) (by omega)).2.2.1, (aw_old (K := K) (a := a) (b := b) (k := k) (g := g) (w := v) (by omega)).2.2.2, aw_new.2.2.1, aw_new.2.2.2]
        exact ⟨hk, by omega, hgv.symm⟩
      have hl := blk_first hfv hv
      have h5 := h4.resolve_left (by omega)
      have hf := frnd_true.mp (blk_frnd (K := addW K a b k g) (w := kW K) (by omega))
      generalize blk (addW K a b k g) (kW K) = l at hl h5 hf
      rw [(aw_old (K := K) (a := a) (b := b) (k := k) (g := g) (w := l) (by omega)).2.2.1, (aw_old (K := K) (a := a) (b := b) (k := k) (g := g) (w := l) (by omega)).2.2.2, aw_new.2.2.1, aw_new.2.2.2] at hf
      exact hH.2.2.1 v l x m (frnd_true.mpr ⟨by omega, by omega, hgv.trans hf.2.2⟩) hx h5
theorem fitsNinth_spec {τ : SS} {K : Kt} {h : Ro} {a b g : Int} {k m N : Nat} (hN : 20 ≤ N) (hK : KOk K) (hh : RoOk K h) (hR : MdRep τ K) (hO : MdOv τ K (ovf h)) (hA : MdAt τ K 7 h) (hm : m < kM K) (ha : 0 ≤ a ∧ a ≤ 1000) (hb : 0 ≤ b ∧ b ≤ 1000) (hk : k ≤ 4) (hg : -2147483648 ≤ g ∧ g < 2147483648) : fX6_fitsNinth N (J a) (J b) (J (k : Int)) (J g) (J (m : Int)) τ = some (bz (nin K h m k g (decide (a ≤ kRA K m - uA K h m) && decide (b ≤ kRB K m - uB K h m)) (kW K)), τ) := by
  have hW := hK.2.1
  have hM := hK.1
  have key : ∀ (r : Bool) (d j n : Nat), j + d = kW K → d < n → lp (fX6_fitsNinth_30 N) (fun _ _ _ _ _ _ => none) n (J (k : Int)) (J g) (J (m : Int)) (bz (nin K h m k g r j)) (J (j : Int)) τ = some (bz (nin K h m k g r (kW K)), τ) := by
    intro r d
    induction d with
    | zero =>
      intro j n hj hn
      obtain ⟨n, rfl⟩ : ∃ n', n = n' + 1 := ⟨n - 1, by omega⟩
      have ej : j = kW K := by omega
      subst ej
      rw [lp_succ, fX6_fitsNinth_30, hR.2.1, if_pos ((J_le (by omega) (by omega) (by omega) (by omega)).mpr (by omega))]
      cases nin K h m k g r (kW K) <;> rfl
    | succ d ih =>
      intro j n hj hn
      obtain ⟨n, rfl⟩ : ∃ n', n = n' + 1 := ⟨n - 1, by omega⟩
      have hjW : j < kW K := by omega
      have hx := ih (j + 1) n (by omega) (by omega)
      rw [nin] at hx
      generalize nin K h m k g r j = x at hx
      have go : ∀ y : Bool, y = (x && nOK K h m k g j) → fX6_fitsNinth_133 N (lp (fX6_fitsNinth_30 N) (fun _ _ _ _ _ _ => none) n) (J (k : Int)) (J g) (J (m : Int)) (J (j : Int)) (bz y) τ = some (bz (nin K h m k g r (kW K)), τ) := by
        intro y hy
        rw [hy, fX6_fitsNinth_133, J1, J_add]
        exact hx
      have g0 : (x && nOK K h m k g j) = false → fX6_fitsNinth_132 N (lp (fX6_fitsNinth_30 N) (fun _ _ _ _ _ _ => none) n) (J (k : Int)) (J g) (J (m : Int)) (J (j : Int)) τ = some (bz (nin K h m k g r (kW K)), τ) := by
        intro e
        rw [fX6_fitsNinth_132]
        exact go false e.symm
      have g1 : (x && nOK K h m k g j) = true → fX6_fitsNinth_128 N (lp (fX6_fitsNinth_30 N) (fun _ _ _ _ _ _ => none) n) (J (k : Int)) (J g) (J (m : Int)) (J (j : Int)) τ = some (bz (nin K h m k g r (kW K)), τ) := by
        intro e
        rw [fX6_fitsNinth_128]
        exact go true e.symm
      have g106 : nOK K h m k g j = true → x = true → fX6_fitsNinth_106 N (lp (fX6_fitsNinth_30 N) (fun _ _ _ _ _ _ => none) n) (J (k : Int)) (J g) (J (m : Int)) (J (j : Int)) 0 τ = some (bz (nin K h m k g r (kW K)), τ) := by
        intro e ex
        rw [fX6_fitsNinth_106, if_pos rfl]
        exact g1 (by rw [e, ex]; rfl)
      have g76 : nOK K h m k g j = true → fX6_fitsNinth_76 N (lp (fX6_fitsNinth_30 N) (fun _ _ _ _ _ _ => none) n) (J (k : Int)) (J g) (J (m : Int)) (bz x) (J (j : Int)) τ = some (bz (nin K h m k g r (kW K)), τ) := by
        intro e
        rw [fX6_fitsNinth_76, fX6_fitsNinth_77]
        cases hxe : x with
        | false =>
          rw [if_pos bz_f]
          exact g0 (by rw [hxe]; rfl)
        | true =>
          rw [if_neg (by decide), if_pos rfl]
          exact g106 e hxe
      have kj := hK.2.2.2 j hjW
      obtain ⟨-, -, m5, m6⟩ := hR.2.2.2 j hjW
      rw [lp_succ, fX6_fitsNinth_30, hR.2.1, if_neg (fun q => by have := (J_le (by omega) (by omega) (by omega) (by omega)).mp q; omega), ck_J (by omega) (by omega) (by omega), J_nn (by omega), hO j hjW]
      cases o1 : ovf h j with
      | true =>
        rw [if_neg (by decide)]
        exact g76 (by unfold nOK; rw [o1]; simp)
      | false =>
        obtain ⟨y, hy⟩ : ∃ y, h j = some y := by
          cases z : h j with
          | none => unfold ovf at o1; rw [z] at o1; cases o1
          | some y => exact ⟨y, rfl⟩
        have hyM := (hh j y hy).2
        have aj := hA j y hjW hy
        rw [if_pos bz_f, ck_J (by omega) (by omega) (by omega), m5]
        have ck5 := J_eq (a := (kd K j : Int)) (b := (k : Int)) (by omega) (by omega) (by omega) (by omega)
        by_cases c1 : kd K j = k
        · rw [if_pos (ck5.mpr (by omega)), ck_J (by omega) (by omega) (by omega), m6]
          have ck6 := J_eq (a := kg K j) (b := g) (by omega) (by omega) (by omega) (by omega)
          by_cases c2 : kg K j = g
          · rw [if_pos (ck6.mpr c2), fX6_fitsNinth_77]
            have en : nOK K h m k g j = ((!(k == 1) || some y != some m) && (!(k == 2) || some y == some m)) := by
              unfold nOK
              rw [o1, hy, c1, c2]
              simp
            cases hxe : x with
            | false =>
              rw [if_pos bz_f]
              exact g0 (by rw [hxe]; rfl)
            | true =>
              have k1 : J (k : Int) = (1 : Int32) ↔ (k : Int) = 1 := J_eq (a := (k : Int)) (b := 1) (by omega) (by omega) (by omega) (by omega)
              have k2 : J (k : Int) = (2 : Int32) ↔ (k : Int) = 2 := J_eq (a := (k : Int)) (b := 2) (by omega) (by omega) (by omega) (by omega)
              have cym := J_eq (a := (y : Int)) (b := (m : Int)) (by omega) (by omega) (by omega) (by omega)
              rw [hxe, Bool.true_and] at g0 g1
              have h106 : (!(k == 1) || some y != some m) = true → fX6_fitsNinth_106 N (lp (fX6_fitsNinth_30 N) (fun _ _ _ _ _ _ => none) n) (J (k : Int)) (J g) (J (m : Int)) (J (j : Int)) 1 τ = some (bz (nin K h m k g r (kW K)), τ) := by
                intro e
                rw [e, Bool.true_and] at en
                rw [fX6_fitsNinth_106, if_neg (by decide)]
                by_cases d2 : k = 2
                · rw [if_pos (k2.mpr (by omega)), ck_J (by omega) (by omega) (by omega), J_nn (by omega), aj]
                  by_cases cy : y = m
                  · rw [if_pos (cym.mpr (by omega))]
                    exact g1 (by rw [en, cy]; simp)
                  · rw [if_neg (fun z => cy (by have := cym.mp z; omega))]
                    exact g0 (by rw [en]; simp [d2, cy])
                · rw [if_neg (fun z => d2 (by have := k2.mp z; omega))]
                  exact g1 (by rw [en]; simp [d2])
              rw [if_neg (by decide), if_neg (by decide)]
              by_cases d1 : k = 1
              · rw [if_pos (k1.mpr (by omega)), ck_J (by omega) (by omega) (by omega), J_nn (by omega), aj]
                by_cases cy : y = m
                · rw [if_pos (cym.mpr (by omega))]
                  exact g0 (by rw [en]; simp [d1, cy])
                · rw [if_neg (fun z => cy (by have := cym.mp z; omega))]
                  exact h106 (by simp [cy])
              · rw [if_neg (fun z => d1 (by have := k1.mp z; omega))]
                exact h106 (by simp [d1])
          · rw [if_neg (fun z => c2 (ck6.mp z))]
            exact g76 (by unfold nOK; simp [c2])
        · rw [if_neg (fun z => c1 (by have := ck5.mp z; omega))]
          exact g76 (by unfold nOK; simp [c1])
  have ub := uA_bd hK hh m
  have ub2 := uB_bd hK hh m
  have hrm := hK.2.2.1 m hm
  rw [fX6_fitsNinth, mfreeA_spec (by omega) hK hh hR hO hA hm, cali_s, fX6_fitsNinth_24, fX6_fitsNinth_25]
  have c1 := J_lt (a := kRA K m - uA K h m) (b := a) (by omega) (by omega) (by omega) (by omega)
  have c2 := J_lt (a := kRB K m - uB K h m) (b := b) (by omega) (by omega) (by omega) (by omega)
  by_cases d1 : kRA K m - uA K h m < a
  · rw [if_pos (c1.mpr d1), decide_eq_false (by omega : ¬ a ≤ kRA K m - uA K h m), Bool.false_and]
    exact key false (kW K) 0 N (by omega) (by omega)
  · rw [if_neg (fun z => d1 (c1.mp z)), mfreeB_spec (by omega) hK hh hR hO hA hm, cali_s, decide_eq_true (by omega : a ≤ kRA K m - uA K h m), Bool.true_and]
    by_cases d2 : kRB K m - uB K h m < b
    · rw [if_pos (c2.mpr d2), decide_eq_false (by omega : ¬ b ≤ kRB K m - uB K h m), fX6_fitsNinth_24, fX6_fitsNinth_25]
      exact key false (kW K) 0 N (by omega) (by omega)
    · rw [if_neg (fun z => d2 (c2.mp z)), decide_eq_true (by omega : b ≤ kRB K m - uB K h m)]
      exact key true (kW K) 0 N (by omega) (by omega)
/-! the class: a newcomer is described, and comes -/
theorem StRep.below {σ σ1 : SS} {K : Kt} (h : StRep σ K) (h1 : ∀ x, 1 ≤ x → x ≤ 12 → x < 4 ∨ 10 < x → σ1 x = σ x) (h2 : ∀ x i, 4 ≤ x → x ≤ 10 → i < kW K → σ1 x i = σ x i) : StRep σ1 K := by
  obtain ⟨s1, s2, s3, s4, s5⟩ := h
  refine ⟨?_, ?_, fun m hm => ?_, fun w hw => ?_, fun w h3 h4 => ?_⟩
  · rw [h1 1 (by omega) (by omega) (by omega)]; exact s1
  · rw [h1 1 (by omega) (by omega) (by omega)]; exact s2
  · rw [h1 2 (by omega) (by omega) (by omega), h1 3 (by omega) (by omega) (by omega)]; exact s3 m hm
  · rw [h2 4 w (by omega) (by omega) hw, h2 5 w (by omega) (by omega) hw, h2 6 w (by omega) (by omega) hw, h2 7 w (by omega) (by omega) hw, h2 8 w (by omega) (by omega) hw, h2 9 w (by omega) (by omega) hw, h2 10 w (by omega) (by omega) hw, h1 11 (by omega) (by omega) (by omega), h1 12 (by omega) (by omega) (by omega)]
    exact s4 w hw
  · rw [h1 11 (by omega) (by omega) (by omega), h1 12 (by omega) (by omega) (by omega)]; exact s5 w h3 h4
theorem leastFriend_spec {σ : SS} {K : Kt} {N : Nat} {a b g : Int} (hN : 20 ≤ N) (hK : KOk K) (hS : StRep σ K) (hg : 0 ≤ g ∧ g < 4) : fX3_leastFriend N (J g) (J (kW K : Int)) σ = some (J (blk (addW K a b 2 g) (kW K) : Nat), σ) := by
  have hW := hK.2.1
  have key : ∀ (d j n : Nat), j + d = kW K → d < n → lp (fX3_leastFriend_2 N) (fun _ _ _ _ => none) n (J g) (J (kW K : Int)) (J (j : Int)) σ = some (J (lfr (fun v => frnd (addW K a b 2 g) (kW K) v) d j : Nat), σ) := by
    intro d
    induction d with
    | zero =>
      intro j n hj hn
      obtain ⟨n, rfl⟩ : ∃ n', n = n' + 1 := ⟨n - 1, by omega⟩
      rw [lp_succ, fX3_leastFriend_2, if_pos ((J_le (by omega) (by omega) (by omega) (by omega)).mpr (by omega))]
      have : j = kW K := by omega
      rw [← this]
      rfl
    | succ d ih =>
      intro j n hj hn
      obtain ⟨n, rfl⟩ : ∃ n', n = n' + 1 := ⟨n - 1, by omega⟩
      have hjW : j < kW K := by omega
      have kj := hK.2.2.2 j hjW
      obtain ⟨-, -, s6, s7, -⟩ := hS.2.2.2.1 j hjW
      have ef : frnd (addW K a b 2 g) (kW K) j = (kd K j == 2 && g == kg K j) := by
        unfold frnd
        rw [aw_new.2.2.1, aw_new.2.2.2, (aw_old (by omega)).2.2.1, (aw_old (by omega)).2.2.2]
        rfl
      have next : frnd (addW K a b 2 g) (kW K) j = false → fX3_leastFriend_29 N (lp (fX3_leastFriend_2 N) (fun _ _ _ _ => none) n) (J g) (J (kW K : Int)) (J (j : Int)) σ = some (J (lfr (fun v => frnd (addW K a b 2 g) (kW K) v) (d + 1) j : Nat), σ) := by
        intro e
        rw [fX3_leastFriend_29, J1, J_add, lfr, e, if_neg (by decide)]
        exact ih (j + 1) n (by omega) (by omega)
      rw [lp_succ, fX3_leastFriend_2, if_neg (fun q => by have := (J_le (by omega) (by omega) (by omega) (by omega)).mp q; omega)]
      simp (disch := omega) only [ck_J, J_nn]
      rw [s6]
      have c6 : J (kd K j : Int) = (2 : Int32) ↔ (kd K j : Int) = 2 := J_eq (a := (kd K j : Int)) (b := 2) (by omega) (by omega) (by omega) (by omega)
      by_cases c : kd K j = 2
      · have hb := kj.2.2.2.2.2.2.2 (Or.inr c)
        have c7 := J_eq (a := kg K j) (b := g) (by omega) (by omega) (by omega) (by omega)
        rw [if_pos (c6.mpr (by omega)), s7 c]
        by_cases c2 : kg K j = g
        · rw [if_pos (c7.mpr c2), lfr, ef, c, c2]
          simp
        · rw [if_neg (fun z => c2 (c7.mp z))]
          refine next ?_
          rw [ef, beq_eq_false_iff_ne.mpr (fun z => c2 z.symm), Bool.and_false]
      · rw [if_neg (fun z => c (by have := c6.mp z; omega))]
        exact next (by rw [ef]; simp [c])
  rw [fX3_leastFriend]
  exact key (kW K) 0 N (by omega) (by omega)
theorem bit_of {g : Int} (h : 0 ≤ g ∧ g < 4) : (1 : Int32) <<< (J g &&& (31 : Int32)) = bitOf g := by
  rcases (show g = 0 ∨ g = 1 ∨ g = 2 ∨ g = 3 by omega) with rfl | rfl | rfl | rfl <;> rfl
/-- what a newcomer's places hold -/
def NewAt (σ : SS) (w : Nat) (a b : Int) (k : Nat) (g : Int) (ld : Nat) : Prop := σ 4 w = J a ∧ σ 5 w = J b ∧ σ 6 w = J (k : Int) ∧ (k = 2 → σ 7 w = J g) ∧ (k ≠ 2 → σ 7 w = J (-1)) ∧ σ 8 w = (if k = 1 then bitOf g else 0) ∧ (k = 4 → σ 9 w = J g) ∧ σ 10 w = J (ld : Int)
theorem describe_spec {σ : SS} {K : Kt} {N : Nat} {a b g : Int} {k : Nat} (hN : 20 ≤ N) (hK : KOk K) (hS : StRep σ K) (hk : k ≤ 4) (hg2 : k = 1 ∨ k = 2 → 0 ≤ g ∧ g < 4) : ∃ σ1, fX3_describeNewcomer N (J a) (J b) (J (k : Int)) (J g) σ = some (J (kW K : Int), σ1) ∧ NewAt σ1 (kW K) a b k g (blk (addW K a b k g) (kW K)) ∧ (∀ x, x < 4 ∨ 10 < x → σ1 x = σ x) ∧ (∀ x i, i < kW K → σ1 x i = σ x i) := by
  have hW := hK.2.1
  have e1 : J (k : Int) = (1 : Int32) ↔ (k : Int) = 1 := J_eq (a := (k : Int)) (b := 1) (by omega) (by omega) (by omega) (by omega)
  have e2 : J (k : Int) = (2 : Int32) ↔ (k : Int) = 2 := J_eq (a := (k : Int)) (b := 2) (by omega) (by omega) (by omega) (by omega)
  have e4 : J (k : Int) = (4 : Int32) ↔ (k : Int) = 4 := J_eq (a := (k : Int)) (b := 4) (by omega) (by omega) (by omega) (by omega)
  -- a state in which 4 .. 9 are told
  have fin : ∀ (s : SS) (v7 v8 v9 : Int32), (k = 2 → v7 = J g) → (k ≠ 2 → v7 = J (-1)) → v8 = (if k = 1 then bitOf g else 0) → (k = 4 → v9 = J g) → s = stp (stp (stp (stp (stp (stp σ 4 (upd (σ 4) (kW K) (J a))) 5 (upd (σ 5) (kW K) (J b))) 6 (upd (σ 6) (kW K) (J (k : Int)))) 7 (upd (σ 7) (kW K) v7)) 8 (upd (σ 8) (kW K) v8)) 9 (upd (σ 9) (kW K) v9) → ∃ σ1, fX3_describeNewcomer_110 N (J (kW K : Int)) (J (blk (addW K a b k g) (kW K) : Nat)) (J (kW K : Int)) s = some (J (kW K : Int), σ1) ∧ NewAt σ1 (kW K) a b k g (blk (addW K a b k g) (kW K)) ∧ (∀ x, x < 4 ∨ 10 < x → σ1 x = σ x) ∧ (∀ x i, i < kW K → σ1 x i = σ x i) := by
    intro s v7 v8 v9 h7 h7' h8 h9 hs
    rw [fX3_describeNewcomer_110, ck_J (by omega) (by omega) (by omega), J_nn (by omega), sg]
    refine ⟨_, rfl, ⟨?_, ?_, ?_, fun z => ?_, fun z => ?_, ?_, fun z => ?_, ?_⟩, fun x hx => ?_, fun x i hi => ?_⟩
    · rw [hs]; simp (disch := omega) only [stp_s, stp_n, upd_s]
    · rw [hs]; simp (disch := omega) only [stp_s, stp_n, upd_s]
    · rw [hs]; simp (disch := omega) only [stp_s, stp_n, upd_s]
    · rw [hs]; simp (disch := omega) only [stp_s, stp_n, upd_s]; exact h7 z
    · rw [hs]; simp (disch := omega) only [stp_s, stp_n, upd_s]; exact h7' z
    · rw [hs]; simp (disch := omega) only [stp_s, stp_n, upd_s]; exact h8
    · rw [hs]; simp (disch := omega) only [stp_s, stp_n, upd_s]; exact h9 z
    · rw [stp_s, upd_s]
    · rw [hs]; simp (disch := omega) only [stp_n]
    · rw [hs]
      have hne : i ≠ kW K := by omega
      by_cases c4 : x = 4
      · subst c4; simp (disch := omega) only [stp_s, stp_n, upd_n]
      by_cases c5 : x = 5
      · subst c5; simp (disch := omega) only [stp_s, stp_n, upd_n]
      by_cases c6 : x = 6
      · subst c6; simp (disch := omega) only [stp_s, stp_n, upd_n]
      by_cases c7 : x = 7
      · subst c7; simp (disch := omega) only [stp_s, stp_n, upd_n]
      by_cases c8 : x = 8
      · subst c8; simp (disch := omega) only [stp_s, stp_n, upd_n]
      by_cases c9 : x = 9
      · subst c9; simp (disch := omega) only [stp_s, stp_n, upd_n]
      by_cases c10 : x = 10
      · subst c10; simp (disch := omega) only [stp_s, stp_n, upd_n]
      simp (disch := omega) only [stp_n]
  have own : k ≠ 2 → blk (addW K a b k g) (kW K) = kW K := fun z => blk_own (by rw [aw_new.2.2.1]; exact z)
  rw [fX3_describeNewcomer, hS.2.1]
  simp (disch := omega) only [ck_J, J_nn, sg, stp_s, stp_n, fX3_describeNewcomer_47, fX3_describeNewcomer_67, fX3_describeNewcomer_85]
  by_cases c1 : k = 1
  · simp only [if_pos (e1.mpr (by omega)), if_neg (fun z => (by have := e4.mp z; omega) : ¬ J (k : Int) = 4), if_neg (fun z => (by have := e2.mp z; omega) : ¬ J (k : Int) = 2)]
    have := fin _ (-1) ((1 : Int32) <<< (J g &&& (31 : Int32))) (-1) (fun z => by omega) (fun _ => rfl) (by rw [if_pos c1]; exact bit_of (hg2 (Or.inl c1))) (fun z => by omega) rfl
    rw [own (by omega)] at this ⊢
    exact this
  by_cases c2 : k = 2
  · simp only [if_neg (fun z => (by have := e1.mp z; omega) : ¬ J (k : Int) = 1), if_pos (e2.mpr (by omega)), if_neg (fun z => (by have := e4.mp z; omega) : ¬ J (k : Int) = 4)]
    have q := fin _ (J g) 0 (-1) (fun _ => rfl) (fun z => absurd c2 z) (by rw [if_neg c1]) (fun z => by omega) rfl
    generalize hs : stp (stp (stp (stp (stp (stp σ 4 (upd (σ 4) (kW K) (J a))) 5 (upd (σ 5) (kW K) (J b))) 6 (upd (σ 6) (kW K) (J (k : Int)))) 7 (upd (σ 7) (kW K) (J g))) 8 (upd (σ 8) (kW K) 0)) 9 (upd (σ 9) (kW K) (-1)) = s at q ⊢
    have hSs : StRep s K := by
      refine hS.below (fun x _ _ hx => ?_) (fun x i _ _ hi => ?_)
      · rw [← hs]; simp (disch := omega) only [stp_n]
      · obtain ⟨σ1, f1, -, -, f4⟩ := q
        rw [← f4 x i hi]
        rw [fX3_describeNewcomer_110, ck_J (by omega) (by omega) (by omega), J_nn (by omega), sg] at f1
        cases f1
        by_cases c10 : x = 10
        · subst c10; rw [stp_s, upd_n (by omega)]
        · rw [stp_n c10]
    subst c2
    rw [leastFriend_spec (a := a) (b := b) hN hK hSs (hg2 (Or.inr rfl)), cali_s]
    exact q
  · simp only [if_neg (fun z => (by have := e1.mp z; omega) : ¬ J (k : Int) = 1), if_neg (fun z => (by have := e2.mp z; omega) : ¬ J (k : Int) = 2)]
    rw [own c2] at fin ⊢
    by_cases c4 : k = 4
    · simp only [if_pos (e4.mpr (by omega))]
      exact fin _ (-1) 0 (J g) (fun z => absurd z c2) (fun _ => rfl) (by rw [if_neg c1]) (fun _ => rfl) rfl
    · simp only [if_neg (fun z => (by have := e4.mp z; omega) : ¬ J (k : Int) = 4)]
      exact fin _ (-1) 0 (-1) (fun z => absurd z c2) (fun _ => rfl) (by rw [if_neg c1]) (fun z => absurd z c4) rfl
theorem blk_ge {K : Kt} {n b : Nat} (h : n ≤ b) : ∀ w, w < n → blk K w ≠ b := fun w hw e => by have := blk_le K w; omega
theorem aw_bA {K : Kt} {a b g : Int} {k w : Nat} : bA (addW K a b k g) w = bA K w + (if blk (addW K a b k g) (kW K) = w then a else 0) ∧ bB (addW K a b k g) w = bB K w + (if blk (addW K a b k g) (kW K) = w then b else 0) := by
  constructor
  · show sm (kW K) (fun v => if blk (addW K a b k g) v = w then kA (addW K a b k g) v else 0) + (if blk (addW K a b k g) (kW K) = w then kA (addW K a b k g) (kW K) else 0) = _
    rw [aw_new.1]
    congr 1
    refine sm_congr (fun v hv => ?_)
    rw [aw_blk hv, (aw_old (by omega)).1]
  · show sm (kW K) (fun v => if blk (addW K a b k g) v = w then kB (addW K a b k g) v else 0) + (if blk (addW K a b k g) (kW K) = w then kB (addW K a b k g) (kW K) else 0) = _
    rw [aw_new.2.1]
    congr 1
    refine sm_congr (fun v hv => ?_)
    rw [aw_blk hv, (aw_old (by omega)).2.1]
theorem bA_out {K : Kt} {w : Nat} (h : kW K ≤ w) : bA K w = 0 ∧ bB K w = 0 := ⟨sm_zero (fun v hv => if_neg (blk_ge h v hv)), sm_zero (fun v hv => if_neg (blk_ge h v hv))⟩
theorem addNewcomer_spec {σ : SS} {K : Kt} {a b g : Int} {k : Nat} (N : Nat) (hW : kW K < 8) (hS : StRep σ K) (hn : NewAt σ (kW K) a b k g (blk (addW K a b k g) (kW K))) : ∃ σ1, fX3_addNewcomer N σ = some σ1 ∧ StRep σ1 (addW K a b k g) ∧ (∀ x, x ≠ 1 → x ≠ 11 → x ≠ 12 → σ1 x = σ x) := by
  have hle := blk_le (addW K a b k g) (kW K)
  obtain ⟨n4, n5, n6, n7, n7', n8, n9, n10⟩ := hn
  have e11 : ∀ w, w < 9 → σ 11 w = J (bA K w) ∧ σ 12 w = J (bB K w) := by
    intro w hw
    by_cases c : w < kW K
    · obtain ⟨-, -, -, -, -, -, -, -, h11, h12⟩ := hS.2.2.2.1 w c
      exact ⟨h11, h12⟩
    · rw [(bA_out (show kW K ≤ w by omega)).1, (bA_out (show kW K ≤ w by omega)).2]
      exact hS.2.2.2.2 w (by omega) hw
  rw [fX3_addNewcomer, hS.2.1]
  simp (disch := omega) only [J_nn, n10]
  simp (disch := omega) only [ck_J, J_nn, sg, stp_s, stp_n, n4, n5, hS.2.1]
  generalize hl : blk (addW K a b k g) (kW K) = l at hle n10
  have f11 : ∀ w, w < 9 → upd (σ 11) l (σ 11 l + J a) w = J (bA (addW K a b k g) w) ∧ upd (σ 12) l (σ 12 l + J b) w = J (bB (addW K a b k g) w) := by
    intro w hw
    rw [aw_bA.1, aw_bA.2, hl]
    by_cases c : w = l
    · subst c
      rw [upd_s, upd_s, (e11 w hw).1, (e11 w hw).2, J_add, J_add, if_pos rfl, if_pos rfl]
      exact ⟨rfl, rfl⟩
    · rw [upd_n c, upd_n c, (e11 w hw).1, (e11 w hw).2, if_neg (fun z => c z.symm), if_neg (fun z => c z.symm), Int.add_zero, Int.add_zero]
      exact ⟨rfl, rfl⟩
  refine ⟨_, rfl, ⟨?_, ?_, fun m hm => ?_, fun w hw => ?_, fun w h3 h4 => ?_⟩, fun x h1 h2 h3 => ?_⟩
  · simp (disch := omega) only [stp_s, stp_n, upd_n]; exact hS.1
  · simp (disch := omega) only [stp_s, stp_n, upd_s]; rw [J1, J_add]; rfl
  · simp (disch := omega) only [stp_n]; exact hS.2.2.1 m hm
  · have hw2 : w < kW K + 1 := hw
    simp (disch := omega) only [stp_s, stp_n]
    rw [(f11 w (by omega)).1, (f11 w (by omega)).2]
    by_cases c : w = kW K
    · subst c
      obtain ⟨i1, i2, i3, i4⟩ := aw_new (K := K) (a := a) (b := b) (k := k) (g := g)
      rw [i1, i2, i3, i4, hl]
      exact ⟨n4, n5, n6, n7, n7', n8, n9, n10, rfl, rfl⟩
    · obtain ⟨i1, i2, i3, i4⟩ := aw_old (K := K) (a := a) (b := b) (k := k) (g := g) c
      rw [i1, i2, i3, i4, aw_blk (by omega)]
      obtain ⟨m4, m5, m6, m7, m7', m8, m9, m10, -, -⟩ := hS.2.2.2.1 w (by omega)
      exact ⟨m4, m5, m6, m7, m7', m8, m9, m10, rfl, rfl⟩
  · have h5 : kW K + 1 ≤ w := h3
    simp (disch := omega) only [stp_s, stp_n]
    rw [upd_n (by omega), upd_n (by omega)]
    exact hS.2.2.2.2 w (by omega) h4
  · simp (disch := omega) only [stp_n]
