/-! a work comes -/
def addW (K : Kt) (a b : Int) (k : Nat) (g : Int) : Kt := (kM K, kW K + 1, kRA K, kRB K, fun w => if w = kW K then a else kA K w, fun w => if w = kW K then b else kB K w, fun w => if w = kW K then k else kd K w, fun w => if w = kW K then g else kg K w)
theorem lfr_congr {p q : Nat → Bool} : ∀ n v, (∀ u, v ≤ u → u < v + n → p u = q u) → lfr p n v = lfr q n v := by
  intro n
  induction n with
  | zero => intro v _; rfl
  | succ n ih =>
    intro v h
    unfold lfr
    rw [h v (Nat.le_refl _) (by omega), ih (v + 1) (fun u h1 h2 => h u (by omega) (by omega))]
theorem tk_parts {K : Kt} {ρ : Ro} {w m : Nat} {a b : Int} {k : Nat} {g : Int} {ld : Nat} : tk K ρ w m a b k g ld = true ↔ a ≤ kRA K m - uA K ρ m ∧ b ≤ kRB K m - uB K ρ m ∧ (k = 1 → ht K ρ m g.toNat = false) ∧ (ld = w ∨ ρ ld = some m) := by
  unfold tk
  simp only [Bool.and_eq_true, Bool.or_eq_true, Bool.not_eq_true', decide_eq_true_eq, beq_iff_eq, beq_eq_false_iff_ne]
  constructor
  · rintro ⟨⟨⟨h2, h3⟩, h4⟩, h5⟩
    exact ⟨h2, h3, fun q => h4.resolve_left (fun z => z q), h5⟩
  · rintro ⟨h2, h3, h4, h5⟩
    refine ⟨⟨⟨h2, h3⟩, ?_⟩, h5⟩
    by_cases c : k = 1
    · exact Or.inr (h4 c)
    · exact Or.inl c
section ADD
variable {K : Kt} {a b g : Int} {k m : Nat} {h : Ro}
theorem aw_old {w : Nat} (hw : w ≠ kW K) : kA (addW K a b k g) w = kA K w ∧ kB (addW K a b k g) w = kB K w ∧ kd (addW K a b k g) w = kd K w ∧ kg (addW K a b k g) w = kg K w := by
  refine ⟨?_, ?_, ?_, ?_⟩
  · show (if w = kW K then a else kA K w) = kA K w
    exact if_neg hw
  · show (if w = kW K then b else kB K w) = kB K w
    exact if_neg hw
  · show (if w = kW K then k else kd K w) = kd K w
    exact if_neg hw
  · show (if w = kW K then g else kg K w) = kg K w
    exact if_neg hw
theorem aw_new : kA (addW K a b k g) (kW K) = a ∧ kB (addW K a b k g) (kW K) = b ∧ kd (addW K a b k g) (kW K) = k ∧ kg (addW K a b k g) (kW K) = g := by
  refine ⟨?_, ?_, ?_, ?_⟩
  · show (if kW K = kW K then a else kA K (kW K)) = a
    exact if_pos rfl
  · show (if kW K = kW K then b else kB K (kW K)) = b
    exact if_pos rfl
  · show (if kW K = kW K then k else kd K (kW K)) = k
    exact if_pos rfl
  · show (if kW K = kW K then g else kg K (kW K)) = g
    exact if_pos rfl
theorem aw_frnd {w v : Nat} (hw : w ≠ kW K) (hv : v ≠ kW K) : frnd (addW K a b k g) w v = frnd K w v := by
  unfold frnd
  rw [(aw_old hw).2.2.1, (aw_old hw).2.2.2, (aw_old hv).2.2.1, (aw_old hv).2.2.2]
theorem aw_twin {w v : Nat} (hw : w ≠ kW K) (hv : v ≠ kW K) : twin (addW K a b k g) w v = twin K w v := by
  unfold twin
  rw [(aw_old hw).2.2.1, (aw_old hw).2.2.2, (aw_old hv).2.2.1, (aw_old hv).2.2.2]
theorem aw_blk {w : Nat} (hw : w < kW K) : blk (addW K a b k g) w = blk K w := lfr_congr w 0 (fun u _ h2 => aw_frnd (by omega) (by omega))
theorem aw_ro (hh : RoOk K h) : RoOk (addW K a b k g) h := fun w x e => ⟨Nat.lt_succ_of_lt (hh w x e).1, (hh w x e).2⟩
theorem aw_none (hh : RoOk K h) : h (kW K) = none := by
  cases e : h (kW K) with
  | none => rfl
  | some x => exact absurd (hh _ x e).1 (Nat.lt_irrefl _)
theorem aw_u (hh : RoOk K h) (x : Nat) : uA (addW K a b k g) h x = uA K h x ∧ uB (addW K a b k g) h x = uB K h x := by
  constructor
  · refine sm_congr (fun w _ => ?_)
    by_cases c : h w = some x
    · rw [if_pos c, if_pos c, (aw_old (Nat.ne_of_lt (hh w x c).1)).1]
    · rw [if_neg c, if_neg c]
  · refine sm_congr (fun w _ => ?_)
    by_cases c : h w = some x
    · rw [if_pos c, if_pos c, (aw_old (Nat.ne_of_lt (hh w x c).1)).2.1]
    · rw [if_neg c, if_neg c]
theorem aw_ht (hh : RoOk K h) (x y : Nat) : ht (addW K a b k g) h x y = ht K h x y := by
  apply Bool.eq_iff_iff.mpr
  simp only [ht, List.any_eq_true, List.mem_range, Bool.and_eq_true, beq_iff_eq]
  constructor
  · rintro ⟨w, h1, ⟨h2, h3⟩, h4⟩
    have hw := aw_old (K := K) (a := a) (b := b) (k := k) (g := g) (Nat.ne_of_lt (hh w x h2).1)
    rw [hw.2.2.1] at h3
    rw [hw.2.2.2] at h4
    exact ⟨w, h1, ⟨h2, h3⟩, h4⟩
  · rintro ⟨w, h1, ⟨h2, h3⟩, h4⟩
    have hw := aw_old (K := K) (a := a) (b := b) (k := k) (g := g) (Nat.ne_of_lt (hh w x h2).1)
    rw [← hw.2.2.1] at h3
    rw [← hw.2.2.2] at h4
    exact ⟨w, h1, ⟨h2, h3⟩, h4⟩
theorem aw_row {σ : SS} (hh : RoOk K h) (hR : RowRep σ 13 K h) : RowRep (stp σ 14 (upd (σ 14) (kW K) (-1))) 13 (addW K a b k g) h := by
  obtain ⟨r1, r2, r3⟩ := hR
  refine ⟨fun w hw => ?_, fun x hx => ?_, by rw [stp_n (by omega)]; exact r3⟩
  · have hw2 : w < kW K + 1 ∨ (13 = 21 ∧ w < 8) := hw
    show stp σ 14 (upd (σ 14) (kW K) (-1)) 14 w = rv (h w)
    rw [stp_s]
    by_cases c : w = kW K
    · subst c
      rw [upd_s, aw_none hh]
      rfl
    · rw [upd_n c]
      exact r1 w (by omega)
  · rw [(aw_u hh x).1, (aw_u hh x).2]
    obtain ⟨x1, x2, x3, x4⟩ := r2 x hx
    refine ⟨by rw [stp_n (by omega)]; exact x1, by rw [stp_n (by omega)]; exact x2, by rw [stp_n (by omega)]; exact x3, ?_⟩
    rw [stp_n (by omega), x4]
    exact tw_ext (fun y _ => (aw_ht hh x y).symm)
theorem put_over {σ : SS} {r w : Nat} {x a2 : Int32} (N : Nat) (hw : w < 8) : fX1_put N r (J (w : Int)) a2 (stp σ (r + 1) (upd (σ (r + 1)) w x)) = fX1_put N r (J (w : Int)) a2 σ := by
  have e : stp (stp σ (r + 1) (upd (σ (r + 1)) w x)) (r + 1) (upd (stp σ (r + 1) (upd (σ (r + 1)) w x) (r + 1)) w a2) = stp σ (r + 1) (upd (σ (r + 1)) w a2) := by
    funext k i
    by_cases c : k = r + 1
    · subst c
      rw [stp_s, stp_s, stp_s]
      by_cases c2 : i = w
      · subst c2; rw [upd_s, upd_s]
      · rw [upd_n c2, upd_n c2, upd_n c2]
    · rw [stp_n c, stp_n c, stp_n c]
  rw [fX1_put, fX1_put, J_nn (by omega), e]
theorem aw_K (hK : KOk K) (hW : kW K < 8) (ha : 0 ≤ a ∧ a ≤ 1000) (hb : 0 ≤ b ∧ b ≤ 1000) (hk : k ≤ 4) (hg : -2147483648 ≤ g ∧ g < 2147483648) (hg2 : k = 1 ∨ k = 2 → 0 ≤ g ∧ g < 4) : KOk (addW K a b k g) := by
  refine ⟨hK.1, (show kW K + 1 ≤ 8 from by omega), hK.2.2.1, fun w hw => ?_⟩
  have hw2 : w < kW K + 1 := hw
  by_cases c : w = kW K
  · subst c
    obtain ⟨e1, e2, e3, e4⟩ := aw_new (K := K) (a := a) (b := b) (k := k) (g := g)
    rw [e1, e2, e3, e4]
    exact ⟨ha.1, ha.2, hb.1, hb.2, hk, hg.1, hg.2, hg2⟩
  · obtain ⟨e1, e2, e3, e4⟩ := aw_old (K := K) (a := a) (b := b) (k := k) (g := g) c
    rw [e1, e2, e3, e4]
    exact hK.2.2.2 w (by omega)
theorem aw_H (hK1 : KOk (addW K a b k g)) (hH : HOk K h) (hm : m < kM K) (htk : tk K h (kW K) m a b k g (blk (addW K a b k g) (kW K)) = true) : HOk (addW K a b k g) (rset h (kW K) (some m)) := by
  have hn := aw_none hH.1
  have ho : OvOk (addW K a b k g) (ovf (rset h (kW K) (some m))) := by
    intro w hw e
    have hw2 : w < kW K + 1 := hw
    unfold ovf at e
    by_cases c : w = kW K
    · subst c
      rw [rset_self] at e
      cases e
    · simp only [rset, if_neg c] at e
      rw [(aw_old c).2.2.1]
      refine hH.2.2.2.2 w (by omega) ?_
      cases z : h w with
      | none => rfl
      | some x => rw [z] at e; cases e
  have hp : PR (addW K a b k g) (rset h (kW K) (some m)) (3, 0, 0, 0) (ovf (rset h (kW K) (some m))) h (kW K) := by
    refine ⟨aw_ro hH.1, fun v => ?_, ?_, ?_, fun x hx => ?_, fun v hv _ => ?_, rfl⟩
    · constructor
      · intro e
        obtain ⟨x, hx⟩ := Option.isSome_iff_exists.mp e
        have hv := (hH.1 v x hx).1
        refine ⟨hv, Nat.lt_succ_of_lt hv, ?_⟩
        unfold ovf rset
        rw [if_neg (by omega), hx]
        rfl
      · rintro ⟨h1, -, h3⟩
        unfold ovf rset at h3
        rw [if_neg (by omega)] at h3
        cases z : h v with
        | none => rw [z] at h3; cases h3
        | some x => rfl
    · intro v u x hvu ht h1 h2
      rw [aw_twin (Nat.ne_of_lt (hH.1 v x h1).1) (Nat.ne_of_lt (hH.1 u x h2).1)] at ht
      exact hH.2.1 v u x hvu ht h1 h2
    · intro v u x y hf h1 h2
      rw [aw_frnd (Nat.ne_of_lt (hH.1 v x h1).1) (Nat.ne_of_lt (hH.1 u y h2).1)] at hf
      exact hH.2.2.1 v u x y hf h1 h2
    · rw [(aw_u hH.1 x).1, (aw_u hH.1 x).2]
      exact hH.2.2.2.1 x hx
    · obtain ⟨x, hx⟩ := Option.isSome_iff_exists.mp hv
      have := (hH.1 v x hx).1
      unfold rset
      rw [if_neg (by omega)]
  obtain ⟨k1, k2, k3, k4⟩ := tk_parts.mp htk
  have hok : okT (addW K a b k g) (rset h (kW K) (some m)) (3, 0, 0, 0) h (kW K) m = true := by
    refine okT_parts.mpr ⟨fun _ => rset_self, ?_, ?_, ?_, k4, rfl⟩
    · rw [aw_new.1, (aw_u hH.1 m).1]; exact k1
    · rw [aw_new.2.1, (aw_u hH.1 m).2]; exact k2
    · rw [aw_new.2.2.1, aw_new.2.2.2, aw_ht hH.1]; exact k3
  have q := PR_set hK1 ho hp (Nat.lt_succ_self (kW K)) (by unfold ovf; rw [rset_self]; rfl) hm hok
  exact ⟨q.1, q.2.2.1, q.2.2.2.1, q.2.2.2.2.1, fun w hw e => ho w hw (by unfold ovf; rw [e]; rfl)⟩
/-! the reference: whether what stands is right -/
def capB (K : Kt) (h : Ro) : Nat → Bool
  | 0 => true
  | m + 1 => capB K h m && (decide (uA K h m ≤ kRA K m) && decide (uB K h m ≤ kRB K m))
def pOK (K : Kt) (h : Ro) (w v : Nat) : Bool := (ovf h w || ovf h v) || ((!(lik K w v 1) || h w != h v) && (!(lik K w v 2) || h w == h v))
def prI (K : Kt) (h : Ro) (w : Nat) : Nat → Bool
  | 0 => true
  | v + 1 => prI K h w v && pOK K h w v
def prB (K : Kt) (h : Ro) : Nat → Bool
  | 0 => true
  | w + 1 => prB K h w && prI K h w w
theorem capB_true {K : Kt} {h : Ro} : ∀ n, capB K h n = true ↔ ∀ m, m < n → uA K h m ≤ kRA K m ∧ uB K h m ≤ kRB K m := by
  intro n
  induction n with
  | zero => exact ⟨fun _ m hm => absurd hm (Nat.not_lt_zero _), fun _ => rfl⟩
  | succ n ih =>
    rw [capB, Bool.and_eq_true, Bool.and_eq_true, decide_eq_true_eq, decide_eq_true_eq, ih]
    constructor
    · rintro ⟨h1, h2⟩ m hm
      by_cases c : m = n
      · subst c; exact h2
      · exact h1 m (by omega)
    · intro h1
      exact ⟨fun m hm => h1 m (by omega), h1 n (by omega)⟩
theorem prI_true {K : Kt} {h : Ro} {w : Nat} : ∀ n, prI K h w n = true ↔ ∀ v, v < n → pOK K h w v = true := by
  intro n
  induction n with
  | zero => exact ⟨fun _ m hm => absurd hm (Nat.not_lt_zero _), fun _ => rfl⟩
  | succ n ih =>
    rw [prI, Bool.and_eq_true, ih]
    constructor
    · rintro ⟨h1, h2⟩ m hm
      by_cases c : m = n
      · subst c; exact h2
      · exact h1 m (by omega)
    · intro h1
      exact ⟨fun m hm => h1 m (by omega), h1 n (by omega)⟩
theorem prB_true {K : Kt} {h : Ro} : ∀ n, prB K h n = true ↔ ∀ w, w < n → ∀ v, v < w → pOK K h w v = true := by
  intro n
  induction n with
  | zero => exact ⟨fun _ m hm => absurd hm (Nat.not_lt_zero _), fun _ => rfl⟩
  | succ n ih =>
    rw [prB, Bool.and_eq_true, ih, prI_true]
    constructor
    · rintro ⟨h1, h2⟩ m hm
      by_cases c : m = n
      · subst c; exact h2
      · exact h1 m (by omega)
    · intro h1
      exact ⟨fun m hm => h1 m (by omega), h1 n (by omega)⟩
theorem pOK_true {K : Kt} {h : Ro} {w v : Nat} : pOK K h w v = true ↔ ∀ x y, h w = some x → h v = some y → (twin K w v = true → x ≠ y) ∧ (frnd K w v = true → x = y) := by
  unfold pOK ovf
  rw [show lik K w v 1 = twin K w v from rfl, show lik K w v 2 = frnd K w v from rfl]
  cases e1 : h w with
  | none => exact ⟨fun _ x y z => (by cases z), fun _ => rfl⟩
  | some x =>
    cases e2 : h v with
    | none => exact ⟨fun _ x y _ z => (by cases z), fun _ => rfl⟩
    | some y =>
      simp only [Option.isNone_some, Bool.or_self, Bool.false_or, Bool.and_eq_true, Bool.or_eq_true, Bool.not_eq_true', bne_iff_ne, beq_iff_eq, ne_eq, Option.some.injEq]
      constructor
      · rintro ⟨h1, h2⟩ x' y' rfl rfl
        refine ⟨fun z => h1.resolve_left (by rw [z]; decide), fun z => h2.resolve_left (by rw [z]; decide)⟩
      · intro hq
        obtain ⟨h1, h2⟩ := hq x y rfl rfl
        refine ⟨?_, ?_⟩
        · cases z : twin K w v with
          | false => exact Or.inl rfl
          | true => exact Or.inr (h1 z)
        · cases z : frnd K w v with
          | false => exact Or.inl rfl
          | true => exact Or.inr (h2 z)
theorem rgt_new (hK1 : KOk (addW K a b k g)) (hH : HOk K h) (hm : m < kM K) : (capB (addW K a b k g) (rset h (kW K) (some m)) (kM K) && prB (addW K a b k g) (rset h (kW K) (some m)) (kW K + 1)) = tk K h (kW K) m a b k g (blk (addW K a b k g) (kW K)) := by
  have hn := aw_none hH.1
  have hW : kW K + 1 ≤ 8 := hK1.2.1
  have hold : ∀ v, v < kW K → rset h (kW K) (some m) v = h v := fun v hv => by
    unfold rset
    rw [if_neg (by omega)]
  apply Bool.eq_iff_iff.mpr
  rw [Bool.and_eq_true, capB_true, prB_true]
  constructor
  · rintro ⟨h1, h2⟩
    have hc := h1 m hm
    rw [uA_set (by omega) hn, uB_set (by omega) hn, if_pos rfl, if_pos rfl, (aw_u hH.1 m).1, (aw_u hH.1 m).2, aw_new.1, aw_new.2.1] at hc
    have hc1 : uA K h m + a ≤ kRA K m := hc.1
    have hc2 : uB K h m + b ≤ kRB K m := hc.2
    refine tk_parts.mpr ⟨by omega, by omega, fun hk1 => ?_, ?_⟩
    · have e : ht (addW K a b k g) h m (kg (addW K a b k g) (kW K)).toNat = ht K h m g.toNat := by rw [aw_ht hH.1, aw_new.2.2.2]
      have hd : kd (addW K a b k g) (kW K) = 1 := by rw [aw_new.2.2.1]; exact hk1
      rw [← e]
      refine (ht_and hK1 (Nat.lt_succ_self (kW K)) hd).mpr (fun v _ hv1 hv2 hv3 => ?_)
      have hvW := (hH.1 v m hv1).1
      have hp := pOK_true.mp (h2 (kW K) (by omega) v hvW) m m rset_self (by rw [hold v hvW]; exact hv1)
      exact hp.1 (twin_true.mpr ⟨hd, hv2, hv3.symm⟩) rfl
    · by_cases c : blk (addW K a b k g) (kW K) = kW K
      · exact Or.inl c
      · right
        have hle := blk_le (addW K a b k g) (kW K)
        have hf := blk_frnd c
        generalize blk (addW K a b k g) (kW K) = l at c hle hf
        have hl : l < kW K := by omega
        have hd := (frnd_true.mp hf).2.1
        rw [(aw_old (by omega)).2.2.1] at hd
        cases z : h l with
        | none => have := hH.2.2.2.2 l hl z; omega
        | some x =>
          have hp := pOK_true.mp (h2 (kW K) (by omega) l hl) m x rset_self (by rw [hold l hl]; exact z)
          rw [hp.2 hf]
  · intro htk
    have H1 := aw_H hK1 hH hm htk
    exact ⟨fun x hx => H1.2.2.2.1 x hx, fun w hw v hv => pOK_true.mpr (fun x y hx hy => ⟨fun ht e => H1.2.1 w v x (by omega) ht hx (by rw [hy, e]), fun hf => H1.2.2.1 w v x y hf hx hy⟩)⟩
end ADD
theorem isRight_spec {τ : SS} {K : Kt} {h : Ro} {N : Nat} (hN : 20 ≤ N) (hK : KOk K) (hh : RoOk K h) (hR : MdRep τ K) (hO : MdOv τ K (ovf h)) (hA : MdAt τ K 7 h) : fX6_isRight N τ = some (bz (capB K h (kM K) && prB K h (kW K)), τ) := by
  have hW := hK.2.1
  have hM := hK.1
  have pairs : ∀ (r : Bool) (d j n : Nat), j + d = kW K → d < n → lp (fX6_isRight_142 N) (fun _ _ _ => none) n (bz (r && prB K h j)) (J (j : Int)) τ = some (bz (r && prB K h (kW K)), τ) := by
    intro r d
    induction d with
    | zero =>
      intro j n hj hn
      obtain ⟨n, rfl⟩ : ∃ n', n = n' + 1 := ⟨n - 1, by omega⟩
      have ej : j = kW K := by omega
      subst ej
      rw [lp_succ, fX6_isRight_142, hR.2.1, if_pos ((J_le (by omega) (by omega) (by omega) (by omega)).mpr (by omega))]
      cases (r && prB K h (kW K)) <;> rfl
    | succ d ih =>
      intro j n hj hn
      obtain ⟨n, rfl⟩ : ∃ n', n = n' + 1 := ⟨n - 1, by omega⟩
      have hjW : j < kW K := by omega
      have inner : ∀ (d2 c i : Nat), c + d2 = j → d2 < i → lp (fX6_isRight_152 N (lp (fX6_isRight_142 N) (fun _ _ _ => none) n)) (fun _ _ _ _ => none) i (bz ((r && prB K h j) && prI K h j c)) (J (j : Int)) (J (c : Int)) τ = some (bz (r && prB K h (kW K)), τ) := by
        intro d2
        induction d2 with
        | zero =>
          intro c i hc hi
          obtain ⟨i, rfl⟩ : ∃ n', i = n' + 1 := ⟨i - 1, by omega⟩
          have ec : c = j := by omega
          subst ec
          rw [lp_succ, fX6_isRight_152, if_pos ((J_le (by omega) (by omega) (by omega) (by omega)).mpr (by omega)), J1, J_add]
          have := ih (c + 1) n (by omega) (by omega)
          rw [prB] at this
          rw [Bool.and_assoc]
          exact this
        | succ d2 ih2 =>
          intro c i hc hi
          obtain ⟨i, rfl⟩ : ∃ n', i = n' + 1 := ⟨i - 1, by omega⟩
          have hcW : c < kW K := by omega
          have hx := ih2 (c + 1) i (by omega) (by omega)
          rw [prI, ← Bool.and_assoc] at hx
          generalize ((r && prB K h j) && prI K h j c) = x at hx
          have go : ∀ y : Bool, y = (x && pOK K h j c) → fX6_isRight_235 N (lp (fX6_isRight_142 N) (fun _ _ _ => none) n) (lp (fX6_isRight_152 N (lp (fX6_isRight_142 N) (fun _ _ _ => none) n)) (fun _ _ _ _ => none) i) (bz y) (J (j : Int)) (J (c : Int)) τ = some (bz (r && prB K h (kW K)), τ) := by
            intro y hy
            rw [hy, fX6_isRight_235, J1, J_add]
            exact hx
          have g0 : (x && pOK K h j c) = false → fX6_isRight_233 N (lp (fX6_isRight_142 N) (fun _ _ _ => none) n) (lp (fX6_isRight_152 N (lp (fX6_isRight_142 N) (fun _ _ _ => none) n)) (fun _ _ _ _ => none) i) (J (j : Int)) (J (c : Int)) τ = some (bz (r && prB K h (kW K)), τ) := by
            intro e
            rw [fX6_isRight_233, fX6_isRight_234]
            exact go false e.symm
          have g1 : (x && pOK K h j c) = true → fX6_isRight_229 N (lp (fX6_isRight_142 N) (fun _ _ _ => none) n) (lp (fX6_isRight_152 N (lp (fX6_isRight_142 N) (fun _ _ _ => none) n)) (fun _ _ _ _ => none) i) (J (j : Int)) (J (c : Int)) τ = some (bz (r && prB K h (kW K)), τ) := by
            intro e
            rw [fX6_isRight_229, fX6_isRight_234]
            exact go true e.symm
          rw [lp_succ, fX6_isRight_152, if_neg (fun q => by have := (J_le (by omega) (by omega) (by omega) (by omega)).mp q; omega), ck_J (by omega) (by omega) (by omega), J_nn (by omega), hO j hjW]
          cases o1 : ovf h j with
          | true =>
            rw [if_neg (by decide)]
            exact go x (by unfold pOK; rw [o1, Bool.true_or, Bool.true_or, Bool.and_true])
          | false =>
            rw [if_pos bz_f, ck_J (by omega) (by omega) (by omega), J_nn (by omega), hO c hcW]
            cases o2 : ovf h c with
            | true =>
              rw [if_neg (by decide)]
              exact go x (by unfold pOK; rw [o2, Bool.or_true, Bool.true_or, Bool.and_true])
            | false =>
              rw [if_pos bz_f]
              cases hxe : x with
              | false =>
                rw [hxe] at g0
                rw [if_pos bz_f]
                exact g0 rfl
              | true =>
                rw [hxe, Bool.true_and] at g0 g1
                obtain ⟨y1, hy1⟩ : ∃ y, h j = some y := by
                  cases z : h j with
                  | none => unfold ovf at o1; rw [z] at o1; cases o1
                  | some y => exact ⟨y, rfl⟩
                obtain ⟨y2, hy2⟩ : ∃ y, h c = some y := by
                  cases z : h c with
                  | none => unfold ovf at o2; rw [z] at o2; cases o2
                  | some y => exact ⟨y, rfl⟩
                have b1 := (hh j y1 hy1).2
                have b2 := (hh c y2 hy2).2
                have a1 := hA j y1 hjW hy1
                have a2 := hA c y2 hcW hy2
                have ceq := J_eq (a := (y1 : Int)) (b := (y2 : Int)) (by omega) (by omega) (by omega) (by omega)
                have ep : pOK K h j c = ((!(lik K j c 1) || h j != h c) && (!(lik K j c 2) || h j == h c)) := by
                  unfold pOK
                  rw [o1, o2, Bool.or_self, Bool.false_or]
                rw [hy1, hy2] at ep
                have l1 : fX6_isLike N (J (j : Int)) (J (c : Int)) 1 τ = some (bz (lik K j c 1), τ) := isLike_spec (k := 1) N hK hR hjW hcW (by omega)
                have l2 : fX6_isLike N (J (j : Int)) (J (c : Int)) 2 τ = some (bz (lik K j c 2), τ) := isLike_spec (k := 2) N hK hR hjW hcW (by omega)
                have g204 : (!(lik K j c 1) || some y1 != some y2) = true → fX6_isRight_204 N (lp (fX6_isRight_142 N) (fun _ _ _ => none) n) (lp (fX6_isRight_152 N (lp (fX6_isRight_142 N) (fun _ _ _ => none) n)) (fun _ _ _ _ => none) i) (J (j : Int)) (J (c : Int)) τ = some (bz (r && prB K h (kW K)), τ) := by
                  intro e
                  rw [e, Bool.true_and] at ep
                  rw [fX6_isRight_204, l2, cali_s]
                  cases e2 : lik K j c 2 with
                  | false =>
                    rw [if_pos bz_f]
                    exact g1 (by rw [ep, e2]; rfl)
                  | true =>
                    rw [e2] at ep
                    rw [if_neg (by decide), ck_J (by omega) (by omega) (by omega), ck_J (by omega) (by omega) (by omega), J_nn (by omega), J_nn (by omega), a1, a2]
                    by_cases cy : y1 = y2
                    · rw [if_pos (ceq.mpr (by omega))]
                      exact g1 (by rw [ep, cy]; simp)
                    · rw [if_neg (fun z => cy (by have := ceq.mp z; omega))]
                      exact g0 (by rw [ep]; simp [cy])
                rw [if_neg (by decide), l1, cali_s]
                cases e1 : lik K j c 1 with
                | false =>
                  rw [if_pos bz_f]
                  exact g204 (by rw [e1]; rfl)
                | true =>
                  rw [if_neg (by decide), ck_J (by omega) (by omega) (by omega), ck_J (by omega) (by omega) (by omega), a1, a2]
                  by_cases cy : y1 = y2
                  · rw [if_pos (ceq.mpr (by omega))]
                    exact g0 (by rw [ep, e1, cy]; simp)
                  · rw [if_neg (fun z => cy (by have := ceq.mp z; omega))]
                    exact g204 (by simp [cy])
      rw [lp_succ, fX6_isRight_142, hR.2.1, if_neg (fun q => by have := (J_le (by omega) (by omega) (by omega) (by omega)).mp q; omega)]
      have := inner j 0 N (by omega) (by omega)
      rw [prI, Bool.and_true] at this
      exact this
  have caps : ∀ (d j n : Nat), j + d = kM K → d < n → lp (fX6_isRight_4 N) (fun _ _ _ => none) n (bz (capB K h j)) (J (j : Int)) τ = some (bz (capB K h (kM K) && prB K h (kW K)), τ) := by
    intro d
    induction d with
    | zero =>
      intro j n hj hn
      obtain ⟨n, rfl⟩ : ∃ n', n = n' + 1 := ⟨n - 1, by omega⟩
      have ej : j = kM K := by omega
      subst ej
      rw [lp_succ, fX6_isRight_4, hR.1, if_pos ((J_le (by omega) (by omega) (by omega) (by omega)).mpr (by omega))]
      have := pairs (capB K h (kM K)) (kW K) 0 N (by omega) (by omega)
      rw [prB, Bool.and_true] at this
      exact this
    | succ d ih =>
      intro j n hj hn
      obtain ⟨n, rfl⟩ : ∃ n', n = n' + 1 := ⟨n - 1, by omega⟩
      have hjM : j < kM K := by omega
      have hx := ih (j + 1) n (by omega) (by omega)
      rw [capB] at hx
      have g0 : (capB K h j && (decide (uA K h j ≤ kRA K j) && decide (uB K h j ≤ kRB K j))) = false → fX6_isRight_132 N (lp (fX6_isRight_4 N) (fun _ _ _ => none) n) (J (j : Int)) τ = some (bz (capB K h (kM K) && prB K h (kW K)), τ) := by
        intro e
        rw [e] at hx
        rw [fX6_isRight_132, fX6_isRight_133, J1, J_add]
        exact hx
      have eA : uA K h j = sm (kW K) (fun w => if h w = some j then kA K w else 0) := sm_ext (by omega) (fun i h1 h2 => by
        cases q : h i with
        | none => simp
        | some x => have := (hh i x q).1; omega)
      have eB : uB K h j = sm (kW K) (fun w => if h w = some j then kB K w else 0) := sm_ext (by omega) (fun i h1 h2 => by
        cases q : h i with
        | none => simp
        | some x => have := (hh i x q).1; omega)
      have sums : ∀ (d2 c i : Nat), c + d2 = kW K → d2 < i → lp (fX6_isRight_20 N (lp (fX6_isRight_4 N) (fun _ _ _ => none) n)) (fun _ _ _ _ _ _ => none) i (bz (capB K h j)) (J (j : Int)) (J (sm c (fun w => if h w = some j then kA K w else 0))) (J (sm c (fun w => if h w = some j then kB K w else 0))) (J (c : Int)) τ = some (bz (capB K h (kM K) && prB K h (kW K)), τ) := by
        intro d2
        induction d2 with
        | zero =>
          intro c i hc hi
          obtain ⟨i, rfl⟩ : ∃ n', i = n' + 1 := ⟨i - 1, by omega⟩
          have ec : c = kW K := by omega
          subst ec
          have ub := uA_bd hK hh j
          have ub2 := uB_bd hK hh j
          have hrm := hK.2.2.1 j hjM
          obtain ⟨r1, r2⟩ := hR.2.2.1 j hjM
          rw [← eA, ← eB, lp_succ, fX6_isRight_20, hR.2.1, if_pos ((J_le (by omega) (by omega) (by omega) (by omega)).mpr (by omega))]
          cases ec : capB K h j with
          | false =>
            rw [ec] at g0
            rw [if_pos bz_f]
            exact g0 rfl
          | true =>
            rw [ec, Bool.true_and] at g0 hx
            rw [if_neg (by decide), ck_J (by omega) (by omega) (by omega), J_nn (by omega), r1]
            have c1 := J_lt (a := kRA K j) (b := uA K h j) (by omega) (by omega) (by omega) (by omega)
            have c2 := J_lt (a := kRB K j) (b := uB K h j) (by omega) (by omega) (by omega) (by omega)
            by_cases d1 : kRA K j < uA K h j
            · rw [if_pos (c1.mpr d1)]
              exact g0 (by rw [decide_eq_false (by omega)]; rfl)
            · rw [if_neg (fun z => d1 (c1.mp z)), ck_J (by omega) (by omega) (by omega), r2]
              by_cases d2 : kRB K j < uB K h j
              · rw [if_pos (c2.mpr d2)]
                exact g0 (by rw [decide_eq_false (by omega : ¬ uB K h j ≤ kRB K j), Bool.and_false])
              · rw [if_neg (fun z => d2 (c2.mp z)), fX6_isRight_133, J1, J_add]
                rw [decide_eq_true (by omega : uA K h j ≤ kRA K j), decide_eq_true (by omega : uB K h j ≤ kRB K j)] at hx
                exact hx
        | succ d2 ih2 =>
          intro c i hc hi
          obtain ⟨i, rfl⟩ : ∃ n', i = n' + 1 := ⟨i - 1, by omega⟩
          have hcW : c < kW K := by omega
          have hy := ih2 (c + 1) i (by omega) (by omega)
          have esA : sm (c + 1) (fun w => if h w = some j then kA K w else 0) = sm c (fun w => if h w = some j then kA K w else 0) + (if h c = some j then kA K c else 0) := rfl
          have esB : sm (c + 1) (fun w => if h w = some j then kB K w else 0) = sm c (fun w => if h w = some j then kB K w else 0) + (if h c = some j then kB K c else 0) := rfl
          rw [esA, esB] at hy
          have ho := onM (m := j) hK hh hO hA hcW (by omega)
          rw [lp_succ, fX6_isRight_20, hR.2.1, if_neg (fun q => by have := (J_le (by omega) (by omega) (by omega) (by omega)).mp q; omega)]
          simp (disch := omega) only [ck_J, J_nn]
          by_cases cc : h c = some j
          · rw [if_pos (ho.1 cc).1, if_pos (ho.1 cc).2, fX6_isRight_55, if_neg (by decide), ck_J (by omega) (by omega) (by omega), J_nn (by omega), (hR.2.2.2 c hcW).1, fX6_isRight_74, if_neg (by decide), ck_J (by omega) (by omega) (by omega), J_nn (by omega), (hR.2.2.2 c hcW).2.1, fX6_isRight_94, J_add, J_add, J1, J_add]
            rw [if_pos cc, if_pos cc] at hy
            exact hy
          · rw [if_neg cc, if_neg cc, Int.add_zero, Int.add_zero] at hy
            have e54 : fX6_isRight_54 N (lp (fX6_isRight_4 N) (fun _ _ _ => none) n) (lp (fX6_isRight_20 N (lp (fX6_isRight_4 N) (fun _ _ _ => none) n)) (fun _ _ _ _ _ _ => none) i) (bz (capB K h j)) (J (j : Int)) (J (sm c (fun w => if h w = some j then kA K w else 0))) (J (sm c (fun w => if h w = some j then kB K w else 0))) (J (c : Int)) τ = some (bz (capB K h (kM K) && prB K h (kW K)), τ) := by
              rw [fX6_isRight_54, fX6_isRight_55, if_pos rfl, fX6_isRight_74, if_pos rfl, fX6_isRight_94, J0, J1, J_add, J_add, J_add, Int.add_zero, Int.add_zero]
              exact hy
            rcases ho.2 cc with z | z
            · rw [if_neg z]; exact e54
            · by_cases z0 : τ 8 c = 0
              · rw [if_pos z0, if_neg z]; exact e54
              · rw [if_neg z0]; exact e54
      rw [lp_succ, fX6_isRight_4, hR.1, if_neg (fun q => by have := (J_le (by omega) (by omega) (by omega) (by omega)).mp q; omega)]
      exact sums (kW K) 0 N (by omega) (by omega)
  rw [fX6_isRight]
  exact caps (kM K) 0 N (by omega) (by omega)
