/-! the state of a world: cell, place -> number -/
abbrev SS : Type := Nat → Nat → Int32
abbrev Wd : Type := (Nat → Nat) × ClassId × ClassId × va_G
def rf (w : Wd) (k : Nat) : Value := .ref (w.1 k)
def pk (a b : Int32) : Int64 := Int64.ofBitVec (a.toBitVec ++ b.toBitVec)
def hi64 (v : Int64) : Int32 := Int32.ofBitVec (v.toBitVec.extractLsb' 32 32)
def lo64 (v : Int64) : Int32 := Int32.ofBitVec (v.toBitVec.extractLsb' 0 32)
theorem pk_hl (v : Int64) : pk (hi64 v) (lo64 v) = v := by
  apply Int64.toBitVec_inj.mp
  show (BitVec.extractLsb' 32 32 v.toBitVec ++ BitVec.extractLsb' 0 32 v.toBitVec : BitVec 64) = v.toBitVec
  ext i hi
  simp only [BitVec.getElem_append, BitVec.getElem_extractLsb']
  split
  · simp [BitVec.getLsbD_eq_getElem hi]
  · rename_i h
    have e : 32 + (i - 32) = i := by omega
    simp [e, BitVec.getLsbD_eq_getElem hi]
def tmC (w : Wd) (k : Nat) (f : Nat → Int32) : va_E := match k with
  | 0 => .inr (5, [rf w 1, rf w 13, rf w 19, rf w 27, rf w 39, rf w 40, .int (f 6), .int (f 7), .int (f 8), .int (f 9), .int (f 10)])
  | 1 => .inr (3, [.int (f 0), .int (f 1), rf w 2, rf w 3, rf w 4, rf w 5, rf w 6, rf w 7, rf w 8, rf w 9, rf w 10, rf w 11, rf w 12])
  | 2 => .inl (w.2.1, 5, .inl f)
  | 3 => .inl (w.2.1, 5, .inl f)
  | 4 => .inl (w.2.1, 9, .inl f)
  | 5 => .inl (w.2.1, 9, .inl f)
  | 6 => .inl (w.2.1, 9, .inl f)
  | 7 => .inl (w.2.1, 9, .inl f)
  | 8 => .inl (w.2.1, 9, .inl f)
  | 9 => .inl (w.2.1, 9, .inl f)
  | 10 => .inl (w.2.1, 9, .inl f)
  | 11 => .inl (w.2.1, 9, .inl f)
  | 12 => .inl (w.2.1, 9, .inl f)
  | 13 => .inr (1, [rf w 1, rf w 14, rf w 15, rf w 16, rf w 17, rf w 18, .int (f 6)])
  | 14 => .inl (w.2.1, 8, .inl f)
  | 15 => .inl (w.2.1, 5, .inl f)
  | 16 => .inl (w.2.1, 5, .inl f)
  | 17 => .inl (w.2.1, 5, .inl f)
  | 18 => .inl (w.2.1, 5, .inl f)
  | 19 => .inr (2, [rf w 1, rf w 13, rf w 21, rf w 20, .int (f 4), .int (f 5), .int (f 6), .int (f 7), .int (f 8), .int (f 9), .int (f 10), .int (f 11), .int (f 12)])
  | 20 => .inl (w.2.1, 8, .inl f)
  | 21 => .inr (1, [rf w 1, rf w 22, rf w 23, rf w 24, rf w 25, rf w 26, .int (f 6)])
  | 22 => .inl (w.2.1, 8, .inl f)
  | 23 => .inl (w.2.1, 5, .inl f)
  | 24 => .inl (w.2.1, 5, .inl f)
  | 25 => .inl (w.2.1, 5, .inl f)
  | 26 => .inl (w.2.1, 5, .inl f)
  | 27 => .inr (0, [rf w 1, rf w 13, rf w 33, .int (f 3), rf w 28, rf w 29, rf w 30, rf w 31, rf w 32])
  | 28 => .inl (w.2.1, 9, .inl f)
  | 29 => .inl (w.2.1, 9, .inl f)
  | 30 => .inl (w.2.1, 9, .inl f)
  | 31 => .inl (w.2.1, 9, .inl f)
  | 32 => .inl (w.2.2.1, 512, .inl f)
  | 33 => .inr (1, [rf w 1, rf w 34, rf w 35, rf w 36, rf w 37, rf w 38, .int (f 6)])
  | 34 => .inl (w.2.1, 8, .inl f)
  | 35 => .inl (w.2.1, 5, .inl f)
  | 36 => .inl (w.2.1, 5, .inl f)
  | 37 => .inl (w.2.1, 5, .inl f)
  | 38 => .inl (w.2.1, 5, .inl f)
  | 39 => .inr (4, [rf w 1, rf w 13, rf w 19, .int (f 3), .long (pk (f 4) (f 5))])
  | _ => .inl (w.2.1, 8, .inl f)
def tmM (w : Wd) (k : Nat) (f : Nat → Int32) : va_E := match k with
  | 0 => .inr (6, [.int (f 0), rf w 1, rf w 2, .int (f 3), rf w 3, rf w 4, rf w 5, rf w 6, rf w 7, rf w 8, .int (f 10), .int (f 11), .int (f 12), .int (f 13), rf w 9, rf w 10, .int (f 16), .int (f 17), .int (f 18), .int (f 19), .int (f 20), .int (f 21), rf w 11, .int (f 23), rf w 12, rf w 13, rf w 14, rf w 15])
  | 1 => .inl (w.2.1, 5, .inl f)
  | 2 => .inl (w.2.1, 5, .inl f)
  | 3 => .inl (w.2.1, 8, .inl f)
  | 4 => .inl (w.2.1, 8, .inl f)
  | 5 => .inl (w.2.1, 8, .inl f)
  | 6 => .inl (w.2.1, 8, .inl f)
  | 7 => .inl (w.2.1, 8, .inl f)
  | 8 => .inl (w.2.2.1, 8, .inl f)
  | 9 => .inl (w.2.1, 8, .inl f)
  | 10 => .inl (w.2.1, 8, .inl f)
  | 11 => .inl (w.2.1, 8, .inl f)
  | 12 => .inl (w.2.1, 8, .inl f)
  | 13 => .inl (w.2.1, 8, .inl f)
  | 14 => .inl (w.2.2.1, 768, .inl f)
  | _ => .inl (w.2.2.1, 8, .inl f)

def NP (t : Bool) : Nat := if t then 41 else 16
def tm (t : Bool) (w : Wd) (k : Nat) (f : Nat → Int32) : va_E := if t then tmC w k f else tmM w k f
def wl (t : Bool) (w : Wd) (σ : SS) : va_W := (List.range (NP t)).map (fun k => (w.1 k, tm t w k (σ k)))
theorem wl_get {t : Bool} {w : Wd} {σ : SS} {k : Nat} (h : k < NP t) : (wl t w σ)[k]? = some (w.1 k, tm t w k (σ k)) := by simp [wl, h]
theorem wl_lt {t : Bool} {w : Wd} {σ : SS} {k : Nat} {q : Nat × va_E} (h : (wl t w σ)[k]? = some q) : k < NP t := by
  have h1 := (List.getElem?_eq_some_iff.mp h).1
  simpa [wl] using h1
def stp (σ : SS) (k : Nat) (g : Nat → Int32) : SS := fun j => if j = k then g else σ j
theorem wl_set {t : Bool} {w : Wd} {σ : SS} {k : Nat} {g : Nat → Int32} : (wl t w σ).set k (w.1 k, tm t w k g) = wl t w (stp σ k g) := by
  apply List.ext_getElem?
  intro j
  rw [List.getElem?_set]
  by_cases hj : k = j
  · subst hj
    rw [if_pos rfl]
    by_cases hk : k < NP t
    · rw [if_pos (by simpa [wl] using hk), wl_get hk]
      simp [stp]
    · rw [if_neg (by simpa [wl] using hk)]
      simp [wl, hk]
  · rw [if_neg hj]
    by_cases hk : j < NP t
    · rw [wl_get hk, wl_get hk]
      have : ¬ j = k := fun q => hj q.symm
      simp [stp, this]
    · simp [wl, hk]
def inj (t : Bool) (w : Wd) : Prop := ∀ i j, i < NP t → j < NP t → w.1 i = w.1 j → i = j
def AA (t : Bool) (w : Wd) (sz : Nat) : Nat → Prop := fun q => (∃ k, k < NP t ∧ q = w.1 k) ∨ sz ≤ q
theorem wl_D {t : Bool} {w : Wd} (hi : inj t w) (σ : SS) (sz : Nat) : va_D (AA t w sz) (wl t w σ) := by
  constructor
  · intro i j p q hp hq e
    have h1 := wl_lt hp
    have h2 := wl_lt hq
    rw [wl_get h1] at hp
    rw [wl_get h2] at hq
    cases hp
    cases hq
    exact hi i j h1 h2 e
  · intro k q hq
    have h1 := wl_lt hq
    rw [wl_get h1] at hq
    cases hq
    exact Or.inl ⟨k, h1, rfl⟩
def tys (w : Wd) : List (ClassId × FieldType) := [(w.2.1, .int), (w.2.2.1, .boolean)]
/-! where a method stands -/
abbrev Cx : Type := (Program × Launch × Env × Room × State × MethodId × Array Value) × (List Frame × Method × Code × (State → Prop)) × Wd
def Fx (t : Bool) (X : Cx) (cc : ByteArray) (own : String) (nL fr lo : Nat) : Prop := match X with
  | ((p, l, e, R, s, m, args), (below, meth, c, Q), w) => p.tables.exec = Jvm.exec ∧ c.code = cc ∧ c.maxLocals = nL ∧ s.vm.findClass own = some m.cls ∧ (∀ v ∈ wsL_law, v.before args s = true) ∧ va_K w.2.2.2 vwCl (tys w) s ∧ inj t w ∧ fr ≤ R.frames ∧ lo ≤ R.locals ∧ meth.locks = false
def G (t : Bool) (X : Cx) (nL pc : Nat) (lv : List (Nat × Value)) (st : List Value) (σ : SS) : Prop := match X with
  | ((p, l, e, R, s, m, args), (below, meth, c, Q), w) => ∀ (H : Heap) (locs : List Loc) (ls : Array Slot), va_P w.2.2.2 vwCl (wl t w σ) H → va_S (AA t w s.heap.size) s.heap H locs → lv_has ls nL lv → W p l e R s m args below meth c H locs 0 0 Q (F0 m pc ls st)
def IsI (t : Bool) (w : Wd) (k n : Nat) : Prop := k < NP t ∧ ∀ f, tm t w k f = .inl (w.2.1, n, .inl f)
def IsZ (t : Bool) (w : Wd) (k n : Nat) : Prop := k < NP t ∧ ∀ f, tm t w k f = .inl (w.2.2.1, n, .inl f)
def IsO (t : Bool) (w : Wd) (k ci : Nat) (fs : (Nat → Int32) → List Value) : Prop := k < NP t ∧ ∀ f, tm t w k f = .inr (ci, fs f)
def Cl (ci : Nat) (C : String) (T : u_T) (N : Nat) : Prop := vwCl[ci]? = some (C, T, N) ∧ ∀ w ∈ u_ws C T N, w ∈ wsL_law
/-! the parts of a picture of a method -/
def ck {α : Type} (i : Int32) (n : Nat) (k : Option α) : Option α := if i < 0 ∨ n ≤ i.toNatClampNeg then none else k
def sg {α : Type} (σ : SS) (k : SS → Option α) : Option α := k σ
def zk {α : Type} (v : Int32) (k : Option α) : Option α := if v = 0 ∨ v = 1 then k else none
def cali {α : Type} (x : Option (Int32 × SS)) (k : Int32 → SS → Option α) : Option α := match x with
  | none => none
  | some (v, σ) => k v σ
def call {α : Type} (x : Option (Int64 × SS)) (k : Int64 → SS → Option α) : Option α := match x with
  | none => none
  | some (v, σ) => k v σ
def calv {α : Type} (x : Option SS) (k : SS → Option α) : Option α := match x with
  | none => none
  | some σ => k σ
theorem ck_some {α : Type} {i : Int32} {n : Nat} {k : Option α} {r : α} (h : ck i n k = some r) : vp_in i n ∧ k = some r := by
  unfold ck at h
  split at h
  · cases h
  · exact ⟨by assumption, h⟩
theorem zk_some {α : Type} {v : Int32} {k : Option α} {r : α} (h : zk v k = some r) : (v = 0 ∨ v = 1) ∧ k = some r := by
  unfold zk at h
  split at h
  · exact ⟨by assumption, h⟩
  · cases h
theorem cali_some {α : Type} {x : Option (Int32 × SS)} {k : Int32 → SS → Option α} {r : α} (h : cali x k = some r) : ∃ v σ, x = some (v, σ) ∧ k v σ = some r := by
  match x, h with
  | some (v, σ), h => exact ⟨v, σ, rfl, h⟩
theorem call_some {α : Type} {x : Option (Int64 × SS)} {k : Int64 → SS → Option α} {r : α} (h : call x k = some r) : ∃ v σ, x = some (v, σ) ∧ k v σ = some r := by
  match x, h with
  | some (v, σ), h => exact ⟨v, σ, rfl, h⟩
theorem calv_some {α : Type} {x : Option SS} {k : SS → Option α} {r : α} (h : calv x k = some r) : ∃ σ, x = some σ ∧ k σ = some r := by
  match x, h with
  | some σ, h => exact ⟨σ, rfl, h⟩
def lp {β : Type} (f : β → β) (z : β) : Nat → β
  | 0 => z
  | n + 1 => f (lp f z n)
theorem lp_zero {β : Type} (f : β → β) (z : β) : lp f z 0 = z := rfl
theorem lp_succ {β : Type} (f : β → β) (z : β) (n : Nat) : lp f z (n + 1) = f (lp f z n) := rfl
theorem Fx.inj {t : Bool} {X : Cx} {cc : ByteArray} {own : String} {nL fr lo : Nat} (F : Fx t X cc own nL fr lo) : inj t X.2.2 := by
  obtain ⟨⟨p, l, e, R, s, m, args⟩, ⟨below, meth, c, Q⟩, w⟩ := X
  exact F.2.2.2.2.2.2.1
section ROWS
variable {t : Bool} {X : Cx} {cc : ByteArray} {own : String} {nL fr lo pc : Nat} {lv : List (Nat × Value)} {rest : List Value} {σ : SS}
theorem g_iconst (F : Fx t X cc own nL fr lo) {n : Int} {v : Int32} (hdg : decode cc pc = .ok (.iconst n, 1)) (hv : Int32.ofInt n = v) (g : G t X nL (pc + 1) lv (.int v :: rest) σ) : G t X nL pc lv (rest) σ := by
  obtain ⟨⟨p, l, e, R, s, m, args⟩, ⟨below, meth, c, Q⟩, w⟩ := X
  obtain ⟨hx, hb, hml, hown, hts, hK, hi, hfr, hlo, hlk⟩ := F
  intro H locs ls hP hS hl
  exact lv_iconst hx hb hdg hv (g H locs ls hP hS hl)
theorem g_bipush (F : Fx t X cc own nL fr lo) {n : Int} {v : Int32} (hdg : decode cc pc = .ok (.bipush n, 2)) (hv : (Int8.ofInt n).toInt32 = v) (g : G t X nL (pc + 2) lv (.int v :: rest) σ) : G t X nL pc lv (rest) σ := by
  obtain ⟨⟨p, l, e, R, s, m, args⟩, ⟨below, meth, c, Q⟩, w⟩ := X
  obtain ⟨hx, hb, hml, hown, hts, hK, hi, hfr, hlo, hlk⟩ := F
  intro H locs ls hP hS hl
  exact lv_bipush hx hb hdg hv (g H locs ls hP hS hl)
theorem g_sipush (F : Fx t X cc own nL fr lo) {n : Int} {v : Int32} (hdg : decode cc pc = .ok (.sipush n, 3)) (hv : (Int16.ofInt n).toInt32 = v) (g : G t X nL (pc + 3) lv (.int v :: rest) σ) : G t X nL pc lv (rest) σ := by
  obtain ⟨⟨p, l, e, R, s, m, args⟩, ⟨below, meth, c, Q⟩, w⟩ := X
  obtain ⟨hx, hb, hml, hown, hts, hK, hi, hfr, hlo, hlk⟩ := F
  intro H locs ls hP hS hl
  exact lv_sipush hx hb hdg hv (g H locs ls hP hS hl)
theorem g_lconst (F : Fx t X cc own nL fr lo) {n : Fin 2} {v : Int64} (hdg : decode cc pc = .ok (.lconst n, 1)) (hv : Int64.ofNat (n : Nat) = v) (g : G t X nL (pc + 1) lv (.long v :: rest) σ) : G t X nL pc lv (rest) σ := by
  obtain ⟨⟨p, l, e, R, s, m, args⟩, ⟨below, meth, c, Q⟩, w⟩ := X
  obtain ⟨hx, hb, hml, hown, hts, hK, hi, hfr, hlo, hlk⟩ := F
  intro H locs ls hP hS hl
  exact lv_lconst hx hb hdg hv (g H locs ls hP hS hl)
theorem g_iload_n (F : Fx t X cc own nL fr lo) {k : Fin 4} {i j : Nat} {x : Int32} (hdg : decode cc pc = .ok (.iload_n k, 1)) (hi : (k : Nat) = i) (hl : lv[j]? = some (i, .int x)) (g : G t X nL (pc + 1) lv (.int x :: rest) σ) : G t X nL pc lv rest σ := by
  obtain ⟨⟨p, l, e, R, s, m, args⟩, ⟨below, meth, c, Q⟩, w⟩ := X
  obtain ⟨hx, hb, hml, hown, hts, hK, hinj, hfr, hlo, hlk⟩ := F
  intro H locs ls hP hS hlv
  exact lv_iload_n hx hb hdg hi (lv_at hlv j hl) (g H locs ls hP hS hlv)
theorem g_iload (F : Fx t X cc own nL fr lo) {i j : Nat} {x : Int32} (hdg : decode cc pc = .ok (.iload i, 2)) (hl : lv[j]? = some (i, .int x)) (g : G t X nL (pc + 2) lv (.int x :: rest) σ) : G t X nL pc lv rest σ := by
  obtain ⟨⟨p, l, e, R, s, m, args⟩, ⟨below, meth, c, Q⟩, w⟩ := X
  obtain ⟨hx, hb, hml, hown, hts, hK, hi, hfr, hlo, hlk⟩ := F
  intro H locs ls hP hS hlv
  exact lv_iload hx hb hdg (lv_at hlv j hl) (g H locs ls hP hS hlv)
theorem g_lload_n (F : Fx t X cc own nL fr lo) {k : Fin 4} {i j : Nat} {x : Int64} (hdg : decode cc pc = .ok (.lload_n k, 1)) (hi : (k : Nat) = i) (hl : lv[j]? = some (i, .long x)) (g : G t X nL (pc + 1) lv (.long x :: rest) σ) : G t X nL pc lv rest σ := by
  obtain ⟨⟨p, l, e, R, s, m, args⟩, ⟨below, meth, c, Q⟩, w⟩ := X
  obtain ⟨hx, hb, hml, hown, hts, hK, hinj, hfr, hlo, hlk⟩ := F
  intro H locs ls hP hS hlv
  exact lv_lload_n hx hb hdg hi (lv_at hlv j hl) (g H locs ls hP hS hlv)
theorem g_lload (F : Fx t X cc own nL fr lo) {i j : Nat} {x : Int64} (hdg : decode cc pc = .ok (.lload i, 2)) (hl : lv[j]? = some (i, .long x)) (g : G t X nL (pc + 2) lv (.long x :: rest) σ) : G t X nL pc lv rest σ := by
  obtain ⟨⟨p, l, e, R, s, m, args⟩, ⟨below, meth, c, Q⟩, w⟩ := X
  obtain ⟨hx, hb, hml, hown, hts, hK, hi, hfr, hlo, hlk⟩ := F
  intro H locs ls hP hS hlv
  exact lv_lload hx hb hdg (lv_at hlv j hl) (g H locs ls hP hS hlv)
theorem g_aload_n (F : Fx t X cc own nL fr lo) {k : Fin 4} {i j a : Nat} (hdg : decode cc pc = .ok (.aload_n k, 1)) (hi : (k : Nat) = i) (hl : lv[j]? = some (i, rf X.2.2 a)) (g : G t X nL (pc + 1) lv (rf X.2.2 a :: rest) σ) : G t X nL pc lv rest σ := by
  obtain ⟨⟨p, l, e, R, s, m, args⟩, ⟨below, meth, c, Q⟩, w⟩ := X
  obtain ⟨hx, hb, hml, hown, hts, hK, hinj, hfr, hlo, hlk⟩ := F
  intro H locs ls hP hS hlv
  exact lv_aload_n hx hb hdg hi (lv_at hlv j hl) (g H locs ls hP hS hlv)
theorem g_aload (F : Fx t X cc own nL fr lo) {i j a : Nat} (hdg : decode cc pc = .ok (.aload i, 2)) (hl : lv[j]? = some (i, rf X.2.2 a)) (g : G t X nL (pc + 2) lv (rf X.2.2 a :: rest) σ) : G t X nL pc lv rest σ := by
  obtain ⟨⟨p, l, e, R, s, m, args⟩, ⟨below, meth, c, Q⟩, w⟩ := X
  obtain ⟨hx, hb, hml, hown, hts, hK, hi, hfr, hlo, hlk⟩ := F
  intro H locs ls hP hS hlv
  exact lv_aload hx hb hdg (lv_at hlv j hl) (g H locs ls hP hS hlv)
theorem g_istore_n (F : Fx t X cc own nL fr lo) {k : Fin 4} {i : Nat} {x : Int32} (hdg : decode cc pc = .ok (.istore_n k, 1)) (hi : (k : Nat) = i) (hn : i < nL) {lv' : List (Nat × Value)} (ks : List Nat) (hp : lv_pick ((i, Value.int x) :: lv.filter (fun q => !(q.1 == i) && !(q.1 + 1 == i && q.2.category == 2))) ks = lv') (g : G t X nL (pc + 1) lv' rest σ) : G t X nL pc lv (.int x :: rest) σ := by
  obtain ⟨⟨p, l, e, R, s, m, args⟩, ⟨below, meth, c, Q⟩, w⟩ := X
  obtain ⟨hx, hb, hml, hown, hts, hK, hinj, hfr, hlo, hlk⟩ := F
  intro H locs ls hP hS hl
  exact lv_istore_n hx hb hdg hi hl hn rfl (fun ls1 hl1 => g H locs ls1 hP hS (lv_sub hl1 ks hp))
theorem g_istore (F : Fx t X cc own nL fr lo) {i : Nat} {x : Int32} (hdg : decode cc pc = .ok (.istore i, 2)) (hn : i < nL) {lv' : List (Nat × Value)} (ks : List Nat) (hp : lv_pick ((i, Value.int x) :: lv.filter (fun q => !(q.1 == i) && !(q.1 + 1 == i && q.2.category == 2))) ks = lv') (g : G t X nL (pc + 2) lv' rest σ) : G t X nL pc lv (.int x :: rest) σ := by
  obtain ⟨⟨p, l, e, R, s, m, args⟩, ⟨below, meth, c, Q⟩, w⟩ := X
  obtain ⟨hx, hb, hml, hown, hts, hK, hi, hfr, hlo, hlk⟩ := F
  intro H locs ls hP hS hl
  exact lv_istore hx hb hdg hl hn rfl (fun ls1 hl1 => g H locs ls1 hP hS (lv_sub hl1 ks hp))
theorem g_lstore_n (F : Fx t X cc own nL fr lo) {k : Fin 4} {i : Nat} {x : Int64} (hdg : decode cc pc = .ok (.lstore_n k, 1)) (hi : (k : Nat) = i) (hn : i + 1 < nL) {lv' : List (Nat × Value)} (ks : List Nat) (hp : lv_pick ((i, Value.long x) :: lv.filter (fun q => !(q.1 == i) && (!(q.1 == i + 1) && !(q.1 + 1 == i && q.2.category == 2)))) ks = lv') (g : G t X nL (pc + 1) lv' rest σ) : G t X nL pc lv (.long x :: rest) σ := by
  obtain ⟨⟨p, l, e, R, s, m, args⟩, ⟨below, meth, c, Q⟩, w⟩ := X
  obtain ⟨hx, hb, hml, hown, hts, hK, hinj, hfr, hlo, hlk⟩ := F
  intro H locs ls hP hS hl
  exact lv_lstore_n hx hb hdg hi hl hn rfl (fun ls1 hl1 => g H locs ls1 hP hS (lv_sub hl1 ks hp))
theorem g_lstore (F : Fx t X cc own nL fr lo) {i : Nat} {x : Int64} (hdg : decode cc pc = .ok (.lstore i, 2)) (hn : i + 1 < nL) {lv' : List (Nat × Value)} (ks : List Nat) (hp : lv_pick ((i, Value.long x) :: lv.filter (fun q => !(q.1 == i) && (!(q.1 == i + 1) && !(q.1 + 1 == i && q.2.category == 2)))) ks = lv') (g : G t X nL (pc + 2) lv' rest σ) : G t X nL pc lv (.long x :: rest) σ := by
  obtain ⟨⟨p, l, e, R, s, m, args⟩, ⟨below, meth, c, Q⟩, w⟩ := X
  obtain ⟨hx, hb, hml, hown, hts, hK, hi, hfr, hlo, hlk⟩ := F
  intro H locs ls hP hS hl
  exact lv_lstore hx hb hdg hl hn rfl (fun ls1 hl1 => g H locs ls1 hP hS (lv_sub hl1 ks hp))
theorem g_iinc (F : Fx t X cc own nL fr lo) {i j : Nat} {n : Int} {x v : Int32} (hdg : decode cc pc = .ok (.iinc i n, 3)) (hk : lv[j]? = some (i, .int x)) (hv : x + Int32.ofInt n = v) (hn : i < nL) {lv' : List (Nat × Value)} (ks : List Nat) (hp : lv_pick ((i, Value.int v) :: lv.filter (fun q => !(q.1 == i) && !(q.1 + 1 == i && q.2.category == 2))) ks = lv') (g : G t X nL (pc + 3) lv' rest σ) : G t X nL pc lv rest σ := by
  obtain ⟨⟨p, l, e, R, s, m, args⟩, ⟨below, meth, c, Q⟩, w⟩ := X
  obtain ⟨hx, hb, hml, hown, hts, hK, hi, hfr, hlo, hlk⟩ := F
  intro H locs ls hP hS hl
  exact lv_iinc hx hb hdg hl hk hv hn rfl (fun ls1 hl1 => g H locs ls1 hP hS (lv_sub hl1 ks hp))
theorem g_iadd (F : Fx t X cc own nL fr lo) {x y : Int32} (hdg : decode cc pc = .ok (.iadd, 1)) (g : G t X nL (pc + 1) lv (.int (x + y) :: rest) σ) : G t X nL pc lv (.int y :: .int x :: rest) σ := by
  obtain ⟨⟨p, l, e, R, s, m, args⟩, ⟨below, meth, c, Q⟩, w⟩ := X
  obtain ⟨hx, hb, hml, hown, hts, hK, hi, hfr, hlo, hlk⟩ := F
  intro H locs ls hP hS hl
  exact lv_iadd hx hb hdg (g H locs ls hP hS hl)
theorem g_isub (F : Fx t X cc own nL fr lo) {x y : Int32} (hdg : decode cc pc = .ok (.isub, 1)) (g : G t X nL (pc + 1) lv (.int (x - y) :: rest) σ) : G t X nL pc lv (.int y :: .int x :: rest) σ := by
  obtain ⟨⟨p, l, e, R, s, m, args⟩, ⟨below, meth, c, Q⟩, w⟩ := X
  obtain ⟨hx, hb, hml, hown, hts, hK, hi, hfr, hlo, hlk⟩ := F
  intro H locs ls hP hS hl
  exact lv_isub hx hb hdg (g H locs ls hP hS hl)
theorem g_imul (F : Fx t X cc own nL fr lo) {x y : Int32} (hdg : decode cc pc = .ok (.imul, 1)) (g : G t X nL (pc + 1) lv (.int (x * y) :: rest) σ) : G t X nL pc lv (.int y :: .int x :: rest) σ := by
  obtain ⟨⟨p, l, e, R, s, m, args⟩, ⟨below, meth, c, Q⟩, w⟩ := X
  obtain ⟨hx, hb, hml, hown, hts, hK, hi, hfr, hlo, hlk⟩ := F
  intro H locs ls hP hS hl
  exact lv_imul hx hb hdg (g H locs ls hP hS hl)
theorem g_iand (F : Fx t X cc own nL fr lo) {x y : Int32} (hdg : decode cc pc = .ok (.iand, 1)) (g : G t X nL (pc + 1) lv (.int (x &&& y) :: rest) σ) : G t X nL pc lv (.int y :: .int x :: rest) σ := by
  obtain ⟨⟨p, l, e, R, s, m, args⟩, ⟨below, meth, c, Q⟩, w⟩ := X
  obtain ⟨hx, hb, hml, hown, hts, hK, hi, hfr, hlo, hlk⟩ := F
  intro H locs ls hP hS hl
  exact lv_iand hx hb hdg (g H locs ls hP hS hl)
theorem g_ior (F : Fx t X cc own nL fr lo) {x y : Int32} (hdg : decode cc pc = .ok (.ior, 1)) (g : G t X nL (pc + 1) lv (.int (x ||| y) :: rest) σ) : G t X nL pc lv (.int y :: .int x :: rest) σ := by
  obtain ⟨⟨p, l, e, R, s, m, args⟩, ⟨below, meth, c, Q⟩, w⟩ := X
  obtain ⟨hx, hb, hml, hown, hts, hK, hi, hfr, hlo, hlk⟩ := F
  intro H locs ls hP hS hl
  exact lv_ior hx hb hdg (g H locs ls hP hS hl)
theorem g_ixor (F : Fx t X cc own nL fr lo) {x y : Int32} (hdg : decode cc pc = .ok (.ixor, 1)) (g : G t X nL (pc + 1) lv (.int (x ^^^ y) :: rest) σ) : G t X nL pc lv (.int y :: .int x :: rest) σ := by
  obtain ⟨⟨p, l, e, R, s, m, args⟩, ⟨below, meth, c, Q⟩, w⟩ := X
  obtain ⟨hx, hb, hml, hown, hts, hK, hi, hfr, hlo, hlk⟩ := F
  intro H locs ls hP hS hl
  exact lv_ixor hx hb hdg (g H locs ls hP hS hl)
theorem g_ishl (F : Fx t X cc own nL fr lo) {x y : Int32} (hdg : decode cc pc = .ok (.ishl, 1)) (g : G t X nL (pc + 1) lv (.int (x <<< (y &&& 31)) :: rest) σ) : G t X nL pc lv (.int y :: .int x :: rest) σ := by
  obtain ⟨⟨p, l, e, R, s, m, args⟩, ⟨below, meth, c, Q⟩, w⟩ := X
  obtain ⟨hx, hb, hml, hown, hts, hK, hi, hfr, hlo, hlk⟩ := F
  intro H locs ls hP hS hl
  exact lv_ishl hx hb hdg (g H locs ls hP hS hl)
theorem g_ishr (F : Fx t X cc own nL fr lo) {x y : Int32} (hdg : decode cc pc = .ok (.ishr, 1)) (g : G t X nL (pc + 1) lv (.int (x >>> (y &&& 31)) :: rest) σ) : G t X nL pc lv (.int y :: .int x :: rest) σ := by
  obtain ⟨⟨p, l, e, R, s, m, args⟩, ⟨below, meth, c, Q⟩, w⟩ := X
  obtain ⟨hx, hb, hml, hown, hts, hK, hi, hfr, hlo, hlk⟩ := F
  intro H locs ls hP hS hl
  exact lv_ishr hx hb hdg (g H locs ls hP hS hl)
theorem g_ladd (F : Fx t X cc own nL fr lo) {x y : Int64} (hdg : decode cc pc = .ok (.ladd, 1)) (g : G t X nL (pc + 1) lv (.long (x + y) :: rest) σ) : G t X nL pc lv (.long y :: .long x :: rest) σ := by
  obtain ⟨⟨p, l, e, R, s, m, args⟩, ⟨below, meth, c, Q⟩, w⟩ := X
  obtain ⟨hx, hb, hml, hown, hts, hK, hi, hfr, hlo, hlk⟩ := F
  intro H locs ls hP hS hl
  exact lv_ladd hx hb hdg (g H locs ls hP hS hl)
theorem g_lmul (F : Fx t X cc own nL fr lo) {x y : Int64} (hdg : decode cc pc = .ok (.lmul, 1)) (g : G t X nL (pc + 1) lv (.long (x * y) :: rest) σ) : G t X nL pc lv (.long y :: .long x :: rest) σ := by
  obtain ⟨⟨p, l, e, R, s, m, args⟩, ⟨below, meth, c, Q⟩, w⟩ := X
  obtain ⟨hx, hb, hml, hown, hts, hK, hi, hfr, hlo, hlk⟩ := F
  intro H locs ls hP hS hl
  exact lv_lmul hx hb hdg (g H locs ls hP hS hl)
theorem g_lcmp (F : Fx t X cc own nL fr lo) {x y : Int64} (hdg : decode cc pc = .ok (.lcmp, 1)) (g : G t X nL (pc + 1) lv (.int (lg_cmp x y) :: rest) σ) : G t X nL pc lv (.long y :: .long x :: rest) σ := by
  obtain ⟨⟨p, l, e, R, s, m, args⟩, ⟨below, meth, c, Q⟩, w⟩ := X
  obtain ⟨hx, hb, hml, hown, hts, hK, hi, hfr, hlo, hlk⟩ := F
  intro H locs ls hP hS hl
  exact W.lcmp hx hb hdg (g H locs ls hP hS hl)
theorem g_i2l (F : Fx t X cc own nL fr lo) {x : Int32} (hdg : decode cc pc = .ok (.i2l, 1)) (g : G t X nL (pc + 1) lv (.long x.toInt64 :: rest) σ) : G t X nL pc lv (.int x :: rest) σ := by
  obtain ⟨⟨p, l, e, R, s, m, args⟩, ⟨below, meth, c, Q⟩, w⟩ := X
  obtain ⟨hx, hb, hml, hown, hts, hK, hi, hfr, hlo, hlk⟩ := F
  intro H locs ls hP hS hl
  exact lv_i2l hx hb hdg rfl (g H locs ls hP hS hl)
theorem g_dupi (F : Fx t X cc own nL fr lo) {x : Int32} (hdg : decode cc pc = .ok (.dup, 1)) (g : G t X nL (pc + 1) lv (.int x :: .int x :: rest) σ) : G t X nL pc lv (.int x :: rest) σ := by
  obtain ⟨⟨p, l, e, R, s, m, args⟩, ⟨below, meth, c, Q⟩, w⟩ := X
  obtain ⟨hx, hb, hml, hown, hts, hK, hi, hfr, hlo, hlk⟩ := F
  intro H locs ls hP hS hl
  exact lv_dup hx hb hdg rfl (g H locs ls hP hS hl)
theorem g_dupr (F : Fx t X cc own nL fr lo) {a : Nat} (hdg : decode cc pc = .ok (.dup, 1)) (g : G t X nL (pc + 1) lv (rf X.2.2 a :: rf X.2.2 a :: rest) σ) : G t X nL pc lv (rf X.2.2 a :: rest) σ := by
  obtain ⟨⟨p, l, e, R, s, m, args⟩, ⟨below, meth, c, Q⟩, w⟩ := X
  obtain ⟨hx, hb, hml, hown, hts, hK, hi, hfr, hlo, hlk⟩ := F
  intro H locs ls hP hS hl
  exact lv_dup hx hb hdg rfl (g H locs ls hP hS hl)
theorem g_dup2 (F : Fx t X cc own nL fr lo) {x : Int32} {a : Nat} (hdg : decode cc pc = .ok (.dup2, 1)) (g : G t X nL (pc + 1) lv (.int x :: rf X.2.2 a :: .int x :: rf X.2.2 a :: rest) σ) : G t X nL pc lv (.int x :: rf X.2.2 a :: rest) σ := by
  obtain ⟨⟨p, l, e, R, s, m, args⟩, ⟨below, meth, c, Q⟩, w⟩ := X
  obtain ⟨hx, hb, hml, hown, hts, hK, hi, hfr, hlo, hlk⟩ := F
  intro H locs ls hP hS hl
  exact lv_dup2_11 hx hb hdg rfl rfl (g H locs ls hP hS hl)
theorem g_pop (F : Fx t X cc own nL fr lo) {v : Value} (hdg : decode cc pc = .ok (.pop, 1)) (hv : v.category = 1) (g : G t X nL (pc + 1) lv (rest) σ) : G t X nL pc lv (v :: rest) σ := by
  obtain ⟨⟨p, l, e, R, s, m, args⟩, ⟨below, meth, c, Q⟩, w⟩ := X
  obtain ⟨hx, hb, hml, hown, hts, hK, hi, hfr, hlo, hlk⟩ := F
  intro H locs ls hP hS hl
  exact lv_pop hx hb hdg hv (g H locs ls hP hS hl)
theorem g_goto (F : Fx t X cc own nL fr lo) {off : Int} {tgt : Nat} (hdg : decode cc pc = .ok (.goto off, 3)) (ht : (pc : Int) + off = (tgt : Int)) (g : G t X nL tgt lv rest σ) : G t X nL pc lv rest σ := by
  obtain ⟨⟨p, l, e, R, s, m, args⟩, ⟨below, meth, c, Q⟩, w⟩ := X
  obtain ⟨hx, hb, hml, hown, hts, hK, hi, hfr, hlo, hlk⟩ := F
  intro H locs ls hP hS hl
  exact lv_goto hx hb hdg ht (g H locs ls hP hS hl)
theorem g_ifeq (F : Fx t X cc own nL fr lo) {α : Type} {A B : Option α} {r : α} {off : Int} {tgt : Nat} {x : Int32} (hdg : decode cc pc = .ok (.ifCond .eq off, 3)) (ht : (pc : Int) + off = (tgt : Int)) (h : (if x = 0 then A else B) = some r) (ga : A = some r → G t X nL tgt lv rest σ) (gb : B = some r → G t X nL (pc + 3) lv rest σ) : G t X nL pc lv (.int x :: rest) σ := by
  obtain ⟨⟨p, l, e, R, s, m, args⟩, ⟨below, meth, c, Q⟩, w⟩ := X
  obtain ⟨hx, hb, hml, hown, hts, hK, hi, hfr, hlo, hlk⟩ := F
  intro H locs ls hP hS hl
  refine lv_if_eq hx hb hdg ht (fun q => ?_) (fun q => ?_)
  · exact ga (by rw [if_pos q] at h; exact h) H locs ls hP hS hl
  · exact gb (by rw [if_neg q] at h; exact h) H locs ls hP hS hl
theorem g_iflt (F : Fx t X cc own nL fr lo) {α : Type} {A B : Option α} {r : α} {off : Int} {tgt : Nat} {x : Int32} (hdg : decode cc pc = .ok (.ifCond .lt off, 3)) (ht : (pc : Int) + off = (tgt : Int)) (h : (if x < 0 then A else B) = some r) (ga : A = some r → G t X nL tgt lv rest σ) (gb : B = some r → G t X nL (pc + 3) lv rest σ) : G t X nL pc lv (.int x :: rest) σ := by
  obtain ⟨⟨p, l, e, R, s, m, args⟩, ⟨below, meth, c, Q⟩, w⟩ := X
  obtain ⟨hx, hb, hml, hown, hts, hK, hi, hfr, hlo, hlk⟩ := F
  intro H locs ls hP hS hl
  refine lv_if_lt hx hb hdg ht (fun q => ?_) (fun q => ?_)
  · exact ga (by rw [if_pos q] at h; exact h) H locs ls hP hS hl
  · exact gb (by rw [if_neg q] at h; exact h) H locs ls hP hS hl
theorem g_ifge (F : Fx t X cc own nL fr lo) {α : Type} {A B : Option α} {r : α} {off : Int} {tgt : Nat} {x : Int32} (hdg : decode cc pc = .ok (.ifCond .ge off, 3)) (ht : (pc : Int) + off = (tgt : Int)) (h : (if 0 ≤ x then A else B) = some r) (ga : A = some r → G t X nL tgt lv rest σ) (gb : B = some r → G t X nL (pc + 3) lv rest σ) : G t X nL pc lv (.int x :: rest) σ := by
  obtain ⟨⟨p, l, e, R, s, m, args⟩, ⟨below, meth, c, Q⟩, w⟩ := X
  obtain ⟨hx, hb, hml, hown, hts, hK, hi, hfr, hlo, hlk⟩ := F
  intro H locs ls hP hS hl
  refine lv_if_ge hx hb hdg ht (fun q => ?_) (fun q => ?_)
  · exact ga (by rw [if_pos q] at h; exact h) H locs ls hP hS hl
  · exact gb (by rw [if_neg q] at h; exact h) H locs ls hP hS hl
theorem g_ifgt (F : Fx t X cc own nL fr lo) {α : Type} {A B : Option α} {r : α} {off : Int} {tgt : Nat} {x : Int32} (hdg : decode cc pc = .ok (.ifCond .gt off, 3)) (ht : (pc : Int) + off = (tgt : Int)) (h : (if 0 < x then A else B) = some r) (ga : A = some r → G t X nL tgt lv rest σ) (gb : B = some r → G t X nL (pc + 3) lv rest σ) : G t X nL pc lv (.int x :: rest) σ := by
  obtain ⟨⟨p, l, e, R, s, m, args⟩, ⟨below, meth, c, Q⟩, w⟩ := X
  obtain ⟨hx, hb, hml, hown, hts, hK, hi, hfr, hlo, hlk⟩ := F
  intro H locs ls hP hS hl
  refine lv_if_gt hx hb hdg ht (fun q => ?_) (fun q => ?_)
  · exact ga (by rw [if_pos q] at h; exact h) H locs ls hP hS hl
  · exact gb (by rw [if_neg q] at h; exact h) H locs ls hP hS hl
theorem g_ifle (F : Fx t X cc own nL fr lo) {α : Type} {A B : Option α} {r : α} {off : Int} {tgt : Nat} {x : Int32} (hdg : decode cc pc = .ok (.ifCond .le off, 3)) (ht : (pc : Int) + off = (tgt : Int)) (h : (if x ≤ 0 then A else B) = some r) (ga : A = some r → G t X nL tgt lv rest σ) (gb : B = some r → G t X nL (pc + 3) lv rest σ) : G t X nL pc lv (.int x :: rest) σ := by
  obtain ⟨⟨p, l, e, R, s, m, args⟩, ⟨below, meth, c, Q⟩, w⟩ := X
  obtain ⟨hx, hb, hml, hown, hts, hK, hi, hfr, hlo, hlk⟩ := F
  intro H locs ls hP hS hl
  refine lv_if_le hx hb hdg ht (fun q => ?_) (fun q => ?_)
  · exact ga (by rw [if_pos q] at h; exact h) H locs ls hP hS hl
  · exact gb (by rw [if_neg q] at h; exact h) H locs ls hP hS hl
theorem g_ifne (F : Fx t X cc own nL fr lo) {α : Type} {A B : Option α} {r : α} {off : Int} {tgt : Nat} {x : Int32} (hdg : decode cc pc = .ok (.ifCond .ne off, 3)) (ht : (pc : Int) + off = (tgt : Int)) (h : (if x = 0 then A else B) = some r) (ga : A = some r → G t X nL (pc + 3) lv rest σ) (gb : B = some r → G t X nL tgt lv rest σ) : G t X nL pc lv (.int x :: rest) σ := by
  obtain ⟨⟨p, l, e, R, s, m, args⟩, ⟨below, meth, c, Q⟩, w⟩ := X
  obtain ⟨hx, hb, hml, hown, hts, hK, hi, hfr, hlo, hlk⟩ := F
  intro H locs ls hP hS hl
  refine lv_if_ne hx hb hdg ht (fun q => ?_) (fun q => ?_)
  · exact gb (by rw [if_neg q] at h; exact h) H locs ls hP hS hl
  · exact ga (by rw [if_pos q] at h; exact h) H locs ls hP hS hl
theorem g_icmp_eq (F : Fx t X cc own nL fr lo) {α : Type} {A B : Option α} {r : α} {off : Int} {tgt : Nat} {x y : Int32} (hdg : decode cc pc = .ok (.if_icmp .eq off, 3)) (ht : (pc : Int) + off = (tgt : Int)) (h : (if x = y then A else B) = some r) (ga : A = some r → G t X nL tgt lv rest σ) (gb : B = some r → G t X nL (pc + 3) lv rest σ) : G t X nL pc lv (.int y :: .int x :: rest) σ := by
  obtain ⟨⟨p, l, e, R, s, m, args⟩, ⟨below, meth, c, Q⟩, w⟩ := X
  obtain ⟨hx, hb, hml, hown, hts, hK, hi, hfr, hlo, hlk⟩ := F
  intro H locs ls hP hS hl
  refine lv_icmp_eq hx hb hdg ht (fun q => ?_) (fun q => ?_)
  · exact ga (by rw [if_pos q] at h; exact h) H locs ls hP hS hl
  · exact gb (by rw [if_neg q] at h; exact h) H locs ls hP hS hl
theorem g_icmp_lt (F : Fx t X cc own nL fr lo) {α : Type} {A B : Option α} {r : α} {off : Int} {tgt : Nat} {x y : Int32} (hdg : decode cc pc = .ok (.if_icmp .lt off, 3)) (ht : (pc : Int) + off = (tgt : Int)) (h : (if x < y then A else B) = some r) (ga : A = some r → G t X nL tgt lv rest σ) (gb : B = some r → G t X nL (pc + 3) lv rest σ) : G t X nL pc lv (.int y :: .int x :: rest) σ := by
  obtain ⟨⟨p, l, e, R, s, m, args⟩, ⟨below, meth, c, Q⟩, w⟩ := X
  obtain ⟨hx, hb, hml, hown, hts, hK, hi, hfr, hlo, hlk⟩ := F
  intro H locs ls hP hS hl
  refine lv_icmp_lt hx hb hdg ht (fun q => ?_) (fun q => ?_)
  · exact ga (by rw [if_pos q] at h; exact h) H locs ls hP hS hl
  · exact gb (by rw [if_neg q] at h; exact h) H locs ls hP hS hl
theorem g_icmp_ge (F : Fx t X cc own nL fr lo) {α : Type} {A B : Option α} {r : α} {off : Int} {tgt : Nat} {x y : Int32} (hdg : decode cc pc = .ok (.if_icmp .ge off, 3)) (ht : (pc : Int) + off = (tgt : Int)) (h : (if y ≤ x then A else B) = some r) (ga : A = some r → G t X nL tgt lv rest σ) (gb : B = some r → G t X nL (pc + 3) lv rest σ) : G t X nL pc lv (.int y :: .int x :: rest) σ := by
  obtain ⟨⟨p, l, e, R, s, m, args⟩, ⟨below, meth, c, Q⟩, w⟩ := X
  obtain ⟨hx, hb, hml, hown, hts, hK, hi, hfr, hlo, hlk⟩ := F
  intro H locs ls hP hS hl
  refine lv_icmp_ge hx hb hdg ht (fun q => ?_) (fun q => ?_)
  · exact ga (by rw [if_pos q] at h; exact h) H locs ls hP hS hl
  · exact gb (by rw [if_neg q] at h; exact h) H locs ls hP hS hl
theorem g_icmp_gt (F : Fx t X cc own nL fr lo) {α : Type} {A B : Option α} {r : α} {off : Int} {tgt : Nat} {x y : Int32} (hdg : decode cc pc = .ok (.if_icmp .gt off, 3)) (ht : (pc : Int) + off = (tgt : Int)) (h : (if y < x then A else B) = some r) (ga : A = some r → G t X nL tgt lv rest σ) (gb : B = some r → G t X nL (pc + 3) lv rest σ) : G t X nL pc lv (.int y :: .int x :: rest) σ := by
  obtain ⟨⟨p, l, e, R, s, m, args⟩, ⟨below, meth, c, Q⟩, w⟩ := X
  obtain ⟨hx, hb, hml, hown, hts, hK, hi, hfr, hlo, hlk⟩ := F
  intro H locs ls hP hS hl
  refine lv_icmp_gt hx hb hdg ht (fun q => ?_) (fun q => ?_)
  · exact ga (by rw [if_pos q] at h; exact h) H locs ls hP hS hl
  · exact gb (by rw [if_neg q] at h; exact h) H locs ls hP hS hl
theorem g_icmp_le (F : Fx t X cc own nL fr lo) {α : Type} {A B : Option α} {r : α} {off : Int} {tgt : Nat} {x y : Int32} (hdg : decode cc pc = .ok (.if_icmp .le off, 3)) (ht : (pc : Int) + off = (tgt : Int)) (h : (if x ≤ y then A else B) = some r) (ga : A = some r → G t X nL tgt lv rest σ) (gb : B = some r → G t X nL (pc + 3) lv rest σ) : G t X nL pc lv (.int y :: .int x :: rest) σ := by
  obtain ⟨⟨p, l, e, R, s, m, args⟩, ⟨below, meth, c, Q⟩, w⟩ := X
  obtain ⟨hx, hb, hml, hown, hts, hK, hi, hfr, hlo, hlk⟩ := F
  intro H locs ls hP hS hl
  refine lv_icmp_le hx hb hdg ht (fun q => ?_) (fun q => ?_)
  · exact ga (by rw [if_pos q] at h; exact h) H locs ls hP hS hl
  · exact gb (by rw [if_neg q] at h; exact h) H locs ls hP hS hl
theorem g_icmp_ne (F : Fx t X cc own nL fr lo) {α : Type} {A B : Option α} {r : α} {off : Int} {tgt : Nat} {x y : Int32} (hdg : decode cc pc = .ok (.if_icmp .ne off, 3)) (ht : (pc : Int) + off = (tgt : Int)) (h : (if x = y then A else B) = some r) (ga : A = some r → G t X nL (pc + 3) lv rest σ) (gb : B = some r → G t X nL tgt lv rest σ) : G t X nL pc lv (.int y :: .int x :: rest) σ := by
  obtain ⟨⟨p, l, e, R, s, m, args⟩, ⟨below, meth, c, Q⟩, w⟩ := X
  obtain ⟨hx, hb, hml, hown, hts, hK, hi, hfr, hlo, hlk⟩ := F
  intro H locs ls hP hS hl
  refine lv_icmp_ne hx hb hdg ht (fun q => ?_) (fun q => ?_)
  · exact gb (by rw [if_neg q] at h; exact h) H locs ls hP hS hl
  · exact ga (by rw [if_pos q] at h; exact h) H locs ls hP hS hl
theorem g_tabIn (F : Fx t X cc own nL fr lo) {dflt lo1 hi1 : Int} {offs : Array Int} {len : Nat} {x : Int32} {off : Int} {tgt : Nat} (hdg : decode cc pc = .ok (.tableswitch dflt lo1 hi1 offs, len)) (h1 : ¬ x.toInt < lo1) (h2 : ¬ hi1 < x.toInt) (ho : offs[(x.toInt - lo1).toNat]? = some off) (ht : (pc : Int) + off = (tgt : Int)) (g : G t X nL tgt lv rest σ) : G t X nL pc lv (.int x :: rest) σ := by
  obtain ⟨⟨p, l, e, R, s, m, args⟩, ⟨below, meth, c, Q⟩, w⟩ := X
  obtain ⟨hx, hb, hml, hown, hts, hK, hi, hfr, hlo, hlk⟩ := F
  intro H locs ls hP hS hl
  exact lv_tableIn hx hb hdg h1 h2 ho ht (g H locs ls hP hS hl)
theorem g_tabOut (F : Fx t X cc own nL fr lo) {dflt lo1 hi1 : Int} {offs : Array Int} {len : Nat} {x : Int32} {tgt : Nat} (hdg : decode cc pc = .ok (.tableswitch dflt lo1 hi1 offs, len)) (h1 : x.toInt < lo1 ∨ hi1 < x.toInt) (ht : (pc : Int) + dflt = (tgt : Int)) (g : G t X nL tgt lv rest σ) : G t X nL pc lv (.int x :: rest) σ := by
  obtain ⟨⟨p, l, e, R, s, m, args⟩, ⟨below, meth, c, Q⟩, w⟩ := X
  obtain ⟨hx, hb, hml, hown, hts, hK, hi, hfr, hlo, hlk⟩ := F
  intro H locs ls hP hS hl
  exact lv_tableOut hx hb hdg h1 ht (g H locs ls hP hS hl)
theorem g_ldc (F : Fx t X cc own nL fr lo) {idx : Nat} {v : Int32} (hc : Cond.constant own idx v ∈ wsL_law) (hdg : decode cc pc = .ok (.ldc idx, 2)) (g : G t X nL (pc + 2) lv (.int v :: rest) σ) : G t X nL pc lv rest σ := by
  obtain ⟨⟨p, l, e, R, s, m, args⟩, ⟨below, meth, c, Q⟩, w⟩ := X
  obtain ⟨hx, hb, hml, hown, hts, hK, hi, hfr, hlo, hlk⟩ := F
  intro H locs ls hP hS hl
  exact lv_ldc hx hb hown (hts _ hc) hdg (g H locs ls hP hS hl)
theorem g_ldc2 (F : Fx t X cc own nL fr lo) {idx : Nat} {v : Int64} (hc : Cond.constantLong own idx v ∈ wsL_law) (hdg : decode cc pc = .ok (.ldc2_w idx, 3)) (g : G t X nL (pc + 3) lv (.long v :: rest) σ) : G t X nL pc lv rest σ := by
  obtain ⟨⟨p, l, e, R, s, m, args⟩, ⟨below, meth, c, Q⟩, w⟩ := X
  obtain ⟨hx, hb, hml, hown, hts, hK, hi, hfr, hlo, hlk⟩ := F
  intro H locs ls hP hS hl
  exact lv_ldc2 hx hb hown (hts _ hc) hdg (g H locs ls hP hS hl)
theorem g_iald (F : Fx t X cc own nL fr lo) {α : Type} {kk : Option α} {r : α} {i : Int32} {k n : Nat} (ha : IsI t X.2.2 k n) (hdg : decode cc pc = .ok (.iaload, 1)) (h : ck i n kk = some r) (g : kk = some r → G t X nL (pc + 1) lv (.int (σ k i.toNatClampNeg) :: rest) σ) : G t X nL pc lv (.int i :: rf X.2.2 k :: rest) σ := by
  obtain ⟨⟨p, l, e, R, s, m, args⟩, ⟨below, meth, c, Q⟩, w⟩ := X
  obtain ⟨hx, hb, hml, hown, hts, hK, hi, hfr, hlo, hlk⟩ := F
  intro H locs ls hP hS hl
  obtain ⟨h1, h2⟩ := ck_some h
  exact va_iald hx hb hK hP k 0 ((wl_get ha.1).trans (by rw [ha.2])) rfl h1 hdg (g h2 H locs ls hP hS hl)
theorem g_zald (F : Fx t X cc own nL fr lo) {α : Type} {kk : Option α} {r : α} {i : Int32} {k n : Nat} (ha : IsZ t X.2.2 k n) (hdg : decode cc pc = .ok (.baload, 1)) (h : ck i n kk = some r) (g : kk = some r → G t X nL (pc + 1) lv (.int (σ k i.toNatClampNeg) :: rest) σ) : G t X nL pc lv (.int i :: rf X.2.2 k :: rest) σ := by
  obtain ⟨⟨p, l, e, R, s, m, args⟩, ⟨below, meth, c, Q⟩, w⟩ := X
  obtain ⟨hx, hb, hml, hown, hts, hK, hi, hfr, hlo, hlk⟩ := F
  intro H locs ls hP hS hl
  obtain ⟨h1, h2⟩ := ck_some h
  exact va_zald hx hb hK hP k 1 ((wl_get ha.1).trans (by rw [ha.2])) rfl h1 hdg (g h2 H locs ls hP hS hl)
theorem g_iast (F : Fx t X cc own nL fr lo) {α : Type} {kk : SS → Option α} {r : α} {i x : Int32} {k n : Nat} (ha : IsI t X.2.2 k n) (hdg : decode cc pc = .ok (.iastore, 1)) (h : ck i n (sg (stp σ k (upd (σ k) i.toNatClampNeg x)) kk) = some r) (g : ∀ σ1, kk σ1 = some r → G t X nL (pc + 1) lv rest σ1) : G t X nL pc lv (.int x :: .int i :: rf X.2.2 k :: rest) σ := by
  obtain ⟨⟨p, l, e, R, s, m, args⟩, ⟨below, meth, c, Q⟩, w⟩ := X
  obtain ⟨hx, hb, hml, hown, hts, hK, hi, hfr, hlo, hlk⟩ := F
  intro H locs ls hP hS hl
  obtain ⟨h1, h2⟩ := ck_some h
  refine va_iast hx hb hK hP (wl_D hi σ _) hS k 0 ((wl_get ha.1).trans (by rw [ha.2])) rfl h1 hdg (fun H1 locs1 hP1 hD1 hS1 => ?_)
  rw [← ha.2, wl_set] at hP1
  exact g _ h2 H1 locs1 ls hP1 hS1 hl
theorem g_zast (F : Fx t X cc own nL fr lo) {α : Type} {kk : SS → Option α} {r : α} {i x : Int32} {k n : Nat} (ha : IsZ t X.2.2 k n) (hdg : decode cc pc = .ok (.bastore, 1)) (h : ck i n (sg (stp σ k (upd (σ k) i.toNatClampNeg (x &&& 1))) kk) = some r) (g : ∀ σ1, kk σ1 = some r → G t X nL (pc + 1) lv rest σ1) : G t X nL pc lv (.int x :: .int i :: rf X.2.2 k :: rest) σ := by
  obtain ⟨⟨p, l, e, R, s, m, args⟩, ⟨below, meth, c, Q⟩, w⟩ := X
  obtain ⟨hx, hb, hml, hown, hts, hK, hi, hfr, hlo, hlk⟩ := F
  intro H locs ls hP hS hl
  obtain ⟨h1, h2⟩ := ck_some h
  refine va_zast hx hb hK hP (wl_D hi σ _) hS k 1 ((wl_get ha.1).trans (by rw [ha.2])) rfl h1 hdg (fun H1 locs1 hP1 hD1 hS1 => ?_)
  rw [← ha.2, wl_set] at hP1
  exact g _ h2 H1 locs1 ls hP1 hS1 hl
theorem g_get (F : Fx t X cc own nL fr lo) {ci k idx : Nat} {fs : (Nat → Int32) → List Value} (ho : IsO t X.2.2 k ci fs) {C ref : String} {T : u_T} {N : Nat} (hc : Cl ci C T N) (j : Nat) (hj : j < N) (hk : Cond.fieldLink own idx ref (T j).2.1 (T j).2.2.1 ∈ wsL_law) (hr : ref = (T j).1) (hdg : decode cc pc = .ok (.getfield idx, 3)) {v : Value} (hv : (fs (σ k))[j]? = some v) (g : G t X nL (pc + 3) lv (v :: rest) σ) : G t X nL pc lv (rf X.2.2 k :: rest) σ := by
  obtain ⟨⟨p, l, e, R, s, m, args⟩, ⟨below, meth, c, Q⟩, w⟩ := X
  obtain ⟨hx, hb, hml, hown, hts, hK, hi, hfr, hlo, hlk⟩ := F
  intro H locs ls hP hS hl
  subst hr
  exact va_get hx hb hts hc.2 hown hK hP k ((wl_get ho.1).trans (by rw [ho.2])) hc.1 j hj (hts _ hk) (fun _ h9 => h9) hv hdg (g H locs ls hP hS hl)
theorem g_put (F : Fx t X cc own nL fr lo) {α : Type} {kk : SS → Option α} {r : α} {ci k idx : Nat} {fs : (Nat → Int32) → List Value} (ho : IsO t X.2.2 k ci fs) {C ref : String} {T : u_T} {N : Nat} (hc : Cl ci C T N) (ty0 : Nat → FieldType) (hty : ∀ k, k < N → parseFieldDescriptor (T k).2.2.1 = some (ty0 k)) (hnm : ∀ a, a < N → ∀ b, b < N → a ≠ b → (T a).2.1 ≠ (T b).2.1) (j : Nat) (hj : j < N) (hk : Cond.fieldLink own idx ref (T j).2.1 (T j).2.2.1 ∈ wsL_law) (hr : ref = (T j).1) (hfin : (T j).2.2.2 = false) {ty : FieldType} {v : Value} (hd : parseFieldDescriptor (T j).2.2.1 = some ty) (hn : narrow ty v = v) (hfit : fits ty v = true) (hlen : j < (fs (σ k)).length) (f' : Nat → Int32) (hset : (fs (σ k)).set j v = fs f') (hdg : decode cc pc = .ok (.putfield idx, 3)) (h : sg (stp σ k f') kk = some r) (g : ∀ σ1, kk σ1 = some r → G t X nL (pc + 3) lv rest σ1) : G t X nL pc lv (v :: rf X.2.2 k :: rest) σ := by
  obtain ⟨⟨p, l, e, R, s, m, args⟩, ⟨below, meth, c, Q⟩, w⟩ := X
  obtain ⟨hx, hb, hml, hown, hts, hK, hi, hfr, hlo, hlk⟩ := F
  intro H locs ls hP hS hl
  subst hr
  refine va_put hx hb hts hc.2 ty0 hty hnm hown hK hP (wl_D hi σ _) hS k ((wl_get ho.1).trans (by rw [ho.2])) hc.1 j hj (hts _ hk) (fun _ h9 => h9) hfin hd hn hfit hlen hdg (fun H1 locs1 hP1 hD1 hS1 => ?_)
  rw [hset, ← ho.2, wl_set] at hP1
  exact g _ h H1 locs1 ls hP1 hS1 hl

theorem g_sub {lv' : List (Nat × Value)} (ks : List Nat) {st : List Value} (hp : lv_pick lv ks = lv') (g : G t X nL pc lv' st σ) : G t X nL pc lv st σ := by
  obtain ⟨⟨p, l, e, R, s, m, args⟩, ⟨below, meth, c, Q⟩, w⟩ := X
  intro H locs ls hP hS hl
  exact g H locs ls hP hS (lv_sub hl ks hp)
def AcpOk (own : String) (idx : Nat) : Prop := Cond.methodLink own idx arraycopyName ∈ wsL_law ∧ Cond.native arraycopyName ∈ wsL_law ∧ Cond.static arraycopyName ∈ wsL_law ∧ Cond.initialized "java/lang/System" ∈ wsL_law
theorem g_acp (F : Fx t X cc own nL fr lo) {α : Type} {kk : SS → Option α} {r : α} {k0 k1 n0 n1 nn idx : Nat} {nv : Int32} (h0 : IsI t X.2.2 k0 n0) (h1 : IsI t X.2.2 k1 n1) (hnn : nv.toNatClampNeg = nn) (hneg : ¬ nv < 0) (hl0 : nn ≤ n0) (hl1 : nn ≤ n1) (hrm : 1 ≤ fr ∧ nativeFrameWords "java/lang/System" "arraycopy" 5 + 11 ≤ lo) (hA : AcpOk own idx) (hdg : decode cc pc = .ok (.invokestatic idx, 3)) (h : sg (stp σ k1 (va_cpy (σ k0) (σ k1) 0 0 nn)) kk = some r) (g : ∀ σ1, kk σ1 = some r → G t X nL (pc + 3) lv [] σ1) : G t X nL pc lv [.int nv, .int 0, rf X.2.2 k1, .int 0, rf X.2.2 k0] σ := by
  obtain ⟨⟨p, l, e, R, s, m, args⟩, ⟨below, meth, c, Q⟩, w⟩ := X
  obtain ⟨hx, hb, hml, hown, hts, hK, hi, hfr, hlo, hlk⟩ := F
  intro H locs ls hP hS hl
  subst hnn
  refine va_copyi hx hb (hml.trans hl.1.symm) hown (hts _ hA.1) (hts _ hA.2.1) (hts _ hA.2.2.1) (hts _ hA.2.2.2) hK hP (wl_D hi σ _) hS k0 k1 0 0 ((wl_get h0.1).trans (by rw [h0.2])) ((wl_get h1.1).trans (by rw [h1.2])) rfl rfl rfl (sp := 0) (dp := 0) (n := nv) (by decide) (by decide) hneg (by show 0 + _ ≤ _; omega) (by show 0 + _ ≤ _; omega) (fun _ _ => rfl) (Nat.le_trans hrm.1 hfr) (by show 0 + _ ≤ _; omega) hdg (fun H1 locs1 hP1 hD1 hS1 => ?_)
  rw [← h1.2, wl_set] at hP1
  exact g _ h H1 locs1 ls hP1 hS1 hl
theorem tab_out_3 {x : Int32} (c0 : ¬ x = 0) (c1 : ¬ x = 1) (c2 : ¬ x = 2) : x.toInt < 0 ∨ 2 < x.toInt := by
  rcases (by omega : x.toInt < 0 ∨ 2 < x.toInt ∨ x.toInt = 0 ∨ x.toInt = 1 ∨ x.toInt = 2) with h | h | h | h | h
  · exact Or.inl h
  · exact Or.inr h
  · exact absurd (Int32.toInt_inj.mp (h.trans (by decide))) c0
  · exact absurd (Int32.toInt_inj.mp (h.trans (by decide))) c1
  · exact absurd (Int32.toInt_inj.mp (h.trans (by decide))) c2
theorem tab_out_5 {x : Int32} (c0 : ¬ x = 0) (c1 : ¬ x = 1) (c2 : ¬ x = 2) (c3 : ¬ x = 3) (c4 : ¬ x = 4) : x.toInt < 0 ∨ 4 < x.toInt := by
  rcases (by omega : x.toInt < 0 ∨ 4 < x.toInt ∨ x.toInt = 0 ∨ x.toInt = 1 ∨ x.toInt = 2 ∨ x.toInt = 3 ∨ x.toInt = 4) with h | h | h | h | h | h | h
  · exact Or.inl h
  · exact Or.inr h
  · exact absurd (Int32.toInt_inj.mp (h.trans (by decide))) c0
  · exact absurd (Int32.toInt_inj.mp (h.trans (by decide))) c1
  · exact absurd (Int32.toInt_inj.mp (h.trans (by decide))) c2
  · exact absurd (Int32.toInt_inj.mp (h.trans (by decide))) c3
  · exact absurd (Int32.toInt_inj.mp (h.trans (by decide))) c4
theorem tab_out_6 {x : Int32} (c0 : ¬ x = 0) (c1 : ¬ x = 1) (c2 : ¬ x = 2) (c3 : ¬ x = 3) (c4 : ¬ x = 4) (c5 : ¬ x = 5) : x.toInt < 0 ∨ 5 < x.toInt := by
  rcases (by omega : x.toInt < 0 ∨ 5 < x.toInt ∨ x.toInt = 0 ∨ x.toInt = 1 ∨ x.toInt = 2 ∨ x.toInt = 3 ∨ x.toInt = 4 ∨ x.toInt = 5) with h | h | h | h | h | h | h | h
  · exact Or.inl h
  · exact Or.inr h
  · exact absurd (Int32.toInt_inj.mp (h.trans (by decide))) c0
  · exact absurd (Int32.toInt_inj.mp (h.trans (by decide))) c1
  · exact absurd (Int32.toInt_inj.mp (h.trans (by decide))) c2
  · exact absurd (Int32.toInt_inj.mp (h.trans (by decide))) c3
  · exact absurd (Int32.toInt_inj.mp (h.trans (by decide))) c4
  · exact absurd (Int32.toInt_inj.mp (h.trans (by decide))) c5
theorem tab_out_7 {x : Int32} (c0 : ¬ x = 0) (c1 : ¬ x = 1) (c2 : ¬ x = 2) (c3 : ¬ x = 3) (c4 : ¬ x = 4) (c5 : ¬ x = 5) (c6 : ¬ x = 6) : x.toInt < 0 ∨ 6 < x.toInt := by
  rcases (by omega : x.toInt < 0 ∨ 6 < x.toInt ∨ x.toInt = 0 ∨ x.toInt = 1 ∨ x.toInt = 2 ∨ x.toInt = 3 ∨ x.toInt = 4 ∨ x.toInt = 5 ∨ x.toInt = 6) with h | h | h | h | h | h | h | h | h
  · exact Or.inl h
  · exact Or.inr h
  · exact absurd (Int32.toInt_inj.mp (h.trans (by decide))) c0
  · exact absurd (Int32.toInt_inj.mp (h.trans (by decide))) c1
  · exact absurd (Int32.toInt_inj.mp (h.trans (by decide))) c2
  · exact absurd (Int32.toInt_inj.mp (h.trans (by decide))) c3
  · exact absurd (Int32.toInt_inj.mp (h.trans (by decide))) c4
  · exact absurd (Int32.toInt_inj.mp (h.trans (by decide))) c5
  · exact absurd (Int32.toInt_inj.mp (h.trans (by decide))) c6
theorem tab_out_20 {x : Int32} (c0 : ¬ x = 0) (c1 : ¬ x = 1) (c2 : ¬ x = 2) (c3 : ¬ x = 3) (c4 : ¬ x = 4) (c5 : ¬ x = 5) (c6 : ¬ x = 6) (c7 : ¬ x = 7) (c8 : ¬ x = 8) (c9 : ¬ x = 9) (c10 : ¬ x = 10) (c11 : ¬ x = 11) (c12 : ¬ x = 12) (c13 : ¬ x = 13) (c14 : ¬ x = 14) (c15 : ¬ x = 15) (c16 : ¬ x = 16) (c17 : ¬ x = 17) (c18 : ¬ x = 18) (c19 : ¬ x = 19) : x.toInt < 0 ∨ 19 < x.toInt := by
  rcases (by omega : x.toInt < 0 ∨ 19 < x.toInt ∨ x.toInt = 0 ∨ x.toInt = 1 ∨ x.toInt = 2 ∨ x.toInt = 3 ∨ x.toInt = 4 ∨ x.toInt = 5 ∨ x.toInt = 6 ∨ x.toInt = 7 ∨ x.toInt = 8 ∨ x.toInt = 9 ∨ x.toInt = 10 ∨ x.toInt = 11 ∨ x.toInt = 12 ∨ x.toInt = 13 ∨ x.toInt = 14 ∨ x.toInt = 15 ∨ x.toInt = 16 ∨ x.toInt = 17 ∨ x.toInt = 18 ∨ x.toInt = 19) with h | h | h | h | h | h | h | h | h | h | h | h | h | h | h | h | h | h | h | h | h | h
  · exact Or.inl h
  · exact Or.inr h
  · exact absurd (Int32.toInt_inj.mp (h.trans (by decide))) c0
  · exact absurd (Int32.toInt_inj.mp (h.trans (by decide))) c1
  · exact absurd (Int32.toInt_inj.mp (h.trans (by decide))) c2
  · exact absurd (Int32.toInt_inj.mp (h.trans (by decide))) c3
  · exact absurd (Int32.toInt_inj.mp (h.trans (by decide))) c4
  · exact absurd (Int32.toInt_inj.mp (h.trans (by decide))) c5
  · exact absurd (Int32.toInt_inj.mp (h.trans (by decide))) c6
  · exact absurd (Int32.toInt_inj.mp (h.trans (by decide))) c7
  · exact absurd (Int32.toInt_inj.mp (h.trans (by decide))) c8
  · exact absurd (Int32.toInt_inj.mp (h.trans (by decide))) c9
  · exact absurd (Int32.toInt_inj.mp (h.trans (by decide))) c10
  · exact absurd (Int32.toInt_inj.mp (h.trans (by decide))) c11
  · exact absurd (Int32.toInt_inj.mp (h.trans (by decide))) c12
  · exact absurd (Int32.toInt_inj.mp (h.trans (by decide))) c13
  · exact absurd (Int32.toInt_inj.mp (h.trans (by decide))) c14
  · exact absurd (Int32.toInt_inj.mp (h.trans (by decide))) c15
  · exact absurd (Int32.toInt_inj.mp (h.trans (by decide))) c16
  · exact absurd (Int32.toInt_inj.mp (h.trans (by decide))) c17
  · exact absurd (Int32.toInt_inj.mp (h.trans (by decide))) c18
  · exact absurd (Int32.toInt_inj.mp (h.trans (by decide))) c19
end ROWS
