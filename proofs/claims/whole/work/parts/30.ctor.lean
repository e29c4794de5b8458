def GC (X : Cx) (ws0 : va_W) (nL pc : Nat) (lv : List (Nat × Value)) (st : List Value) (ws : va_W) (cells slots : Nat) : Prop := match X with
  | ((p, l, e, R, s, m, args), (below, meth, c, Q), w) => ∀ (H : Heap) (locs : List Loc) (ls : Array Slot), va_P w.2.2.2 vwCl ws H → va_D (va_A ws0 s.heap.size) ws → va_S (va_A ws0 s.heap.size) s.heap H locs → lv_has ls nL lv → W p l e R s m args below meth c H locs cells slots Q (F0 m pc ls st)
def FC (X : Cx) (mn : String) (nw : List Cond) (cc : ByteArray) (own : String) (nL fr lo cl sl : Nat) : Prop := match X with
  | ((p, l, e, R, s, m, args), (below, meth, c, Q), w) => p.tables.exec = Jvm.exec ∧ c.code = cc ∧ c.maxLocals = nL ∧ s.vm.findClass own = some m.cls ∧ (∀ v ∈ wsL_law, v.before args s = true) ∧ va_K w.2.2.2 vwCl (tys w) s ∧ fr ≤ R.frames ∧ lo ≤ R.locals ∧ cl ≤ R.cells ∧ sl ≤ R.slots ∧ meth.name = mn ∧ ∀ v ∈ nw, va_Nw v s
def MC (nw : List Cond) (l : Launch) (y : MethodName) (b : ByteArray) (nL : Nat) (rm : Room) (w : Wd) (args : List Value) (h0 : Nat) (c0 : va_E) (mc ms : Nat) (out : List Nat → va_W) : Prop := ∀ sz, Met l y (.code y b nL none :: wsL_law) rm (va_Pc args (fun U => U.heap.size = sz ∧ va_P w.2.2.2 vwCl [(h0, c0)] U.heap ∧ va_K w.2.2.2 vwCl (tys w) U ∧ ∀ v ∈ nw, va_Nw v U)) (va_Qv (fun _ : List Nat => True) (fun (u : List Nat) (T : State) => va_P w.2.2.2 vwCl (out u) T.heap ∧ va_D (va_A [(h0, c0)] sz) (out u)) (va_A [(h0, c0)] sz)) mc ms (va_A [(h0, c0)] sz)
def RC (X : Cx) (cc : ByteArray) (ws0 : va_W) (nL mc ms : Nat) (out : List Nat → va_W) : Prop := ∀ pc lv ws u, decode cc pc = .ok (.return_, 1) → ws = out u → GC X ws0 nL pc lv [] ws mc ms
theorem va_A_hi {ws : va_W} {sz : Nat} : ∀ q, sz ≤ q → va_A ws sz q := fun _ h => Or.inr h
theorem va_A_cut {X0 : va_W} {ws wr wc : va_W} {a b q : Nat} (hD : va_D (va_A X0 b) ws) (hw : ws = wr ++ wc) (h : b ≤ a) (hq : va_A wc a q) : va_A X0 b q := by
  subst hw
  rcases hq with ⟨k, e, hk⟩ | hq
  · exact hD.2 (wr.length + k) (q, e) (by rw [List.getElem?_append_right (by omega)]; simpa using hk)
  · exact Or.inr (Nat.le_trans h hq)
theorem va_P_cut {D : va_G} {cl : List vw_C} {wr wc : va_W} {H : Heap} (h : va_P D cl (wr ++ wc) H) : va_P D cl wc H := fun k q hk => h (wr.length + k) q (by rw [List.getElem?_append_right (by omega)]; simpa using hk)
section CT
variable {mn : String} {nw : List Cond} {X : Cx} {cc : ByteArray} {own : String} {nL fr lo cl sl pc cells slots : Nat} {lv : List (Nat × Value)} {rest : List Value} {ws0 ws : va_W}
theorem mk_c {l : Launch} {y : MethodName} {b : ByteArray} {rm : Room} {w : Wd} {args : List Value} {h0 : Nat} {c0 : va_E} {mc ms : Nat} {out : List Nat → va_W} (hy : plainName y.cls = true) (hn : y.name = "<init>") (ha : (lg_sl args).length ≤ nL) (body : ∀ X : Cx, X.2.2 = w → X.1.2.1 = l → FC X "<init>" nw b y.cls nL rm.frames rm.locals rm.cells rm.slots → RC X b [(h0, c0)] nL mc ms out → GC X [(h0, c0)] nL 0 (lv_args 0 args) [] [(h0, c0)] 0 0) : MC nw l y b nL rm w args h0 c0 mc ms out := by
  intro sz
  refine Met.ofW (cc := b) (maxL := nL) (ret := none) hy rfl ?_
  intro p e s m argv below meth c s₁ B hml hv
  obtain ⟨rfl, hsz, hP, hK, hNW⟩ := hv
  have hts := atoms_spec (ws := .code y b nL none :: wsL_law) B.pre
  have hown : s.vm.findClass y.cls = some m.cls := findClass_of_methodNamed B.named
  have hlocks := B.notSynchronized
  have hin : meth.name = "<init>" := ((name_of_methodNamed B.named B.method).1).trans hn
  subst hsz
  have hl := lv_entry args (n := nL) ha
  rw [lg_entry_eq]
  generalize (lg_sl args ++ List.replicate (nL - (lg_sl args).length) Slot.unset).toArray = ls at hl ⊢
  refine body ((p, l, e, rm, s, m, args.toArray), (below, meth, c, _), w) rfl rfl ⟨B.exec, B.bytes, hml, hown, fun v hv => hts v (List.mem_cons_of_mem _ hv), hK, Nat.le_refl _, Nat.le_refl _, Nat.le_refl _, Nat.le_refl _, hin, hNW⟩ ?_ s.heap [] ls hP ?_ va_S.rf hl
  · intro pc lv ws u hdg hr H locs ls1 hP1 hD1 hS1 hl1
    subst hr
    exact W.vret B.exec B.bytes B.returns (fun T hT hW => ⟨⟨u, rfl, trivial, by rw [← hT] at hP1; exact hP1, hD1⟩, hS1.F hT⟩) hS1.2.2 hdg hlocks
  · refine ⟨fun i j p q hp hq _ => ?_, fun k q hk => va_A.in hk⟩
    have h1 := (List.getElem?_eq_some_iff.mp hp).1
    have h2 := (List.getElem?_eq_some_iff.mp hq).1
    simp at h1 h2
    omega
theorem c_iconst (F : FC X mn nw cc own nL fr lo cl sl) {n : Int} {v : Int32} (hdg : decode cc pc = .ok (.iconst n, 1)) (hv : Int32.ofInt n = v) (g : GC X ws0 nL (pc + 1) lv (.int v :: rest) ws cells slots) : GC X ws0 nL pc lv (rest) ws cells slots := by
  obtain ⟨⟨p, l, e, R, s, m, args⟩, ⟨below, meth, c, Q⟩, w⟩ := X
  obtain ⟨hx, hb, hml, hown, hts, hK, hfr, hlo, hcl0, hsl0, hname, hNW⟩ := F
  intro H locs ls hP hD hS hlv
  exact lv_iconst hx hb hdg hv (g H locs ls hP hD hS hlv)
theorem c_bipush (F : FC X mn nw cc own nL fr lo cl sl) {n : Int} {v : Int32} (hdg : decode cc pc = .ok (.bipush n, 2)) (hv : (Int8.ofInt n).toInt32 = v) (g : GC X ws0 nL (pc + 2) lv (.int v :: rest) ws cells slots) : GC X ws0 nL pc lv (rest) ws cells slots := by
  obtain ⟨⟨p, l, e, R, s, m, args⟩, ⟨below, meth, c, Q⟩, w⟩ := X
  obtain ⟨hx, hb, hml, hown, hts, hK, hfr, hlo, hcl0, hsl0, hname, hNW⟩ := F
  intro H locs ls hP hD hS hlv
  exact lv_bipush hx hb hdg hv (g H locs ls hP hD hS hlv)
theorem c_sipush (F : FC X mn nw cc own nL fr lo cl sl) {n : Int} {v : Int32} (hdg : decode cc pc = .ok (.sipush n, 3)) (hv : (Int16.ofInt n).toInt32 = v) (g : GC X ws0 nL (pc + 3) lv (.int v :: rest) ws cells slots) : GC X ws0 nL pc lv (rest) ws cells slots := by
  obtain ⟨⟨p, l, e, R, s, m, args⟩, ⟨below, meth, c, Q⟩, w⟩ := X
  obtain ⟨hx, hb, hml, hown, hts, hK, hfr, hlo, hcl0, hsl0, hname, hNW⟩ := F
  intro H locs ls hP hD hS hlv
  exact lv_sipush hx hb hdg hv (g H locs ls hP hD hS hlv)
theorem c_lconst (F : FC X mn nw cc own nL fr lo cl sl) {n : Fin 2} {v : Int64} (hdg : decode cc pc = .ok (.lconst n, 1)) (hv : Int64.ofNat (n : Nat) = v) (g : GC X ws0 nL (pc + 1) lv (.long v :: rest) ws cells slots) : GC X ws0 nL pc lv (rest) ws cells slots := by
  obtain ⟨⟨p, l, e, R, s, m, args⟩, ⟨below, meth, c, Q⟩, w⟩ := X
  obtain ⟨hx, hb, hml, hown, hts, hK, hfr, hlo, hcl0, hsl0, hname, hNW⟩ := F
  intro H locs ls hP hD hS hlv
  exact lv_lconst hx hb hdg hv (g H locs ls hP hD hS hlv)
theorem c_dup (F : FC X mn nw cc own nL fr lo cl sl) {a : Nat} (hdg : decode cc pc = .ok (.dup, 1)) (g : GC X ws0 nL (pc + 1) lv (.ref a :: .ref a :: rest) ws cells slots) : GC X ws0 nL pc lv (.ref a :: rest) ws cells slots := by
  obtain ⟨⟨p, l, e, R, s, m, args⟩, ⟨below, meth, c, Q⟩, w⟩ := X
  obtain ⟨hx, hb, hml, hown, hts, hK, hfr, hlo, hcl0, hsl0, hname, hNW⟩ := F
  intro H locs ls hP hD hS hlv
  exact lv_dup hx hb hdg rfl (g H locs ls hP hD hS hlv)
theorem c_aload (F : FC X mn nw cc own nL fr lo cl sl) {k : Fin 4} {i j a : Nat} (hdg : decode cc pc = .ok (.aload_n k, 1)) (hi : (k : Nat) = i) (hl : lv[j]? = some (i, .ref a)) (g : GC X ws0 nL (pc + 1) lv (.ref a :: rest) ws cells slots) : GC X ws0 nL pc lv rest ws cells slots := by
  obtain ⟨⟨p, l, e, R, s, m, args⟩, ⟨below, meth, c, Q⟩, w⟩ := X
  obtain ⟨hx, hb, hml, hown, hts, hK, hfr, hlo, hcl0, hsl0, hname, hNW⟩ := F
  intro H locs ls hP hD hS hlv
  exact lv_aload_n hx hb hdg hi (lv_at hlv j hl) (g H locs ls hP hD hS hlv)
theorem c_obj (F : FC X mn nw cc own nL fr lo cl sl) {idx a : Nat} (h1 : Cond.methodLink own idx objectInit ∈ wsL_law) (h2 : Cond.instanceMethod objectInit ∈ wsL_law) (h3 : Cond.code objectInit ⟨#[0xb1]⟩ 1 none ∈ wsL_law) (hrm : 1 ≤ fr ∧ 12 ≤ lo) (hdg : decode cc pc = .ok (.invokespecial idx, 3)) (g : GC X ws0 nL (pc + 3) lv [] ws cells slots) : GC X ws0 nL pc lv [.ref a] ws cells slots := by
  obtain ⟨⟨p, l, e, R, s, m, args⟩, ⟨below, meth, c, Q⟩, w⟩ := X
  obtain ⟨hx, hb, hml, hown, hts, hK, hfr, hlo, hcl0, hsl0, hname, hNW⟩ := F
  intro H locs ls hP hD hS hlv
  refine W.objInit hx hb hown (hts _ h1) (hts _ h2) (hts _ h3) rfl (by rw [hml]; exact hlv.1) rfl hdg (Nat.le_trans hrm.1 hfr) (by show 2 * 0 + 0 + 12 ≤ _; omega) ?_
  exact W.eq (g2 := F0 m (pc + 3) ls []) rfl (g H locs ls hP hD hS hlv)
theorem c_newI (F : FC X mn nw cc own nL fr lo cl sl) (harr : Cond.arrayClass .int ∈ wsL_law) {n : Int32} {N' cells' slots' : Nat} (hn : ¬ n < 0) (hN : n.toNatClampNeg = N') (hbytes : N' * componentBytes .int ≤ 536870912) (e1 : cells + 1 = cells') (e2 : slots + N' = slots') (hc : cells' ≤ cl) (hs : slots' ≤ sl) (hdg : decode cc pc = .ok (.newarray .int, 2)) (g : ∀ q, GC X ws0 nL (pc + 2) lv (.ref q :: rest) (ws ++ [(q, .inl (X.2.2.2.1, N', .inl (fun _ => 0)))]) cells' slots') : GC X ws0 nL pc lv (.int n :: rest) ws cells slots := by
  subst e1; subst e2
  obtain ⟨⟨p, l, e, R, s, m, args⟩, ⟨below, meth, c, Q⟩, w⟩ := X
  obtain ⟨hx, hb, hml, hown, hts, hK, hfr, hlo, hcl0, hsl0, hname, hNW⟩ := F
  intro H locs ls hP hD hS hlv
  refine va_newa (atype := .int) (ty := .int) (a0 := (N', .inl (fun _ => 0))) hx hb (hts _ harr) rfl hK hP hD hS va_A_hi (fun cA => rfl) hn hN hbytes (Nat.le_trans hc hcl0) (Nat.le_trans hs hsl0) hdg (fun q cA H1 hK1 hP1 hD1 hS1 => ?_)
  have e : cA = w.2.1 := Option.some.inj ((hK1.2 2 _ rfl).2.symm.trans (hK.2 0 _ rfl).2)
  subst e
  exact g q H1 locs ls hP1 hD1 hS1 hlv
theorem c_newZ (F : FC X mn nw cc own nL fr lo cl sl) (harr : Cond.arrayClass .boolean ∈ wsL_law) {n : Int32} {N' cells' slots' : Nat} (hn : ¬ n < 0) (hN : n.toNatClampNeg = N') (hbytes : N' * componentBytes .boolean ≤ 536870912) (e1 : cells + 1 = cells') (e2 : slots + N' = slots') (hc : cells' ≤ cl) (hs : slots' ≤ sl) (hdg : decode cc pc = .ok (.newarray .boolean, 2)) (g : ∀ q, GC X ws0 nL (pc + 2) lv (.ref q :: rest) (ws ++ [(q, .inl (X.2.2.2.2.1, N', .inl (fun _ => 0)))]) cells' slots') : GC X ws0 nL pc lv (.int n :: rest) ws cells slots := by
  subst e1; subst e2
  obtain ⟨⟨p, l, e, R, s, m, args⟩, ⟨below, meth, c, Q⟩, w⟩ := X
  obtain ⟨hx, hb, hml, hown, hts, hK, hfr, hlo, hcl0, hsl0, hname, hNW⟩ := F
  intro H locs ls hP hD hS hlv
  refine va_newa (atype := .boolean) (ty := .boolean) (a0 := (N', .inl (fun _ => 0))) hx hb (hts _ harr) rfl hK hP hD hS va_A_hi (fun cA => rfl) hn hN hbytes (Nat.le_trans hc hcl0) (Nat.le_trans hs hsl0) hdg (fun q cA H1 hK1 hP1 hD1 hS1 => ?_)
  have e : cA = w.2.2.1 := Option.some.inj ((hK1.2 2 _ rfl).2.symm.trans (hK.2 1 _ rfl).2)
  subst e
  exact g q H1 locs ls hP1 hD1 hS1 hlv
theorem c_putF (F : FC X mn nw cc own nL fr lo cl sl) {q0 a ci idx : Nat} {fs : List Value} (he : ws[q0]? = some (a, .inr (ci, fs))) {C ref : String} {T : u_T} {N : Nat} (hc : Cl ci C T N) (ty0 : Nat → FieldType) (hty : ∀ k, k < N → parseFieldDescriptor (T k).2.2.1 = some (ty0 k)) (hnm : ∀ a, a < N → ∀ b, b < N → a ≠ b → (T a).2.1 ≠ (T b).2.1) (j : Nat) (hj : j < N) (hk : Cond.fieldLink own idx ref (T j).2.1 (T j).2.2.1 ∈ wsL_law) (hr : ref = (T j).1) (hfin : (T j).2.2.2 = true) (hmn : mn = "<init>") (hdecl : (T j).1 = own) {ty : FieldType} {v : Value} (hd : parseFieldDescriptor (T j).2.2.1 = some ty) (hn : narrow ty v = v) (hfit : fits ty v = true) (hlen : j < fs.length) {ws' : va_W} (hws : ws.set q0 (a, .inr (ci, fs.set j v)) = ws') (hdg : decode cc pc = .ok (.putfield idx, 3)) (g : GC X ws0 nL (pc + 3) lv rest ws' cells slots) : GC X ws0 nL pc lv (v :: .ref a :: rest) ws cells slots := by
  subst hr; subst hws
  obtain ⟨⟨p, l, e, R, s, m, args⟩, ⟨below, meth, c, Q⟩, w⟩ := X
  obtain ⟨hx, hb, hml, hown, hts, hK, hfr, hlo, hcl0, hsl0, hname, hNW⟩ := F
  intro H locs ls hP hD hS hlv
  exact va_putF hx hb hts hc.2 ty0 hty hnm hown hK hP hD hS q0 he hc.1 j hj (hts _ hk) (fun _ h9 => h9) hfin (hname.trans hmn) hdecl hd hn hfit hlen hdg (fun H1 locs1 hP1 hD1 hS1 => g H1 locs1 ls hP1 hD1 hS1 hlv)
theorem c_put (F : FC X mn nw cc own nL fr lo cl sl) {q0 a ci idx : Nat} {fs : List Value} (he : ws[q0]? = some (a, .inr (ci, fs))) {C ref : String} {T : u_T} {N : Nat} (hc : Cl ci C T N) (ty0 : Nat → FieldType) (hty : ∀ k, k < N → parseFieldDescriptor (T k).2.2.1 = some (ty0 k)) (hnm : ∀ a, a < N → ∀ b, b < N → a ≠ b → (T a).2.1 ≠ (T b).2.1) (j : Nat) (hj : j < N) (hk : Cond.fieldLink own idx ref (T j).2.1 (T j).2.2.1 ∈ wsL_law) (hr : ref = (T j).1) (hfin : (T j).2.2.2 = false) {ty : FieldType} {v : Value} (hd : parseFieldDescriptor (T j).2.2.1 = some ty) (hn : narrow ty v = v) (hfit : fits ty v = true) (hlen : j < fs.length) {ws' : va_W} (hws : ws.set q0 (a, .inr (ci, fs.set j v)) = ws') (hdg : decode cc pc = .ok (.putfield idx, 3)) (g : GC X ws0 nL (pc + 3) lv rest ws' cells slots) : GC X ws0 nL pc lv (v :: .ref a :: rest) ws cells slots := by
  subst hr; subst hws
  obtain ⟨⟨p, l, e, R, s, m, args⟩, ⟨below, meth, c, Q⟩, w⟩ := X
  obtain ⟨hx, hb, hml, hown, hts, hK, hfr, hlo, hcl0, hsl0, hname, hNW⟩ := F
  intro H locs ls hP hD hS hlv
  exact va_put hx hb hts hc.2 ty0 hty hnm hown hK hP hD hS q0 he hc.1 j hj (hts _ hk) (fun _ h9 => h9) hfin hd hn hfit hlen hdg (fun H1 locs1 hP1 hD1 hS1 => g H1 locs1 ls hP1 hD1 hS1 hlv)
theorem c_get (F : FC X mn nw cc own nL fr lo cl sl) {q0 a ci idx : Nat} {fs : List Value} (he : ws[q0]? = some (a, .inr (ci, fs))) {C ref : String} {T : u_T} {N : Nat} (hc : Cl ci C T N) (j : Nat) (hj : j < N) (hk : Cond.fieldLink own idx ref (T j).2.1 (T j).2.2.1 ∈ wsL_law) (hr : ref = (T j).1) {v : Value} (hv : fs[j]? = some v) (hdg : decode cc pc = .ok (.getfield idx, 3)) (g : GC X ws0 nL (pc + 3) lv (v :: rest) ws cells slots) : GC X ws0 nL pc lv (.ref a :: rest) ws cells slots := by
  subst hr
  obtain ⟨⟨p, l, e, R, s, m, args⟩, ⟨below, meth, c, Q⟩, w⟩ := X
  obtain ⟨hx, hb, hml, hown, hts, hK, hfr, hlo, hcl0, hsl0, hname, hNW⟩ := F
  intro H locs ls hP hD hS hlv
  exact va_get hx hb hts hc.2 hown hK hP q0 he hc.1 j hj (hts _ hk) (fun _ h9 => h9) hv hdg (g H locs ls hP hD hS hlv)
theorem c_new (F : FC X mn nw cc own nL fr lo cl sl) {ci idx : Nat} {fs : List Value} {C : String} {T : u_T} {N cells' slots' : Nat} (hc : Cl ci C T N) (ty : Nat → FieldType) (hty : ∀ k, k < N → parseFieldDescriptor (T k).2.2.1 = some (ty k)) (hcl : Cond.classLink own idx C ∈ wsL_law) (hinst : Cond.instantiable C N ∈ wsL_law) (hini : Cond.initialized C ∈ wsL_law) (hfs : ∀ j, j < N → defaultValue (ty j) = vp_V fs j) (e1 : cells + 1 = cells') (e2 : slots + N = slots') (hcc : cells' ≤ cl) (hs : slots' ≤ sl) (hdg : decode cc pc = .ok (.new idx, 3)) (g : ∀ q, GC X ws0 nL (pc + 3) lv (.ref q :: rest) (ws ++ [(q, .inr (ci, fs))]) cells' slots') : GC X ws0 nL pc lv rest ws cells slots := by
  subst e1; subst e2
  obtain ⟨⟨p, l, e, R, s, m, args⟩, ⟨below, meth, c, Q⟩, w⟩ := X
  obtain ⟨hx, hb, hml, hown, hts, hK, hfr, hlo, hcl0, hsl0, hname, hNW⟩ := F
  intro H locs ls hP hD hS hlv
  exact va_new hx hb hts hc.2 ty hty hown (hts _ hcl) (hts _ hinst) (hts _ hini) hK hP hD hS va_A_hi hc.1 hfs (Nat.le_trans hcc hcl0) (Nat.le_trans hs hsl0) hdg (fun q H1 hP1 hD1 hS1 => g q H1 locs ls hP1 hD1 hS1 hlv)
theorem c_astore (F : FC X mn nw cc own nL fr lo cl sl) {k : Fin 4} {i a : Nat} (hdg : decode cc pc = .ok (.astore_n k, 1)) (hi : (k : Nat) = i) (hn : i < nL) {lv' : List (Nat × Value)} (ks : List Nat) (hp : lv_pick ((i, Value.ref a) :: lv.filter (fun q => !(q.1 == i) && !(q.1 + 1 == i && q.2.category == 2))) ks = lv') (g : GC X ws0 nL (pc + 1) lv' rest ws cells slots) : GC X ws0 nL pc lv (.ref a :: rest) ws cells slots := by
  obtain ⟨⟨p, l, e, R, s, m, args⟩, ⟨below, meth, c, Q⟩, w⟩ := X
  obtain ⟨hx, hb, hml, hown, hts, hK, hfr, hlo, hcl0, hsl0, hname, hNW⟩ := F
  intro H locs ls hP hD hS hlv
  exact lv_astore_n hx hb hdg hi hlv hn rfl (fun ls1 hl1 => g H locs ls1 hP hD hS (lv_sub hl1 ks hp))
theorem c_istore (F : FC X mn nw cc own nL fr lo cl sl) {k : Fin 4} {i : Nat} {x : Int32} (hdg : decode cc pc = .ok (.istore_n k, 1)) (hi : (k : Nat) = i) (hn : i < nL) {lv' : List (Nat × Value)} (ks : List Nat) (hp : lv_pick ((i, Value.int x) :: lv.filter (fun q => !(q.1 == i) && !(q.1 + 1 == i && q.2.category == 2))) ks = lv') (g : GC X ws0 nL (pc + 1) lv' rest ws cells slots) : GC X ws0 nL pc lv (.int x :: rest) ws cells slots := by
  obtain ⟨⟨p, l, e, R, s, m, args⟩, ⟨below, meth, c, Q⟩, w⟩ := X
  obtain ⟨hx, hb, hml, hown, hts, hK, hfr, hlo, hcl0, hsl0, hname, hNW⟩ := F
  intro H locs ls hP hD hS hlv
  exact lv_istore_n hx hb hdg hi hlv hn rfl (fun ls1 hl1 => g H locs ls1 hP hD hS (lv_sub hl1 ks hp))
theorem c_ws (F : FC X mn nw cc own nL fr lo cl sl) {ws' : va_W} (e : ws = ws') {st : List Value} (g : GC X ws0 nL pc lv st ws' cells slots) : GC X ws0 nL pc lv st ws cells slots := e ▸ g
theorem c_call (F : FC X mn nw cc own nL fr lo cl sl) {y : MethodName} {b : ByteArray} {maxL n idx a1 a2 a3 a4 q cells' slots' : Nat} {As st : List Value} {c0 : va_E} {wr : va_W} {out : List Nat → va_W} {nw' : List Cond} (hnw : ∀ v ∈ nw', (∃ a i x h, v = Cond.methodLinkNest a i x h) ∧ v ∈ nw) (hM : MC nw' X.1.2.1 y b maxL { frames := a1, cells := a3, slots := a4, locals := a2 } X.2.2 (.ref q :: As) q c0 a3 a4 out) (hws : ws = wr ++ [(q, c0)]) (isC isR : List Nat) (hC : isC.map (fun i => ws[i]?) = ([(q, c0)] : va_W).map some) (hR : isR.map (fun i => ws[i]?) = wr.map some) (hnd : va_nd isR = true) (hdis : ∀ i ∈ isR, i ∉ isC) (h1 : Cond.methodLink own idx y ∈ wsL_law) (h2 : Cond.instanceMethod y ∈ wsL_law) (h3 : Cond.initialized y.cls ∈ wsL_law) (h4 : Cond.code y b maxL none ∈ wsL_law) (hnm : y.name = "<init>") (hd : y.cls ≠ "java/lang/invoke/MethodHandle" ∧ y.cls ≠ "java/lang/invoke/VarHandle" ∧ (parseMethodDescriptor y.desc).map (fun d => d.parameters.length) = some n) (hn : As.length = n) (hrm : a1 + 1 ≤ fr ∧ 8 + (maxL + 11) + a2 ≤ lo) (e1 : cells + a3 = cells') (e2 : slots + a4 = slots') (hcc : cells' ≤ cl) (hs : slots' ≤ sl) (hst : st = As.reverse ++ .ref q :: rest) (hcat : (rest.map fun v => v.category).sum ≤ 8) (hdg : decode cc pc = .ok (.invokespecial idx, 3)) (g : ∀ u, GC X ws0 nL (pc + 3) lv rest (wr ++ out u) cells' slots') : GC X ws0 nL pc lv st ws cells slots := by
  subst e1; subst e2; subst hst
  obtain ⟨⟨p, l, e, R, s, m, args⟩, ⟨below, meth, c, Q⟩, w⟩ := X
  obtain ⟨hx, hb, hml, hown, hts, hK, hfr, hlo, hcl0, hsl0, hname, hNW⟩ := F
  intro H locs ls hP hD hS hlv
  have hM2 := hM H.size
  have hG : GoodIn wsL_law (.code y b maxL none :: wsL_law) := by
    have hm : ∀ v ∈ (.code y b maxL none :: wsL_law : List Cond), v ∈ wsL_law := by
      intro v hv
      rcases List.mem_cons.mp hv with rfl | h
      · exact h4
      · exact h
    exact fun v hv => ⟨hm v hv, (wLG v (hm v hv)).2⟩
  have hPc : va_P w.2.2.2 vwCl [(q, c0)] H := by rw [hws] at hP; exact va_P_cut hP
  have hF : ∀ x, va_A [(q, c0)] H.size x → va_A ws0 s.heap.size x := fun x hx => va_A_cut hD hws hS.1 hx
  refine va_callv (va_runI (As := As) (rest := rest) ⟨hx, hb, hml, hown, hts⟩ hM2 (cwI n hts hG rfl rfl rfl (hts _ h3) (hts _ h1) (hts _ h2) hnm hd ⟨Nat.le_trans hrm.1 hfr, Nat.le_trans hrm.2 hlo⟩) ⟨fun a U g mk q => ?_, fun U hU hW => ⟨rfl, by rw [hU], by rw [hU]; exact hPc, va_K.moved hW.alike hK, fun v hv => by obtain ⟨⟨a, i, x, h, rfl⟩, h2⟩ := hnw v hv; exact va_Nw.warmM hW (hNW _ h2)⟩⟩ rfl hn hlv.1 rfl (lv_room hcat) hdg ⟨Nat.le_trans hcc hcl0, Nat.le_trans hs hsl0⟩) hS (fun q _ h => hF q h) hF (fun u t1 H1 locs1 ht hvm hw1 hB hz1 hk1 hS1 => ?_)
  · obtain ⟨q0, q1, qP, qK, qN⟩ := q
    exact ⟨q0, q1, qP, va_K.moved (u := U) (U := U.calling g mk a) (Vm.Alike.refl U.vm) qK, fun v hv => by obtain ⟨⟨a, i, x, h, rfl⟩, h2⟩ := hnw v hv; exact va_Nw.same rfl rfl (qN _ hv)⟩
  · obtain ⟨hP1, hD1⟩ := hB
    rw [ht] at hP1
    obtain ⟨hP2, hD2⟩ := va_join (wr := wr) (w1 := out u) hP hD isC isR hC hR hnd hdis hk1 hF hP1 hD1
    exact g u H1 locs1 ls hP2 hD2 hS1 hlv
theorem c_callN (F : FC X mn nw cc own nL fr lo cl sl) {host : String} {y : MethodName} {b : ByteArray} {maxL n idx a1 a2 a3 a4 q cells' slots' : Nat} {As st : List Value} {c0 : va_E} {wr : va_W} {out : List Nat → va_W} {nw' : List Cond} (hnw : ∀ v ∈ nw', (∃ a i x h, v = Cond.methodLinkNest a i x h) ∧ v ∈ nw) (hM : MC nw' X.1.2.1 y b maxL { frames := a1, cells := a3, slots := a4, locals := a2 } X.2.2 (.ref q :: As) q c0 a3 a4 out) (hws : ws = wr ++ [(q, c0)]) (isC isR : List Nat) (hC : isC.map (fun i => ws[i]?) = ([(q, c0)] : va_W).map some) (hR : isR.map (fun i => ws[i]?) = wr.map some) (hnd : va_nd isR = true) (hdis : ∀ i ∈ isR, i ∉ isC) (h1 : Cond.methodLinkNest own idx y host ∈ nw) (h2 : Cond.instanceMethod y ∈ wsL_law) (h3 : Cond.initialized y.cls ∈ wsL_law) (h4 : Cond.code y b maxL none ∈ wsL_law) (hnm : y.name = "<init>") (hd : y.cls ≠ "java/lang/invoke/MethodHandle" ∧ y.cls ≠ "java/lang/invoke/VarHandle" ∧ (parseMethodDescriptor y.desc).map (fun d => d.parameters.length) = some n) (hn : As.length = n) (hrm : a1 + 1 ≤ fr ∧ 8 + (maxL + 11) + a2 ≤ lo) (e1 : cells + a3 = cells') (e2 : slots + a4 = slots') (hcc : cells' ≤ cl) (hs : slots' ≤ sl) (hst : st = As.reverse ++ .ref q :: rest) (hcat : (rest.map fun v => v.category).sum ≤ 8) (hdg : decode cc pc = .ok (.invokespecial idx, 3)) (g : ∀ u, GC X ws0 nL (pc + 3) lv rest (wr ++ out u) cells' slots') : GC X ws0 nL pc lv st ws cells slots := by
  subst e1; subst e2; subst hst
  obtain ⟨⟨p, l, e, R, s, m, args⟩, ⟨below, meth, c, Q⟩, w⟩ := X
  obtain ⟨hx, hb, hml, hown, hts, hK, hfr, hlo, hcl0, hsl0, hname, hNW⟩ := F
  intro H locs ls hP hD hS hlv
  have hM2 := hM H.size
  have hG : GoodIn wsL_law (.code y b maxL none :: wsL_law) := by
    have hm : ∀ v ∈ (.code y b maxL none :: wsL_law : List Cond), v ∈ wsL_law := by
      intro v hv
      rcases List.mem_cons.mp hv with rfl | h
      · exact h4
      · exact h
    exact fun v hv => ⟨hm v hv, (wLG v (hm v hv)).2⟩
  have hPc : va_P w.2.2.2 vwCl [(q, c0)] H := by rw [hws] at hP; exact va_P_cut hP
  have hF : ∀ x, va_A [(q, c0)] H.size x → va_A ws0 s.heap.size x := fun x hx => va_A_cut hD hws hS.1 hx
  refine va_callv (va_runIN (As := As) (rest := rest) ⟨hx, hb, hml, hown, hts⟩ hM2 ⟨va_cnB n hts hG rfl rfl rfl (hNW _ h1) (hts _ h3) hd ⟨Nat.le_trans hrm.1 hfr, Nat.le_trans hrm.2 hlo⟩, hnm, hts _ h2⟩ ⟨fun a U g mk q => ?_, fun U hU hW => ⟨rfl, by rw [hU], by rw [hU]; exact hPc, va_K.moved hW.alike hK, fun v hv => by obtain ⟨⟨a, i, x, h, rfl⟩, h2⟩ := hnw v hv; exact va_Nw.warmM hW (hNW _ h2)⟩⟩ rfl hn hlv.1 rfl (lv_room hcat) hdg ⟨Nat.le_trans hcc hcl0, Nat.le_trans hs hsl0⟩) hS (fun q _ h => hF q h) hF (fun u t1 H1 locs1 ht hvm hw1 hB hz1 hk1 hS1 => ?_)
  · obtain ⟨q0, q1, qP, qK, qN⟩ := q
    exact ⟨q0, q1, qP, va_K.moved (u := U) (U := U.calling g mk a) (Vm.Alike.refl U.vm) qK, fun v hv => by obtain ⟨⟨a, i, x, h, rfl⟩, h2⟩ := hnw v hv; exact va_Nw.same rfl rfl (qN _ hv)⟩
  · obtain ⟨hP1, hD1⟩ := hB
    rw [ht] at hP1
    obtain ⟨hP2, hD2⟩ := va_join (wr := wr) (w1 := out u) hP hD isC isR hC hR hnd hdis hk1 hF hP1 hD1
    exact g u H1 locs1 ls hP2 hD2 hS1 hlv
end CT
