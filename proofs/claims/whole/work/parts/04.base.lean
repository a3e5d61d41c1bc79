-- branches, checks, sequences and loops of pure functions
noncomputable def xb {α : Type} (c : Prop) (a b : α) : α := @ite α c (Classical.propDecidable c) a b
theorem xb_t {α : Type} {c : Prop} {a b : α} (h : c) : xb c a b = a := by unfold xb; exact if_pos h
theorem xb_f {α : Type} {c : Prop} {a b : α} (h : ¬ c) : xb c a b = b := by unfold xb; exact if_neg h
theorem xb_tt {α : Type} {c : Prop} {a b r : α} (hc : c) (h : xb c a b = r) : a = r := (xb_t hc).symm.trans h
theorem xb_ff {α : Type} {c : Prop} {a b r : α} (hc : ¬ c) (h : xb c a b = r) : b = r := (xb_f hc).symm.trans h
noncomputable def xk {α : Type} (c : Prop) (x : Option α) : Option α := xb c x none
theorem xk_t {α : Type} {c : Prop} {x : Option α} (h : c) : xk c x = x := xb_t h
theorem xk_i {α : Type} {c : Prop} {x : Option α} {r : α} (h : xk c x = some r) : c ∧ x = some r := by
  rcases Classical.em c with q | q
  · exact ⟨q, (xk_t q).symm.trans h⟩
  · have h2 : (none : Option α) = some r := (xb_f q).symm.trans h
    cases h2
def xn {α β : Type} (x : Option α) (f : α → Option β) : Option β := match x with
  | none => none
  | some a => f a
theorem xn_i {α β : Type} {x : Option α} {f : α → Option β} {r : β} (h : xn x f = some r) : ∃ a, x = some a ∧ f a = some r := by
  cases x with
  | none => cases h
  | some a => exact ⟨a, rfl, h⟩
theorem xn_s {α β : Type} {x : Option α} {f : α → Option β} {a : α} (h : x = some a) : xn x f = f a := by rw [h]; rfl
def xl {S R : Type} (body : S → Option (S ⊕ R)) : Nat → S → Option R
  | 0, _ => none
  | n + 1, s => xn (body s) (fun o => match o with
    | .inl s' => xl body n s'
    | .inr r => some r)
theorem xl_l {S R : Type} {body : S → Option (S ⊕ R)} {n : Nat} {s s' : S} (h : body s = some (.inl s')) : xl body (n + 1) s = xl body n s' := by rw [xl, xn_s h]
theorem xl_r {S R : Type} {body : S → Option (S ⊕ R)} {n : Nat} {s : S} {r : R} (h : body s = some (.inr r)) : xl body (n + 1) s = some r := by rw [xl, xn_s h]
theorem xl_i {S R : Type} {body : S → Option (S ⊕ R)} {n : Nat} {s : S} {r : R} (h : xl body (n + 1) s = some r) : (∃ s', body s = some (.inl s') ∧ xl body n s' = some r) ∨ body s = some (.inr r) := by
  rw [xl] at h
  obtain ⟨o, h1, h2⟩ := xn_i h
  cases o with
  | inl s' => exact Or.inl ⟨s', h1, h2⟩
  | inr q => exact Or.inr (by rw [h1]; rw [Option.some.inj h2])
theorem xl_mono {S R : Type} {body : S → Option (S ⊕ R)} : ∀ {n : Nat} {s : S} {r : R} (k : Nat), xl body n s = some r → xl body (n + k) s = some r
  | 0, _, _, _, h => by cases h
  | n + 1, s, r, k, h => by
    rw [show n + 1 + k = (n + k) + 1 by omega]
    rcases xl_i h with ⟨s', h1, h2⟩ | h1
    · rw [xl_l h1]; exact xl_mono k h2
    · exact xl_r h1
theorem xl_one {S R : Type} {body : S → Option (S ⊕ R)} {n k : Nat} {s : S} {r q : R} (h1 : xl body n s = some r) (h2 : xl body k s = some q) : r = q := by
  have a := xl_mono k h1
  have b := xl_mono n h2
  rw [Nat.add_comm k n, a] at b
  exact Option.some.inj b
noncomputable def xL {S R : Type} (body : S → Option (S ⊕ R)) (s : S) : Option R := @dite _ (∃ r, ∃ n, xl body n s = some r) (Classical.propDecidable _) (fun h => some h.choose) (fun _ => none)
theorem xL_i {S R : Type} {body : S → Option (S ⊕ R)} {s : S} {r : R} (h : xL body s = some r) : ∃ n, xl body n s = some r := by
  unfold xL at h
  rcases Classical.em (∃ r, ∃ n, xl body n s = some r) with q | q
  · rw [dif_pos q] at h
    have e := Option.some.inj h
    rw [← e]; exact q.choose_spec
  · rw [dif_neg q] at h; cases h
theorem xL_s {S R : Type} {body : S → Option (S ⊕ R)} {s : S} {r : R} {n : Nat} (h : xl body n s = some r) : xL body s = some r := by
  have q : ∃ r, ∃ n, xl body n s = some r := ⟨r, n, h⟩
  unfold xL
  rw [dif_pos q]
  obtain ⟨k, hk⟩ := q.choose_spec
  rw [xl_one hk h]
theorem xL_l {S R : Type} {body : S → Option (S ⊕ R)} {s s' : S} {r : R} (h : body s = some (.inl s')) (h2 : xL body s' = some r) : xL body s = some r := by
  obtain ⟨n, hn⟩ := xL_i h2
  exact xL_s (n := n + 1) (by rw [xl_l h]; exact hn)
theorem xL_r {S R : Type} {body : S → Option (S ⊕ R)} {s : S} {r : R} (h : body s = some (.inr r)) : xL body s = some r := xL_s (n := 1) (xl_r h)
/-- the walk of a loop: what holds at its head follows from what holds behind it -/
theorem xL_w {S R : Type} {body : S → Option (S ⊕ R)} (Wd : S → Prop) (We : R → Prop) (hb : ∀ (s : S) (o : S ⊕ R), body s = some o → Sum.elim Wd We o → Wd s) {s : S} {r : R} (h : xL body s = some r) (hr : We r) : Wd s := by
  obtain ⟨n, hn⟩ := xL_i h
  clear h
  induction n generalizing s with
  | zero => cases hn
  | succ n ih =>
    rcases xl_i hn with ⟨s', h1, h2⟩ | h1
    · exact hb s _ h1 (ih h2)
    · exact hb s _ h1 hr
/-- the reckoning of a loop: an invariant and a measure -/
theorem xL_inv {S R : Type} {body : S → Option (S ⊕ R)} {P : R → Prop} (I : S → Prop) (μ : S → Nat) (h : ∀ s, I s → (∃ s', body s = some (.inl s') ∧ I s' ∧ μ s' < μ s) ∨ (∃ r, body s = some (.inr r) ∧ P r)) {s : S} (hs : I s) : ∃ r, xL body s = some r ∧ P r := by
  have key : ∀ (k : Nat) (s : S), I s → μ s < k → ∃ r, xL body s = some r ∧ P r := by
    intro k
    induction k with
    | zero => intro s _ hk; exact absurd hk (Nat.not_lt_zero _)
    | succ k ih =>
      intro s hs hk
      rcases h s hs with ⟨s', h1, h2, h3⟩ | ⟨r, h1, h2⟩
      · obtain ⟨r, h4, h5⟩ := ih s' h2 (by omega)
        exact ⟨r, xL_l h1 h4, h5⟩
      · exact ⟨r, xL_r h1, h2⟩
  exact key _ s hs (Nat.lt_succ_self _)
-- the walk's context, world, contracts
abbrev xT (cI cZ cB cO : ClassId) : List (ClassId × FieldType) := [(cI, .int), (cZ, .boolean), (cB, .byte), (cO, .object "CarriedSets$Setup")]
def xW (y : MethodName) (cc : ByteArray) (n : Nat) (ret : Option FieldType) : List Cond := Cond.code y cc n ret :: xtb
def xCtx (D : va_G) (tys : List (ClassId × FieldType)) (p : Program) (s : State) (m : MethodId) (args : Array Value) (meth : Method) (c : Code) (cc : ByteArray) (nL : Nat) (own : String) (ret : Option FieldType) : Prop :=
  p.tables.exec = Jvm.exec ∧ c.code = cc ∧ c.maxLocals = nL ∧ s.vm.findClass own = some m.cls ∧ (∀ w ∈ xtb, w.before args s = true) ∧ meth.sig.returnType = ret ∧ meth.locks = false ∧ va_K D vwCl tys s
def xWd (D : va_G) (A : Nat → Prop) (H0 H : Heap) (locs : List Loc) (ws : va_W) : Prop := va_P D vwCl ws H ∧ va_D A ws ∧ va_S A H0 H locs ∧ ∀ q, H0.size ≤ q → A q
abbrev xPre (dC : Nat → ClassId) (dI : Nat → Nat → Nat) (tys : List (ClassId × FieldType)) (av : List Value) (wc : va_W) (sz : Nat) : Array Value → State → Prop := va_Pc av (fun U => U.heap.size = sz ∧ va_P (dC, dI) vwCl wc U.heap ∧ va_K (dC, dI) vwCl tys U ∧ va_D (fun _ => True) wc)
abbrev xBk (dC : Nat → ClassId) (dI : Nat → Nat → Nat) (tys : List (ClassId × FieldType)) (wc w1 : va_W) (sz : Nat) : Unit → State → Prop := fun _ t => va_P (dC, dI) vwCl w1 t.heap ∧ va_K (dC, dI) vwCl tys t ∧ va_D (va_A wc sz) w1
abbrev xQi (dC : Nat → ClassId) (dI : Nat → Nat → Nat) (tys : List (ClassId × FieldType)) (r : Int32) (wc w1 : va_W) (sz : Nat) : Array Value → State → Outcome → State → Prop := va_Qi (fun (r' : Int32) (_ : Unit) => r' = r) (xBk dC dI tys wc w1 sz) (va_A wc sz)
abbrev xQl (dC : Nat → ClassId) (dI : Nat → Nat → Nat) (tys : List (ClassId × FieldType)) (r : Int64) (wc w1 : va_W) (sz : Nat) : Array Value → State → Outcome → State → Prop := va_Ql (fun (r' : Int64) (_ : Unit) => r' = r) (xBk dC dI tys wc w1 sz) (va_A wc sz)
abbrev xQv (dC : Nat → ClassId) (dI : Nat → Nat → Nat) (tys : List (ClassId × FieldType)) (wc w1 : va_W) (sz : Nat) : Array Value → State → Outcome → State → Prop := va_Qv (fun (_ : Unit) => True) (xBk dC dI tys wc w1 sz) (va_A wc sz)
/-- a method's entry -/
theorem x_met {l : Launch} {y : MethodName} {dC : Nat → ClassId} {dI : Nat → Nat → Nat} {tys : List (ClassId × FieldType)} {cc : ByteArray} {maxL : Nat} {ret : Option FieldType} {rm : Room} {av : List Value} {wc : va_W} {sz mc ms : Nat} {Qc : Array Value → State → Outcome → State → Prop}
    (hy : plainName y.cls = true) (hlen : (lg_sl av).length ≤ maxL)
    (body : ∀ (p : Program) (e : Env) (s : State) (m : MethodId) (args : Array Value) (below : List Frame) (meth : Method) (c : Code) (R : Room) (Q : State → Prop) (A : Nat → Prop), R = rm → s.heap.size = sz → A = va_A wc sz → Q = MQ below Qc args s mc ms (va_A wc sz) → (y.name = "<init>" → meth.name = "<init>") →
      xCtx (dC, dI) tys p s m args meth c cc maxL y.cls ret → xWd (dC, dI) A s.heap s.heap [] wc → ∀ (ls : Array Slot), lv_has ls maxL (lv_args 0 av) →
      W p l e R s m args below meth c s.heap [] 0 0 Q (F0 m 0 ls [])) :
    Met l y (xW y cc maxL ret) rm (xPre dC dI tys av wc sz) Qc mc ms (va_A wc sz) := by
  refine Met.ofW (cc := cc) (maxL := maxL) (ret := ret) hy rfl ?_
  intro p e s m args below meth c s₁ B hml hv
  obtain ⟨rfl, hsz, hP, hK, hD0⟩ := hv
  have hts := atoms_spec (ws := xW y cc maxL ret) B.pre
  have hown : s.vm.findClass y.cls = some m.cls := findClass_of_methodNamed B.named
  have hin : meth.name = y.name := (name_of_methodNamed B.named B.method).1
  have hD := hD0.self (sz := sz)
  have hl := lv_entry av (n := maxL) hlen
  rw [lg_entry_eq]
  exact body p e s m _ below meth c _ _ (va_A wc sz) rfl hsz rfl rfl (fun h => hin.trans h) ⟨B.exec, B.bytes, hml, hown, fun w h => hts w (List.mem_cons_of_mem _ h), B.returns, B.notSynchronized, hK⟩ ⟨hP, hD, va_S.rf, fun q h => Or.inr (by rw [← hsz]; exact h)⟩ _ hl
section XROWS
variable {D : va_G} {dC : Nat → ClassId} {dI : Nat → Nat → Nat} {tys : List (ClassId × FieldType)} {p : Program} {l : Launch} {e : Env} {R : Room} {s : State} {m : MethodId} {args : Array Value} {below : List Frame} {meth : Method} {c : Code} {H H0 : Heap} {locs : List Loc} {cells slots : Nat} {Q : State → Prop} {A : Nat → Prop}
variable {cc : ByteArray} {pc nL : Nat} {ls : Array Slot} {rest : List Value} {own : String} {ret : Option FieldType} {ws : va_W} {a : Nat}
theorem xWd.sub (h : xWd D A H0 H locs ws) {ws' : va_W} (is : List Nat) (hn : va_nd is = true) (hs : is.map (fun i => ws[i]?) = ws'.map some) : xWd D A H0 H locs ws' := by
  refine ⟨?_, h.2.1.sub is hn hs, h.2.2⟩
  intro k q hk
  have h1 : (ws'.map some)[k]? = some (some q) := by rw [List.getElem?_map, hk]; rfl
  rw [← hs, List.getElem?_map] at h1
  cases hi : is[k]? with
  | none => rw [hi] at h1; cases h1
  | some i =>
    rw [hi] at h1
    exact h.1 i q (Option.some.inj h1)
theorem x_get (C : xCtx D tys p s m args meth c cc nL own ret) (hw : xWd D A H0 H locs ws) {Cn ref : String} {T : u_T} {N ci index : Nat} (hin : ∀ w ∈ u_ws Cn T N, w ∈ xtb) (hc : vwCl[ci]? = some (Cn, T, N)) (k : Nat) (hk : k < N) (hlink : Cond.fieldLink own index ref (T k).2.1 (T k).2.2.1 ∈ xtb) (href : (T k).1 = ref) (q0 : Nat) {fs : List Value} (he : ws[q0]? = some (a, .inr (ci, fs))) {v : Value} (hv : fs[k]? = some v) (hdg : decode cc pc = .ok (.getfield index, 3))
    (kk : W p l e R s m args below meth c H locs cells slots Q (F0 m (pc + 3) ls (v :: rest))) : W p l e R s m args below meth c H locs cells slots Q (F0 m pc ls (.ref a :: rest)) :=
  va_get C.1 C.2.1 C.2.2.2.2.1 hin C.2.2.2.1 C.2.2.2.2.2.2.2 hw.1 q0 he hc k hk (C.2.2.2.2.1 _ hlink) (fun _ h9 => by rw [← href]; exact h9) hv hdg kk
theorem x_put (C : xCtx D tys p s m args meth c cc nL own ret) (hw : xWd D A H0 H locs ws) {Cn ref : String} {T : u_T} {N ci index : Nat} (hin : ∀ w ∈ u_ws Cn T N, w ∈ xtb) (ty0 : Nat → FieldType) (hty : ∀ k, k < N → parseFieldDescriptor (T k).2.2.1 = some (ty0 k)) (hnm : ∀ a, a < N → ∀ b, b < N → a ≠ b → (T a).2.1 ≠ (T b).2.1) (hc : vwCl[ci]? = some (Cn, T, N)) (k : Nat) (hk : k < N) (hlink : Cond.fieldLink own index ref (T k).2.1 (T k).2.2.1 ∈ xtb) (href : (T k).1 = ref) (hfin : (T k).2.2.2 = false) (q0 : Nat) {fs : List Value} (he : ws[q0]? = some (a, .inr (ci, fs))) {v : Value} (hn : narrow (ty0 k) v = v) (hfit : fits (ty0 k) v = true) (hl : k < fs.length) (hdg : decode cc pc = .ok (.putfield index, 3))
    (kk : ∀ (H1 : Heap) (locs1 : List Loc), xWd D A H0 H1 locs1 (ws.set q0 (a, .inr (ci, fs.set k v))) → W p l e R s m args below meth c H1 locs1 cells slots Q (F0 m (pc + 3) ls rest)) : W p l e R s m args below meth c H locs cells slots Q (F0 m pc ls (v :: .ref a :: rest)) :=
  va_put C.1 C.2.1 C.2.2.2.2.1 hin ty0 hty hnm C.2.2.2.1 C.2.2.2.2.2.2.2 hw.1 hw.2.1 hw.2.2.1 q0 he hc k hk (C.2.2.2.2.1 _ hlink) (fun _ h9 => by rw [← href]; exact h9) hfin (hty k hk) hn hfit hl hdg (fun H1 locs1 h1 h2 h3 => kk H1 locs1 ⟨h1, h2, h3, hw.2.2.2⟩)
theorem x_iald (C : xCtx D tys p s m args meth c cc nL own ret) (hw : xWd D A H0 H locs ws) (q0 t0 : Nat) {cA : ClassId} {n : Nat} {f : Nat → Int32} (ha : ws[q0]? = some (a, .inl (cA, n, .inl f))) (ht : tys[t0]? = some (cA, .int)) {i : Int32} (hin : vp_in i n) (hdg : decode cc pc = .ok (.iaload, 1))
    (kk : W p l e R s m args below meth c H locs cells slots Q (F0 m (pc + 1) ls (.int (f i.toNatClampNeg) :: rest))) : W p l e R s m args below meth c H locs cells slots Q (F0 m pc ls (.int i :: .ref a :: rest)) := va_iald C.1 C.2.1 C.2.2.2.2.2.2.2 hw.1 q0 t0 ha ht hin hdg kk
theorem x_zald (C : xCtx D tys p s m args meth c cc nL own ret) (hw : xWd D A H0 H locs ws) (q0 t0 : Nat) {cA : ClassId} {n : Nat} {f : Nat → Int32} (ha : ws[q0]? = some (a, .inl (cA, n, .inl f))) (ht : tys[t0]? = some (cA, .boolean)) {i : Int32} (hin : vp_in i n) (hdg : decode cc pc = .ok (.baload, 1))
    (kk : W p l e R s m args below meth c H locs cells slots Q (F0 m (pc + 1) ls (.int (f i.toNatClampNeg) :: rest))) : W p l e R s m args below meth c H locs cells slots Q (F0 m pc ls (.int i :: .ref a :: rest)) := va_zald C.1 C.2.1 C.2.2.2.2.2.2.2 hw.1 q0 t0 ha ht hin hdg kk
theorem x_bald (C : xCtx D tys p s m args meth c cc nL own ret) (hw : xWd D A H0 H locs ws) (q0 t0 : Nat) {cA : ClassId} {n : Nat} {f : Nat → Int32} (ha : ws[q0]? = some (a, .inl (cA, n, .inl f))) (ht : tys[t0]? = some (cA, .byte)) {i : Int32} (hin : vp_in i n) (hdg : decode cc pc = .ok (.baload, 1))
    (kk : W p l e R s m args below meth c H locs cells slots Q (F0 m (pc + 1) ls (.int (f i.toNatClampNeg) :: rest))) : W p l e R s m args below meth c H locs cells slots Q (F0 m pc ls (.int i :: .ref a :: rest)) := va_bald C.1 C.2.1 C.2.2.2.2.2.2.2 hw.1 q0 t0 ha ht hin hdg kk
theorem x_iast (C : xCtx D tys p s m args meth c cc nL own ret) (hw : xWd D A H0 H locs ws) (q0 t0 : Nat) {cA : ClassId} {n : Nat} {f : Nat → Int32} (ha : ws[q0]? = some (a, .inl (cA, n, .inl f))) (ht : tys[t0]? = some (cA, .int)) {i x : Int32} (hin : vp_in i n) (hdg : decode cc pc = .ok (.iastore, 1))
    (kk : ∀ (H1 : Heap) (locs1 : List Loc), xWd D A H0 H1 locs1 (ws.set q0 (a, .inl (cA, n, .inl (upd f i.toNatClampNeg x)))) → W p l e R s m args below meth c H1 locs1 cells slots Q (F0 m (pc + 1) ls rest)) : W p l e R s m args below meth c H locs cells slots Q (F0 m pc ls (.int x :: .int i :: .ref a :: rest)) :=
  va_iast C.1 C.2.1 C.2.2.2.2.2.2.2 hw.1 hw.2.1 hw.2.2.1 q0 t0 ha ht hin hdg (fun H1 locs1 h1 h2 h3 => kk H1 locs1 ⟨h1, h2, h3, hw.2.2.2⟩)
theorem x_zast (C : xCtx D tys p s m args meth c cc nL own ret) (hw : xWd D A H0 H locs ws) (q0 t0 : Nat) {cA : ClassId} {n : Nat} {f : Nat → Int32} (ha : ws[q0]? = some (a, .inl (cA, n, .inl f))) (ht : tys[t0]? = some (cA, .boolean)) {i x : Int32} (hx : vp_nar .boolean x = x) (hin : vp_in i n) (hdg : decode cc pc = .ok (.bastore, 1))
    (kk : ∀ (H1 : Heap) (locs1 : List Loc), xWd D A H0 H1 locs1 (ws.set q0 (a, .inl (cA, n, .inl (upd f i.toNatClampNeg x)))) → W p l e R s m args below meth c H1 locs1 cells slots Q (F0 m (pc + 1) ls rest)) : W p l e R s m args below meth c H locs cells slots Q (F0 m pc ls (.int x :: .int i :: .ref a :: rest)) :=
  va_zast C.1 C.2.1 C.2.2.2.2.2.2.2 hw.1 hw.2.1 hw.2.2.1 q0 t0 ha ht hin hdg (fun H1 locs1 h1 h2 h3 => kk H1 locs1 (by rw [hx] at h1 h2; exact ⟨h1, h2, h3, hw.2.2.2⟩))
theorem x_bast (C : xCtx D tys p s m args meth c cc nL own ret) (hw : xWd D A H0 H locs ws) (q0 t0 : Nat) {cA : ClassId} {n : Nat} {f : Nat → Int32} (ha : ws[q0]? = some (a, .inl (cA, n, .inl f))) (ht : tys[t0]? = some (cA, .byte)) {i x : Int32} (hx : vp_nar .byte x = x) (hin : vp_in i n) (hdg : decode cc pc = .ok (.bastore, 1))
    (kk : ∀ (H1 : Heap) (locs1 : List Loc), xWd D A H0 H1 locs1 (ws.set q0 (a, .inl (cA, n, .inl (upd f i.toNatClampNeg x)))) → W p l e R s m args below meth c H1 locs1 cells slots Q (F0 m (pc + 1) ls rest)) : W p l e R s m args below meth c H locs cells slots Q (F0 m pc ls (.int x :: .int i :: .ref a :: rest)) :=
  va_bast C.1 C.2.1 C.2.2.2.2.2.2.2 hw.1 hw.2.1 hw.2.2.1 q0 t0 ha ht hin hdg (fun H1 locs1 h1 h2 h3 => kk H1 locs1 (by rw [hx] at h1 h2; exact ⟨h1, h2, h3, hw.2.2.2⟩))
theorem x_reti {r : Int32} {wc w1 : va_W} {sz : Nat} (C : xCtx (dC, dI) tys p s m args meth c cc nL own (some .int)) (hQ : Q = MQ below (xQi dC dI tys r wc w1 sz) args s cells slots (va_A wc sz)) (hA : A = va_A wc sz) (hw : xWd (dC, dI) A s.heap H locs w1) (hdg : decode cc pc = .ok (.ireturn, 1)) : W p l e R s m args below meth c H locs cells slots Q (F0 m pc ls [.int r]) := by
  subst hQ hA
  exact W.iret C.1 C.2.1 C.2.2.2.2.2.1 (fun t ht hW => ⟨⟨r, (), rfl, rfl, by rw [ht]; exact hw.1, va_K.moved hW.alike C.2.2.2.2.2.2.2, hw.2.1⟩, hw.2.2.1.F ht⟩) hw.2.2.1.2.2 hdg C.2.2.2.2.2.2.1
theorem x_retz {r : Int32} {wc w1 : va_W} {sz : Nat} (C : xCtx (dC, dI) tys p s m args meth c cc nL own (some .boolean)) (hQ : Q = MQ below (xQi dC dI tys r wc w1 sz) args s cells slots (va_A wc sz)) (hA : A = va_A wc sz) (hw : xWd (dC, dI) A s.heap H locs w1) (hr : r = 0 ∨ r = 1) (hdg : decode cc pc = .ok (.ireturn, 1)) : W p l e R s m args below meth c H locs cells slots Q (F0 m pc ls [.int r]) := by
  subst hQ hA
  exact W.zret C.1 C.2.1 C.2.2.2.2.2.1 (by rcases hr with rfl | rfl <;> rfl) (fun t ht hW => ⟨⟨r, (), rfl, rfl, by rw [ht]; exact hw.1, va_K.moved hW.alike C.2.2.2.2.2.2.2, hw.2.1⟩, hw.2.2.1.F ht⟩) hw.2.2.1.2.2 hdg C.2.2.2.2.2.2.1
theorem x_retl {r : Int64} {wc w1 : va_W} {sz : Nat} (C : xCtx (dC, dI) tys p s m args meth c cc nL own (some .long)) (hQ : Q = MQ below (xQl dC dI tys r wc w1 sz) args s cells slots (va_A wc sz)) (hA : A = va_A wc sz) (hw : xWd (dC, dI) A s.heap H locs w1) (hdg : decode cc pc = .ok (.lreturn, 1)) : W p l e R s m args below meth c H locs cells slots Q (F0 m pc ls [.long r]) := by
  subst hQ hA
  exact W.lret C.1 C.2.1 C.2.2.2.2.2.1 (fun t ht hW => ⟨⟨r, (), rfl, rfl, by rw [ht]; exact hw.1, va_K.moved hW.alike C.2.2.2.2.2.2.2, hw.2.1⟩, hw.2.2.1.F ht⟩) hw.2.2.1.2.2 hdg C.2.2.2.2.2.2.1
theorem x_retv {wc w1 : va_W} {sz : Nat} (C : xCtx (dC, dI) tys p s m args meth c cc nL own none) (hQ : Q = MQ below (xQv dC dI tys wc w1 sz) args s cells slots (va_A wc sz)) (hA : A = va_A wc sz) (hw : xWd (dC, dI) A s.heap H locs w1) (hdg : decode cc pc = .ok (.return_, 1)) : W p l e R s m args below meth c H locs cells slots Q (F0 m pc ls []) := by
  subst hQ hA
  exact W.vret C.1 C.2.1 C.2.2.2.2.2.1 (fun t ht hW => ⟨⟨(), rfl, trivial, by rw [ht]; exact hw.1, va_K.moved hW.alike C.2.2.2.2.2.2.2, hw.2.1⟩, hw.2.2.1.F ht⟩) hw.2.2.1.2.2 hdg C.2.2.2.2.2.2.1
-- calls
theorem x_good {own : String} {index : Nat} {Cn : String} {y : MethodName} {bytes : ByteArray} {maxL : Nat} {ret : Option FieldType} (h1 : Cond.methodLink own index y ∈ xtb) (h2 : Cond.instanceMethod y ∈ xtb) (h3 : Cond.selects Cn y y ∈ xtb) (h4 : Cond.initialized Cn ∈ xtb) (h5 : Cond.code y bytes maxL ret ∈ xtb) : GoodIn xtb (wsV own index Cn y (xW y bytes maxL ret)) := by
  intro w hw
  have hm : w ∈ xtb := by
    unfold wsV xW at hw
    simp only [List.cons_append, List.nil_append, List.mem_cons] at hw
    rcases hw with rfl | rfl | rfl | rfl | rfl | h
    · exact h1
    · exact h2
    · exact h3
    · exact h4
    · exact h5
    · exact h
  exact ⟨hm, good_of_word (tw_good w hm)⟩
theorem x_goodS {own : String} {index : Nat} {y : MethodName} {bytes : ByteArray} {maxL : Nat} {ret : Option FieldType} (h1 : Cond.methodLink own index y ∈ xtb) (h2 : Cond.static y ∈ xtb) (h4 : Cond.initialized y.cls ∈ xtb) (h5 : Cond.code y bytes maxL ret ∈ xtb) : GoodIn xtb (va_wsS own index y (xW y bytes maxL ret)) := by
  intro w hw
  have hm : w ∈ xtb := by
    unfold va_wsS xW at hw
    simp only [List.cons_append, List.nil_append, List.mem_cons] at hw
    rcases hw with rfl | rfl | rfl | rfl | h
    · exact h1
    · exact h2
    · exact h4
    · exact h5
    · exact h
  exact ⟨hm, good_of_word (tw_good w hm)⟩
abbrev xDs (y : MethodName) (n : Nat) : Prop := y.cls ≠ "java/lang/invoke/MethodHandle" ∧ y.cls ≠ "java/lang/invoke/VarHandle" ∧ (parseMethodDescriptor y.desc).map (fun d => d.parameters.length) = some n
theorem x_pre {av : List Value} {wc : va_W} (C : xCtx (dC, dI) tys p s m args meth c cc nL own ret) (hP : va_P (dC, dI) vwCl wc H) (hD : va_D A wc) (U : State) (hU : U.heap = H) (hW : s.WarmedH U.vm) : xPre dC dI tys av wc H.size av.toArray U := ⟨rfl, by rw [hU], by rw [hU]; exact hP, va_K.moved hW.alike C.2.2.2.2.2.2.2, hD.weaken (fun _ _ _ _ => trivial)⟩
theorem x_blind {av : List Value} {wc : va_W} {sz : Nat} : FrameBlind (xPre dC dI tys av wc sz) := fun a U g mk q => by
  obtain ⟨q0, q1, qP, qK, qD⟩ := q
  exact ⟨q0, q1, qP, va_K.moved (u := U) (U := U.calling g mk a) (Vm.Alike.refl U.vm) qK, qD⟩
/-- the world behind a call: the rest as it was, then the callee's cells -/
theorem x_back {wc wr w1 : va_W} {t : State} {H1 : Heap} {locs1 : List Loc} (hw : xWd (dC, dI) A H0 H locs ws) (isC isR : List Nat) (hC : isC.map (fun i => ws[i]?) = wc.map some) (hR : isR.map (fun i => ws[i]?) = wr.map some) (hn : va_nd isR = true) (hdis : ∀ i ∈ isR, i ∉ isC) (ht : t.heap = H1) (hB : xBk dC dI tys wc w1 H.size () t) (hk : ∀ q : Nat, q < H.size → ¬ va_A wc H.size q → H1[q]? = H[q]?) (hS : va_S A H0 H1 locs1) : xWd (dC, dI) A H0 H1 locs1 (wr ++ w1) := by
  have hF := va_free (wc := wc) hw.2.1 hw.2.2.1 hw.2.2.2 isC hC
  obtain ⟨hP1, -, hD1⟩ := hB
  rw [ht] at hP1
  obtain ⟨h1, h2⟩ := va_join (wr := wr) (w1 := w1) hw.1 hw.2.1 isC isR hC hR hn hdis hk hF hP1 hD1
  exact ⟨h1, h2, hS, hw.2.2.2⟩
theorem x_cut {wc : va_W} (hw : xWd D A H0 H locs ws) (isC : List Nat) (hc : va_nd isC = true) (hC : isC.map (fun i => ws[i]?) = wc.map some) : va_P D vwCl wc H ∧ va_D A wc := ⟨(hw.sub isC hc hC).1, (hw.sub isC hc hC).2.1⟩
section XCALL
variable {y : MethodName} {bytes : ByteArray} {maxL index n mc ms ci b : Nat} {rt : Option FieldType} {rm : Room} {av : List Value} {As : List Value} {wc wr w1 : va_W} {fs : List Value} {Cn : String} {T : u_T} {N : Nat} {st0 : List Value}
/-- what every call needs: the words, the room, the callee's cells -/
abbrev xCall (R : Room) (own : String) (index : Nat) (y : MethodName) (bytes : ByteArray) (maxL : Nat) (rt : Option FieldType) (rm : Room) (n : Nat) (cells slots mc ms : Nat) (g : GoodIn xtb (wsV own index y.cls y (xW y bytes maxL rt))) : Prop :=
  rm.cells = mc ∧ rm.slots = ms ∧ xDs y n ∧ rm.frames + 1 ≤ R.frames ∧ 8 + (maxL + 11) + rm.locals ≤ R.locals ∧ cells + mc ≤ R.cells ∧ slots + ms ≤ R.slots
theorem x_runV {Qc : Array Value → State → Outcome → State → Prop} (C : xCtx (dC, dI) tys p s m args meth c cc nL own ret) (hw : xWd (dC, dI) A H0 H locs ws)
    (g : GoodIn xtb (wsV own index y.cls y (xW y bytes maxL rt))) (hk : xCall R own index y bytes maxL rt rm n cells slots mc ms g)
    (hM : Met l y (xW y bytes maxL rt) rm (xPre dC dI tys (.ref b :: As) wc H.size) Qc mc ms (va_A wc H.size))
    (isC : List Nat) (hc : va_nd isC = true) (hC : isC.map (fun i => ws[i]?) = wc.map some)
    (hcl : vwCl[ci]? = some (y.cls, T, N)) (he : wc[0]? = some (b, .inr (ci, fs))) (hn : As.length = n) (hls : ls.size = nL)
    (hst : st0 = As.reverse ++ .ref b :: rest) (hrm : (rest.map fun v => v.category).sum ≤ 8) (hdg : decode cc pc = .ok (.invokevirtual index, 3)) :
    va_Run p l e R s m args below meth c H locs cells slots mc ms (F0 m pc ls st0) rest (Qc (Value.ref b :: As).toArray) (va_A wc H.size) := by
  obtain ⟨hPc, hDc⟩ := x_cut hw isC hc hC
  obtain ⟨k1, k2, k3, k4, k5, k6, k7⟩ := hk
  exact va_runV (As := As) (rest := rest) ⟨C.1, C.2.1, C.2.2.1, C.2.2.2.1, C.2.2.2.2.1⟩ hM (cwV n C.2.2.2.2.1 g rfl k1 k2 ⟨rfl, k3⟩ ⟨k4, k5⟩) ⟨x_blind, va_recv C.2.2.2.2.2.2.2 hPc hcl he, fun U hU hW => x_pre C hPc hDc U hU hW⟩ rfl hn hls hst (lv_room hrm) hdg ⟨k6, k7⟩
theorem x_callVi {r : Int32} (C : xCtx (dC, dI) tys p s m args meth c cc nL own ret) (hw : xWd (dC, dI) A H0 H locs ws)
    (g : GoodIn xtb (wsV own index y.cls y (xW y bytes maxL rt))) (hk : xCall R own index y bytes maxL rt rm n cells slots 0 0 g)
    (hM : Met l y (xW y bytes maxL rt) rm (xPre dC dI tys (.ref b :: As) wc H.size) (xQi dC dI tys r wc w1 H.size) 0 0 (va_A wc H.size))
    (isC isR : List Nat) (hc : va_nd isC = true) (hC : isC.map (fun i => ws[i]?) = wc.map some) (hR : isR.map (fun i => ws[i]?) = (isR.filterMap (fun i => ws[i]?)).map some) (hr : va_nd isR = true) (hdis : ∀ i ∈ isR, i ∉ isC)
    (hcl : vwCl[ci]? = some (y.cls, T, N)) (he : wc[0]? = some (b, .inr (ci, fs))) (hn : As.length = n) (hls : ls.size = nL)
    (hst : st0 = As.reverse ++ .ref b :: rest) (hrm : (rest.map fun v => v.category).sum ≤ 8) (hdg : decode cc pc = .ok (.invokevirtual index, 3))
    (kk : ∀ (H1 : Heap) (locs1 : List Loc), xWd (dC, dI) A H0 H1 locs1 (isR.filterMap (fun i => ws[i]?) ++ w1) → W p l e R s m args below meth c H1 locs1 cells slots Q (F0 m (pc + 3) ls (.int r :: rest))) : W p l e R s m args below meth c H locs cells slots Q (F0 m pc ls st0) := by
  have hF := va_free (wc := wc) hw.2.1 hw.2.2.1 hw.2.2.2 isC hC
  refine va_calli (x_runV C hw g hk hM isC hc hC hcl he hn hls hst hrm hdg) hw.2.2.1 (fun q _ h => hF q h) hF (fun r' u t H1 locs1 ht hvm hp hB hz1 hk1 hS => ?_)
  subst hp
  exact kk H1 locs1 (x_back hw isC isR hC hR hr hdis ht hB hk1 hS)
theorem x_callVl {r : Int64} (C : xCtx (dC, dI) tys p s m args meth c cc nL own ret) (hw : xWd (dC, dI) A H0 H locs ws)
    (g : GoodIn xtb (wsV own index y.cls y (xW y bytes maxL rt))) (hk : xCall R own index y bytes maxL rt rm n cells slots 0 0 g)
    (hM : Met l y (xW y bytes maxL rt) rm (xPre dC dI tys (.ref b :: As) wc H.size) (xQl dC dI tys r wc w1 H.size) 0 0 (va_A wc H.size))
    (isC isR : List Nat) (hc : va_nd isC = true) (hC : isC.map (fun i => ws[i]?) = wc.map some) (hR : isR.map (fun i => ws[i]?) = (isR.filterMap (fun i => ws[i]?)).map some) (hr : va_nd isR = true) (hdis : ∀ i ∈ isR, i ∉ isC)
    (hcl : vwCl[ci]? = some (y.cls, T, N)) (he : wc[0]? = some (b, .inr (ci, fs))) (hn : As.length = n) (hls : ls.size = nL)
    (hst : st0 = As.reverse ++ .ref b :: rest) (hrm : (rest.map fun v => v.category).sum ≤ 8) (hdg : decode cc pc = .ok (.invokevirtual index, 3))
    (kk : ∀ (H1 : Heap) (locs1 : List Loc), xWd (dC, dI) A H0 H1 locs1 (isR.filterMap (fun i => ws[i]?) ++ w1) → W p l e R s m args below meth c H1 locs1 cells slots Q (F0 m (pc + 3) ls (.long r :: rest))) : W p l e R s m args below meth c H locs cells slots Q (F0 m pc ls st0) := by
  have hF := va_free (wc := wc) hw.2.1 hw.2.2.1 hw.2.2.2 isC hC
  refine va_calll (x_runV C hw g hk hM isC hc hC hcl he hn hls hst hrm hdg) hw.2.2.1 (fun q _ h => hF q h) hF (fun r' u t H1 locs1 ht hvm hp hB hz1 hk1 hS => ?_)
  subst hp
  exact kk H1 locs1 (x_back hw isC isR hC hR hr hdis ht hB hk1 hS)
theorem x_callVv (C : xCtx (dC, dI) tys p s m args meth c cc nL own ret) (hw : xWd (dC, dI) A H0 H locs ws)
    (g : GoodIn xtb (wsV own index y.cls y (xW y bytes maxL rt))) (hk : xCall R own index y bytes maxL rt rm n cells slots 0 0 g)
    (hM : Met l y (xW y bytes maxL rt) rm (xPre dC dI tys (.ref b :: As) wc H.size) (xQv dC dI tys wc w1 H.size) 0 0 (va_A wc H.size))
    (isC isR : List Nat) (hc : va_nd isC = true) (hC : isC.map (fun i => ws[i]?) = wc.map some) (hR : isR.map (fun i => ws[i]?) = (isR.filterMap (fun i => ws[i]?)).map some) (hr : va_nd isR = true) (hdis : ∀ i ∈ isR, i ∉ isC)
    (hcl : vwCl[ci]? = some (y.cls, T, N)) (he : wc[0]? = some (b, .inr (ci, fs))) (hn : As.length = n) (hls : ls.size = nL)
    (hst : st0 = As.reverse ++ .ref b :: rest) (hrm : (rest.map fun v => v.category).sum ≤ 8) (hdg : decode cc pc = .ok (.invokevirtual index, 3))
    (kk : ∀ (H1 : Heap) (locs1 : List Loc), xWd (dC, dI) A H0 H1 locs1 (isR.filterMap (fun i => ws[i]?) ++ w1) → W p l e R s m args below meth c H1 locs1 cells slots Q (F0 m (pc + 3) ls rest)) : W p l e R s m args below meth c H locs cells slots Q (F0 m pc ls st0) := by
  have hF := va_free (wc := wc) hw.2.1 hw.2.2.1 hw.2.2.2 isC hC
  refine va_callv (x_runV C hw g hk hM isC hc hC hcl he hn hls hst hrm hdg) hw.2.2.1 (fun q _ h => hF q h) hF (fun u t H1 locs1 ht hvm hp hB hz1 hk1 hS => ?_)
  exact kk H1 locs1 (x_back hw isC isR hC hR hr hdis ht hB hk1 hS)
theorem x_callSi {r : Int32} (C : xCtx (dC, dI) tys p s m args meth c cc nL own ret) (hw : xWd (dC, dI) A H0 H locs ws)
    (g : GoodIn xtb (va_wsS own index y (xW y bytes maxL rt))) (k3 : xDs y n) (k4 : rm.frames + 1 ≤ R.frames) (k5 : 8 + (maxL + 11) + rm.locals ≤ R.locals) (k1 : rm.cells = 0) (k2 : rm.slots = 0) (k6 : cells ≤ R.cells) (k7 : slots ≤ R.slots)
    (hM : Met l y (xW y bytes maxL rt) rm (xPre dC dI tys As wc H.size) (xQi dC dI tys r wc w1 H.size) 0 0 (va_A wc H.size))
    (isC isR : List Nat) (hc : va_nd isC = true) (hC : isC.map (fun i => ws[i]?) = wc.map some) (hR : isR.map (fun i => ws[i]?) = (isR.filterMap (fun i => ws[i]?)).map some) (hr : va_nd isR = true) (hdis : ∀ i ∈ isR, i ∉ isC)
    (hn : As.length = n) (hls : ls.size = nL) (hst : st0 = As.reverse ++ rest) (hrm : (rest.map fun v => v.category).sum ≤ 8) (hdg : decode cc pc = .ok (.invokestatic index, 3))
    (kk : ∀ (H1 : Heap) (locs1 : List Loc), xWd (dC, dI) A H0 H1 locs1 (isR.filterMap (fun i => ws[i]?) ++ w1) → W p l e R s m args below meth c H1 locs1 cells slots Q (F0 m (pc + 3) ls (.int r :: rest))) : W p l e R s m args below meth c H locs cells slots Q (F0 m pc ls st0) := by
  have hF := va_free (wc := wc) hw.2.1 hw.2.2.1 hw.2.2.2 isC hC
  obtain ⟨hPc, hDc⟩ := x_cut hw isC hc hC
  refine va_calli (va_runS (As := As) (rest := rest) ⟨C.1, C.2.1, C.2.2.1, C.2.2.2.1, C.2.2.2.2.1⟩ hM (va_cwS n C.2.2.2.2.1 g rfl k1 k2 k3 ⟨k4, k5⟩) ⟨x_blind, fun U hU hW => x_pre C hPc hDc U hU hW⟩ rfl hn hls hst (lv_room hrm) hdg ⟨k6, k7⟩) hw.2.2.1 (fun q _ h => hF q h) hF (fun r' u t H1 locs1 ht hvm hp hB hz1 hk1 hS => ?_)
  subst hp
  exact kk H1 locs1 (x_back hw isC isR hC hR hr hdis ht hB hk1 hS)
theorem x_callSv (C : xCtx (dC, dI) tys p s m args meth c cc nL own ret) (hw : xWd (dC, dI) A H0 H locs ws)
    (g : GoodIn xtb (va_wsS own index y (xW y bytes maxL rt))) (k3 : xDs y n) (k4 : rm.frames + 1 ≤ R.frames) (k5 : 8 + (maxL + 11) + rm.locals ≤ R.locals) (k1 : rm.cells = 0) (k2 : rm.slots = 0) (k6 : cells ≤ R.cells) (k7 : slots ≤ R.slots)
    (hM : Met l y (xW y bytes maxL rt) rm (xPre dC dI tys As wc H.size) (xQv dC dI tys wc w1 H.size) 0 0 (va_A wc H.size))
    (isC isR : List Nat) (hc : va_nd isC = true) (hC : isC.map (fun i => ws[i]?) = wc.map some) (hR : isR.map (fun i => ws[i]?) = (isR.filterMap (fun i => ws[i]?)).map some) (hr : va_nd isR = true) (hdis : ∀ i ∈ isR, i ∉ isC)
    (hn : As.length = n) (hls : ls.size = nL) (hst : st0 = As.reverse ++ rest) (hrm : (rest.map fun v => v.category).sum ≤ 8) (hdg : decode cc pc = .ok (.invokestatic index, 3))
    (kk : ∀ (H1 : Heap) (locs1 : List Loc), xWd (dC, dI) A H0 H1 locs1 (isR.filterMap (fun i => ws[i]?) ++ w1) → W p l e R s m args below meth c H1 locs1 cells slots Q (F0 m (pc + 3) ls rest)) : W p l e R s m args below meth c H locs cells slots Q (F0 m pc ls st0) := by
  have hF := va_free (wc := wc) hw.2.1 hw.2.2.1 hw.2.2.2 isC hC
  obtain ⟨hPc, hDc⟩ := x_cut hw isC hc hC
  refine va_callv (va_runS (As := As) (rest := rest) ⟨C.1, C.2.1, C.2.2.1, C.2.2.2.1, C.2.2.2.2.1⟩ hM (va_cwS n C.2.2.2.2.1 g rfl k1 k2 k3 ⟨k4, k5⟩) ⟨x_blind, fun U hU hW => x_pre C hPc hDc U hU hW⟩ rfl hn hls hst (lv_room hrm) hdg ⟨k6, k7⟩) hw.2.2.1 (fun q _ h => hF q h) hF (fun u t H1 locs1 ht hvm hp hB hz1 hk1 hS => ?_)
  exact kk H1 locs1 (x_back hw isC isR hC hR hr hdis ht hB hk1 hS)
end XCALL
end XROWS

def xus (x y : Int32) : Int32 := (x.toUInt32 >>> (y.toUInt32 &&& Int32.toUInt32 31)).toInt32
section XROWS2
variable {D : va_G} {dC : Nat → ClassId} {dI : Nat → Nat → Nat} {tys : List (ClassId × FieldType)} {p : Program} {l : Launch} {e : Env} {R : Room} {s : State} {m : MethodId} {args : Array Value} {below : List Frame} {meth : Method} {c : Code} {H H0 : Heap} {locs : List Loc} {cells slots : Nat} {Q : State → Prop} {A : Nat → Prop}
variable {cc : ByteArray} {pc nL : Nat} {ls : Array Slot} {rest : List Value} {own : String} {ret : Option FieldType} {ws : va_W} {a : Nat}
theorem x_ialk (C : xCtx D tys p s m args meth c cc nL own ret) (hw : xWd D A H0 H locs ws) (q0 t0 : Nat) {cA : ClassId} {n : Nat} {f : Nat → Int32} (ha : ws[q0]? = some (a, .inl (cA, n, .inl f))) (ht : tys[t0]? = some (cA, .int)) {i : Int32} {k : Nat} (hi : i.toNatClampNeg = k) (hin : vp_in i n) (hdg : decode cc pc = .ok (.iaload, 1))
    (kk : W p l e R s m args below meth c H locs cells slots Q (F0 m (pc + 1) ls (.int (f k) :: rest))) : W p l e R s m args below meth c H locs cells slots Q (F0 m pc ls (.int i :: .ref a :: rest)) := x_iald C hw q0 t0 ha ht hin hdg (by rw [hi]; exact kk)
theorem x_zalk (C : xCtx D tys p s m args meth c cc nL own ret) (hw : xWd D A H0 H locs ws) (q0 t0 : Nat) {cA : ClassId} {n : Nat} {f : Nat → Int32} (ha : ws[q0]? = some (a, .inl (cA, n, .inl f))) (ht : tys[t0]? = some (cA, .boolean)) {i : Int32} {k : Nat} (hi : i.toNatClampNeg = k) (hin : vp_in i n) (hdg : decode cc pc = .ok (.baload, 1))
    (kk : W p l e R s m args below meth c H locs cells slots Q (F0 m (pc + 1) ls (.int (f k) :: rest))) : W p l e R s m args below meth c H locs cells slots Q (F0 m pc ls (.int i :: .ref a :: rest)) := x_zald C hw q0 t0 ha ht hin hdg (by rw [hi]; exact kk)
theorem x_balk (C : xCtx D tys p s m args meth c cc nL own ret) (hw : xWd D A H0 H locs ws) (q0 t0 : Nat) {cA : ClassId} {n : Nat} {f : Nat → Int32} (ha : ws[q0]? = some (a, .inl (cA, n, .inl f))) (ht : tys[t0]? = some (cA, .byte)) {i : Int32} {k : Nat} (hi : i.toNatClampNeg = k) (hin : vp_in i n) (hdg : decode cc pc = .ok (.baload, 1))
    (kk : W p l e R s m args below meth c H locs cells slots Q (F0 m (pc + 1) ls (.int (f k) :: rest))) : W p l e R s m args below meth c H locs cells slots Q (F0 m pc ls (.int i :: .ref a :: rest)) := x_bald C hw q0 t0 ha ht hin hdg (by rw [hi]; exact kk)
theorem x_iask (C : xCtx D tys p s m args meth c cc nL own ret) (hw : xWd D A H0 H locs ws) (q0 t0 : Nat) {cA : ClassId} {n : Nat} {f : Nat → Int32} (ha : ws[q0]? = some (a, .inl (cA, n, .inl f))) (ht : tys[t0]? = some (cA, .int)) {i x : Int32} {k : Nat} (hi : i.toNatClampNeg = k) (hin : vp_in i n) (hdg : decode cc pc = .ok (.iastore, 1))
    (kk : ∀ (H1 : Heap) (locs1 : List Loc), xWd D A H0 H1 locs1 (ws.set q0 (a, .inl (cA, n, .inl (upd f k x)))) → W p l e R s m args below meth c H1 locs1 cells slots Q (F0 m (pc + 1) ls rest)) : W p l e R s m args below meth c H locs cells slots Q (F0 m pc ls (.int x :: .int i :: .ref a :: rest)) := x_iast C hw q0 t0 ha ht hin hdg (fun H1 locs1 h1 => kk H1 locs1 (by rw [← hi]; exact h1))
theorem x_zask (C : xCtx D tys p s m args meth c cc nL own ret) (hw : xWd D A H0 H locs ws) (q0 t0 : Nat) {cA : ClassId} {n : Nat} {f : Nat → Int32} (ha : ws[q0]? = some (a, .inl (cA, n, .inl f))) (ht : tys[t0]? = some (cA, .boolean)) {i x : Int32} (hx : vp_nar .boolean x = x) {k : Nat} (hi : i.toNatClampNeg = k) (hin : vp_in i n) (hdg : decode cc pc = .ok (.bastore, 1))
    (kk : ∀ (H1 : Heap) (locs1 : List Loc), xWd D A H0 H1 locs1 (ws.set q0 (a, .inl (cA, n, .inl (upd f k x)))) → W p l e R s m args below meth c H1 locs1 cells slots Q (F0 m (pc + 1) ls rest)) : W p l e R s m args below meth c H locs cells slots Q (F0 m pc ls (.int x :: .int i :: .ref a :: rest)) := x_zast C hw q0 t0 ha ht hx hin hdg (fun H1 locs1 h1 => kk H1 locs1 (by rw [← hi]; exact h1))
theorem x_bask (C : xCtx D tys p s m args meth c cc nL own ret) (hw : xWd D A H0 H locs ws) (q0 t0 : Nat) {cA : ClassId} {n : Nat} {f : Nat → Int32} (ha : ws[q0]? = some (a, .inl (cA, n, .inl f))) (ht : tys[t0]? = some (cA, .byte)) {i x : Int32} (hx : vp_nar .byte x = x) {k : Nat} (hi : i.toNatClampNeg = k) (hin : vp_in i n) (hdg : decode cc pc = .ok (.bastore, 1))
    (kk : ∀ (H1 : Heap) (locs1 : List Loc), xWd D A H0 H1 locs1 (ws.set q0 (a, .inl (cA, n, .inl (upd f k x)))) → W p l e R s m args below meth c H1 locs1 cells slots Q (F0 m (pc + 1) ls rest)) : W p l e R s m args below meth c H locs cells slots Q (F0 m pc ls (.int x :: .int i :: .ref a :: rest)) := x_bast C hw q0 t0 ha ht hx hin hdg (fun H1 locs1 h1 => kk H1 locs1 (by rw [← hi]; exact h1))
theorem x_copy (C : xCtx D tys p s m args meth c cc nL own ret) (hw : xWd D A H0 H locs ws) (q0 q1 : Nat) {a0 : Nat} {c1 : ClassId} {n0 n1 : Nat} {f g : Nat → Int32} (ha0 : ws[q0]? = some (a0, .inl (c1, n0, .inl f))) (ha1 : ws[q1]? = some (a, .inl (c1, n1, .inl g))) (ht1 : tys[0]? = some (c1, .int))
    {sp dp n : Int32} {k index : Nat} (h1 : ¬ sp < 0) (h2 : ¬ dp < 0) (h3 : ¬ n < 0) (e1 : sp.toNatClampNeg = 0) (e2 : dp.toNatClampNeg = 0) (e3 : n.toNatClampNeg = k) (h4 : k ≤ n0) (h5 : k ≤ n1) (hlink : Cond.methodLink own index arraycopyName ∈ xtb)
    (hframes : 1 ≤ R.frames) (hlocals : (rest.map fun v => v.category).sum + (nativeFrameWords "java/lang/System" "arraycopy" 5 + 11) ≤ R.locals) (hls : ls.size = nL) (hdg : decode cc pc = .ok (.invokestatic index, 3))
    (kk : ∀ (H1 : Heap) (locs1 : List Loc), xWd D A H0 H1 locs1 (ws.set q1 (a, .inl (c1, n1, .inl (va_cpy f g 0 0 k)))) → W p l e R s m args below meth c H1 locs1 cells slots Q (F0 m (pc + 3) ls rest)) : W p l e R s m args below meth c H locs cells slots Q (F0 m pc ls (.int n :: .int dp :: .ref a :: .int sp :: .ref a0 :: rest)) := by
  refine va_copyi C.1 C.2.1 (C.2.2.1.trans hls.symm) C.2.2.2.1 (C.2.2.2.2.1 _ hlink) (C.2.2.2.2.1 _ wNat_copy) (C.2.2.2.2.1 _ wT_sys_copy) (C.2.2.2.2.1 _ wN_J10) C.2.2.2.2.2.2.2 hw.1 hw.2.1 hw.2.2.1 q0 q1 0 0 ha0 ha1 ht1 ht1 rfl h1 h2 h3 (by rw [e1, e3, Nat.zero_add]; exact h4) (by rw [e2, e3, Nat.zero_add]; exact h5) (fun i _ => rfl) hframes hlocals hdg (fun H1 locs1 g1 g2 g3 => kk H1 locs1 ?_)
  rw [e1, e2, e3] at g1 g2
  exact ⟨g1, g2, g3, hw.2.2.2⟩
theorem x_max (C : xCtx D tys p s m args meth c cc nL own ret) {index : Nat} (hlink : Cond.methodLink own index yJ9_max_7cf53 ∈ xtb) (hframes : 1 ≤ R.frames) (hlocals : (rest.map fun v => v.category).sum + 13 ≤ R.locals) (hc : cells ≤ R.cells) (hs : slots ≤ R.slots) (hls : ls.size = nL) {x y : Int32} (hdg : decode cc pc = .ok (.invokestatic index, 3))
    (kk : W p l e R s m args below meth c H locs cells slots Q (F0 m (pc + 3) ls (.int (if x < y then y else x) :: rest))) : W p l e R s m args below meth c H locs cells slots Q (F0 m pc ls (.int y :: .int x :: rest)) :=
  va_mmax C.1 C.2.1 (C.2.2.1.trans hls.symm) C.2.2.2.1 (C.2.2.2.2.1 _ hlink) (C.2.2.2.2.1 _ wT_J9_max_7cf53) (C.2.2.2.2.1 _ wN_J9) (C.2.2.2.2.1 _ wC_J9_max_7cf53) hframes hlocals hc hs hdg kk
theorem x_min (C : xCtx D tys p s m args meth c cc nL own ret) {index : Nat} (hlink : Cond.methodLink own index yJ9_min_7cf53 ∈ xtb) (hframes : 1 ≤ R.frames) (hlocals : (rest.map fun v => v.category).sum + 13 ≤ R.locals) (hc : cells ≤ R.cells) (hs : slots ≤ R.slots) (hls : ls.size = nL) {x y : Int32} (hdg : decode cc pc = .ok (.invokestatic index, 3))
    (kk : W p l e R s m args below meth c H locs cells slots Q (F0 m (pc + 3) ls (.int (if y < x then y else x) :: rest))) : W p l e R s m args below meth c H locs cells slots Q (F0 m pc ls (.int y :: .int x :: rest)) :=
  va_mmin C.1 C.2.1 (C.2.2.1.trans hls.symm) C.2.2.2.1 (C.2.2.2.2.1 _ hlink) (C.2.2.2.2.1 _ wT_J9_min_7cf53) (C.2.2.2.2.1 _ wN_J9) (C.2.2.2.2.1 _ wC_J9_min_7cf53) hframes hlocals hc hs hdg kk
end XROWS2
theorem x_tabOut {x : Int32} {lo hi : Int} (h : ∀ q : Int, lo ≤ x.toInt → x.toInt ≤ hi → False) : x.toInt < lo ∨ hi < x.toInt := by
  rcases Int.lt_or_le x.toInt lo with q | q
  · exact Or.inl q
  · rcases Int.lt_or_le hi x.toInt with w | w
    · exact Or.inr w
    · exact absurd w (fun w => h 0 q w)
theorem x_ne {x k : Int32} {a : Int} (h : ¬ x = k) (hk : k.toInt = a) : x.toInt ≠ a := fun q => h (Int32.toInt_inj.mp (by rw [hk]; exact q))
