def xZ (U : State) : Prop := va_Nw (.methodLinkNest RX7 9 yX4_init "CarriedSets") U ∧ va_Nw (.methodLinkNest RX5 21 yX4_init "CarriedSets") U ∧ va_Nw (.methodLinkNest RX7 25 yX6_init "CarriedSets") U ∧ va_Nw (.methodLinkNest RX7 32 yX3_init "CarriedSets") U ∧ va_Nw (.methodLinkNest RX3 11 yX4_init "CarriedSets") U ∧ va_Nw (.methodLinkNest RX7 39 yX1_init "CarriedSets") U ∧ va_AO "CarriedSets$Setup" U
theorem xZ.warm {s U : State} (hW : s.WarmedH U.vm) (h : xZ s) : xZ U := ⟨va_Nw.warmM hW h.1, va_Nw.warmM hW h.2.1, va_Nw.warmM hW h.2.2.1, va_Nw.warmM hW h.2.2.2.1, va_Nw.warmM hW h.2.2.2.2.1, va_Nw.warmM hW h.2.2.2.2.2.1, h.2.2.2.2.2.2.moved hW.alike⟩
theorem xZ.same {s U : State} (hv : s.vm = U.vm) (h : xZ s) : xZ U := ⟨va_Nw.same rfl hv h.1, va_Nw.same rfl hv h.2.1, va_Nw.same rfl hv h.2.2.1, va_Nw.same rfl hv h.2.2.2.1, va_Nw.same rfl hv h.2.2.2.2.1, va_Nw.same rfl hv h.2.2.2.2.2.1, h.2.2.2.2.2.2.moved (by rw [hv]; exact Vm.Alike.refl _)⟩
abbrev xPreI (dC : Nat → ClassId) (dI : Nat → Nat → Nat) (tys : List (ClassId × FieldType)) (av : List Value) (wc : va_W) (sz : Nat) : Array Value → State → Prop := va_Pc av (fun U => U.heap.size = sz ∧ va_P (dC, dI) vwCl wc U.heap ∧ va_K (dC, dI) vwCl tys U ∧ va_D (fun _ => True) wc ∧ xZ U)
abbrev xBkI {S : Type} (dC : Nat → ClassId) (dI : Nat → Nat → Nat) (tys : List (ClassId × FieldType)) (wc : va_W) (W1 : S → va_W) (sz : Nat) : S → State → Prop := fun u t => va_P (dC, dI) vwCl (W1 u) t.heap ∧ va_K (dC, dI) vwCl tys t ∧ va_D (va_A wc sz) (W1 u)
abbrev xQI {S : Type} (dC : Nat → ClassId) (dI : Nat → Nat → Nat) (tys : List (ClassId × FieldType)) (wc : va_W) (W1 : S → va_W) (sz : Nat) : Array Value → State → Outcome → State → Prop := va_Qv (fun (_ : S) => True) (xBkI dC dI tys wc W1 sz) (va_A wc sz)
theorem x_metI {l : Launch} {y : MethodName} {dC : Nat → ClassId} {dI : Nat → Nat → Nat} {tys : List (ClassId × FieldType)} {cc : ByteArray} {maxL : Nat} {ret : Option FieldType} {rm : Room} {av : List Value} {wc : va_W} {sz mc ms : Nat} {Qc : Array Value → State → Outcome → State → Prop}
    (hy : plainName y.cls = true) (hlen : (lg_sl av).length ≤ maxL)
    (body : ∀ (p : Program) (e : Env) (s : State) (m : MethodId) (args : Array Value) (below : List Frame) (meth : Method) (c : Code) (R : Room) (Q : State → Prop) (A : Nat → Prop), R = rm → s.heap.size = sz → A = va_A wc sz → Q = MQ below Qc args s mc ms (va_A wc sz) → meth.name = y.name → xZ s →
      xCtx (dC, dI) tys p s m args meth c cc maxL y.cls ret → xWd (dC, dI) A s.heap s.heap [] wc → ∀ (ls : Array Slot), lv_has ls maxL (lv_args 0 av) →
      W p l e R s m args below meth c s.heap [] 0 0 Q (F0 m 0 ls [])) :
    Met l y (xW y cc maxL ret) rm (xPreI dC dI tys av wc sz) Qc mc ms (va_A wc sz) := by
  refine Met.ofW (cc := cc) (maxL := maxL) (ret := ret) hy rfl ?_
  intro p e s m args below meth c s₁ B hml hv
  obtain ⟨rfl, hsz, hP, hK, hD0, hZ⟩ := hv
  have hts := atoms_spec (ws := xW y cc maxL ret) B.pre
  have hown : s.vm.findClass y.cls = some m.cls := findClass_of_methodNamed B.named
  have hin : meth.name = y.name := (name_of_methodNamed B.named B.method).1
  have hD := hD0.self (sz := sz)
  have hl := lv_entry av (n := maxL) hlen
  rw [lg_entry_eq]
  exact body p e s m _ below meth c _ _ (va_A wc sz) rfl hsz rfl rfl hin hZ ⟨B.exec, B.bytes, hml, hown, fun w h => hts w (List.mem_cons_of_mem _ h), B.returns, B.notSynchronized, hK⟩ ⟨hP, hD, va_S.rf, fun q h => Or.inr (by rw [← hsz]; exact h)⟩ _ hl
section XI
variable {D : va_G} {dC : Nat → ClassId} {dI : Nat → Nat → Nat} {tys : List (ClassId × FieldType)} {p : Program} {l : Launch} {e : Env} {R : Room} {s : State} {m : MethodId} {args : Array Value} {below : List Frame} {meth : Method} {c : Code} {H H0 : Heap} {locs : List Loc} {cells slots : Nat} {Q : State → Prop} {A : Nat → Prop}
variable {cc : ByteArray} {pc nL : Nat} {ls : Array Slot} {rest : List Value} {own : String} {ret : Option FieldType} {ws : va_W} {a : Nat}
theorem x_obj (C : xCtx D tys p s m args meth c cc nL own ret) {index : Nat} (hlink : Cond.methodLink own index objectInit ∈ xtb) (hls : ls.size = nL) (hfr : 1 ≤ R.frames) (hlo : (rest.map fun v => v.category).sum + 12 ≤ R.locals) (hdg : decode cc pc = .ok (.invokespecial index, 3))
    (kk : W p l e R s m args below meth c H locs cells slots Q (F0 m (pc + 3) ls rest)) : W p l e R s m args below meth c H locs cells slots Q (F0 m pc ls (.ref a :: rest)) :=
  W.objInit C.1 C.2.1 C.2.2.2.1 (C.2.2.2.2.1 _ hlink) (C.2.2.2.2.1 _ wI_objectInit) (C.2.2.2.2.1 _ wC_objectInit) rfl (hls.trans C.2.2.1.symm) rfl hdg hfr (by show 2 * 0 + _ + 12 ≤ _; omega) kk
theorem x_putF (C : xCtx D tys p s m args meth c cc nL own ret) (hw : xWd D A H0 H locs ws) {Cn : String} {T : u_T} {N ci index : Nat} (hin : ∀ w ∈ u_ws Cn T N, w ∈ xtb) (ty0 : Nat → FieldType) (hty : ∀ k, k < N → parseFieldDescriptor (T k).2.2.1 = some (ty0 k)) (hnm : ∀ a, a < N → ∀ b, b < N → a ≠ b → (T a).2.1 ≠ (T b).2.1) (hc : vwCl[ci]? = some (Cn, T, N)) (k : Nat) (hk : k < N) (hlink : Cond.fieldLink own index own (T k).2.1 (T k).2.2.1 ∈ xtb) (href : (T k).1 = own) (hfin : (T k).2.2.2 = true) (hmn : meth.name = "<init>") (q0 : Nat) {fs : List Value} (he : ws[q0]? = some (a, .inr (ci, fs))) {v : Value} (hn : narrow (ty0 k) v = v) (hfit : fits (ty0 k) v = true) (hl : k < fs.length) (hdg : decode cc pc = .ok (.putfield index, 3))
    (kk : ∀ (H1 : Heap) (locs1 : List Loc), xWd D A H0 H1 locs1 (ws.set q0 (a, .inr (ci, fs.set k v))) → W p l e R s m args below meth c H1 locs1 cells slots Q (F0 m (pc + 3) ls rest)) : W p l e R s m args below meth c H locs cells slots Q (F0 m pc ls (v :: .ref a :: rest)) :=
  va_putF C.1 C.2.1 C.2.2.2.2.1 hin ty0 hty hnm C.2.2.2.1 C.2.2.2.2.2.2.2 hw.1 hw.2.1 hw.2.2.1 q0 he hc k hk (C.2.2.2.2.1 _ hlink) (fun _ h9 => by rw [← href]; exact h9) hfin hmn href (hty k hk) hn hfit hl hdg (fun H1 locs1 h1 h2 h3 => kk H1 locs1 ⟨h1, h2, h3, hw.2.2.2⟩)
theorem x_newa (C : xCtx D tys p s m args meth c cc nL own ret) (hw : xWd D A H0 H locs ws) {atype : ArrayType} {ty : FieldType} (harr : Cond.arrayClass ty ∈ xtb) (hty : newarray.typeOf atype = ty) (t0 : Nat) {cA : ClassId} (ht : tys[t0]? = some (cA, ty)) (hRA : ∀ c1 : ClassId, va_RA s c1 ty = (s.vm.findClass ("[" ++ ty.toString) = some c1)) (hdv : defaultValue ty = .int 0) {n : Int32} {N : Nat} (hn : ¬ n < 0) (hN : n.toNatClampNeg = N) (hbytes : N * componentBytes ty ≤ 536870912) (hcells : cells + 1 ≤ R.cells) (hslots : slots + N ≤ R.slots) (hdg : decode cc pc = .ok (.newarray atype, 2))
    (kk : ∀ (q : Nat) (H1 : Heap), xWd D A H0 H1 locs (ws ++ [(q, .inl (cA, N, .inl (fun _ => 0)))]) → W p l e R s m args below meth c H1 locs (cells + 1) (slots + N) Q (F0 m (pc + 2) ls (.ref q :: rest))) : W p l e R s m args below meth c H locs cells slots Q (F0 m pc ls (.int n :: rest)) := by
  refine va_newa (a0 := (N, .inl (fun _ => 0))) C.1 C.2.1 (by rw [hty]; exact C.2.2.2.2.1 _ harr) hty C.2.2.2.2.2.2.2 hw.1 hw.2.1 hw.2.2.1 hw.2.2.2 (fun c1 => by rw [hdv]; rfl) hn hN hbytes hcells hslots hdg (fun q c1 H1 k1 k2 k3 k4 => ?_)
  have e1 := (k1.2 tys.length (c1, ty) (by rw [List.getElem?_append_right (Nat.le_refl _), Nat.sub_self]; rfl)).2
  have e2 := (C.2.2.2.2.2.2.2.2 t0 _ ht).2
  rw [hRA] at e1 e2
  obtain rfl : c1 = cA := Option.some.inj (e1.symm.trans e2)
  exact kk q H1 ⟨k2, k3, k4, hw.2.2.2⟩
theorem x_newq (C : xCtx D tys p s m args meth c cc nL own ret) (hw : xWd D A H0 H locs ws) {Cn : String} {index : Nat} (hclink : Cond.classLink own index Cn ∈ xtb) (hover : va_AO Cn s) (t0 : Nat) {cA : ClassId} (ht : tys[t0]? = some (cA, .object Cn)) {n : Int32} {N : Nat} (hn : ¬ n < 0) (hN : n.toNatClampNeg = N) (hbytes : N * 4 ≤ 536870912) (hcells : cells + 1 ≤ R.cells) (hslots : slots + N ≤ R.slots) (hdg : decode cc pc = .ok (.anewarray index, 3))
    (kk : ∀ (q : Nat) (H1 : Heap), xWd D A H0 H1 locs (ws ++ [(q, .inl (cA, N, .inr (.inr (.inr (.inr (fun _ => none))))))]) → W p l e R s m args below meth c H1 locs (cells + 1) (slots + N) Q (F0 m (pc + 3) ls (.ref q :: rest))) : W p l e R s m args below meth c H locs cells slots Q (F0 m pc ls (.int n :: rest)) := by
  refine va_newq C.1 C.2.1 C.2.2.2.1 (C.2.2.2.2.1 _ hclink) hover C.2.2.2.2.2.2.2 hw.1 hw.2.1 hw.2.2.1 hw.2.2.2 hn hN hbytes hcells hslots hdg (fun q c1 H1 k1 k2 k3 k4 => ?_)
  obtain ⟨_, _, -, -, -, e1⟩ := (k1.2 tys.length (c1, .object Cn) (by rw [List.getElem?_append_right (Nat.le_refl _), Nat.sub_self]; rfl)).2
  obtain ⟨_, _, -, -, -, e2⟩ := (C.2.2.2.2.2.2.2.2 t0 _ ht).2
  obtain rfl : c1 = cA := Option.some.inj (e1.symm.trans e2)
  exact kk q H1 ⟨k2, k3, k4, hw.2.2.2⟩
theorem x_new (C : xCtx D tys p s m args meth c cc nL own ret) (hw : xWd D A H0 H locs ws) {Cn : String} {T : u_T} {N ci index : Nat} (hin : ∀ w ∈ u_ws Cn T N, w ∈ xtb) (ty0 : Nat → FieldType) (hty : ∀ k, k < N → parseFieldDescriptor (T k).2.2.1 = some (ty0 k)) (hcl : Cond.classLink own index Cn ∈ xtb) (hinst : Cond.instantiable Cn N ∈ xtb) (hini : Cond.initialized Cn ∈ xtb) (hc : vwCl[ci]? = some (Cn, T, N)) {fs : List Value} (hfs : ∀ j, j < N → defaultValue (ty0 j) = vp_V fs j) (hcells : cells + 1 ≤ R.cells) (hslots : slots + N ≤ R.slots) (hdg : decode cc pc = .ok (.new index, 3))
    (kk : ∀ (q : Nat) (H1 : Heap), xWd D A H0 H1 locs (ws ++ [(q, .inr (ci, fs))]) → W p l e R s m args below meth c H1 locs (cells + 1) (slots + N) Q (F0 m (pc + 3) ls (.ref q :: rest))) : W p l e R s m args below meth c H locs cells slots Q (F0 m pc ls rest) :=
  va_new C.1 C.2.1 C.2.2.2.2.1 hin ty0 hty C.2.2.2.1 (C.2.2.2.2.1 _ hcl) (C.2.2.2.2.1 _ hinst) (C.2.2.2.2.1 _ hini) C.2.2.2.2.2.2.2 hw.1 hw.2.1 hw.2.2.1 hw.2.2.2 hc hfs hcells hslots hdg (fun q H1 k2 k3 k4 => kk q H1 ⟨k2, k3, k4, hw.2.2.2⟩)
theorem x_retI {S : Type} {wc : va_W} {W1 : S → va_W} {sz : Nat} (u : S) (C : xCtx (dC, dI) tys p s m args meth c cc nL own none) (hQ : Q = MQ below (xQI dC dI tys wc W1 sz) args s cells slots (va_A wc sz)) (hA : A = va_A wc sz) (hw : xWd (dC, dI) A s.heap H locs (W1 u)) (hdg : decode cc pc = .ok (.return_, 1)) : W p l e R s m args below meth c H locs cells slots Q (F0 m pc ls []) := by
  subst hQ hA
  exact W.vret C.1 C.2.1 C.2.2.2.2.2.1 (fun t ht hW => ⟨⟨u, rfl, trivial, by rw [ht]; exact hw.1, va_K.moved hW.alike C.2.2.2.2.2.2.2, hw.2.1⟩, hw.2.2.1.F ht⟩) hw.2.2.1.2.2 hdg C.2.2.2.2.2.2.1
theorem x_goodI {y : MethodName} {bytes : ByteArray} {maxL : Nat} {rt : Option FieldType} (h5 : Cond.code y bytes maxL rt ∈ xtb) : GoodIn xtb (xW y bytes maxL rt) := by
  intro w hw
  have hm : w ∈ xtb := by
    unfold xW at hw
    rcases List.mem_cons.mp hw with rfl | h
    · exact h5
    · exact h
  exact ⟨hm, good_of_word (tw_good w hm)⟩
theorem x_preI {av : List Value} {wc : va_W} (C : xCtx (dC, dI) tys p s m args meth c cc nL own ret) (hZ : xZ s) (hP : va_P (dC, dI) vwCl wc H) (hD : va_D A wc) (U : State) (hU : U.heap = H) (hW : s.WarmedH U.vm) : xPreI dC dI tys av wc H.size av.toArray U := ⟨rfl, by rw [hU], by rw [hU]; exact hP, va_K.moved hW.alike C.2.2.2.2.2.2.2, hD.weaken (fun _ _ _ _ => trivial), hZ.warm hW⟩
theorem x_blindI {av : List Value} {wc : va_W} {sz : Nat} : FrameBlind (xPreI dC dI tys av wc sz) := fun a U g mk q => by
  obtain ⟨q0, q1, qP, qK, qD, qZ⟩ := q
  exact ⟨q0, q1, qP, va_K.moved (u := U) (U := U.calling g mk a) (Vm.Alike.refl U.vm) qK, qD, qZ.same rfl⟩
section XIC
variable {y : MethodName} {bytes : ByteArray} {maxL index mc ms b : Nat} {rm : Room} {wc : va_W} {host : String}
theorem x_afterI {S : Type} {W1 : S → va_W} {st0 : List Value} (hw : xWd (dC, dI) A H0 H locs ws)
    (hr : va_Run p l e R s m args below meth c H locs cells slots mc ms (F0 m pc ls st0) rest (xQI dC dI tys wc W1 H.size (Value.ref b :: ([] : List Value)).toArray) (va_A wc H.size))
    (isC isR : List Nat) (hC : isC.map (fun i => ws[i]?) = wc.map some) (hR : isR.map (fun i => ws[i]?) = (isR.filterMap (fun i => ws[i]?)).map some) (hnr : va_nd isR = true) (hdis : ∀ i ∈ isR, i ∉ isC)
    (kk : ∀ (u : S) (H1 : Heap) (locs1 : List Loc), xWd (dC, dI) A H0 H1 locs1 (isR.filterMap (fun i => ws[i]?) ++ W1 u) → W p l e R s m args below meth c H1 locs1 (cells + mc) (slots + ms) Q (F0 m (pc + 3) ls rest)) : W p l e R s m args below meth c H locs cells slots Q (F0 m pc ls st0) := by
  have hF := va_free (wc := wc) hw.2.1 hw.2.2.1 hw.2.2.2 isC hC
  refine va_callv hr hw.2.2.1 (fun q _ h => hF q h) hF (fun u t H1 locs1 ht hvm hp hB hz1 hk1 hS => ?_)
  exact kk u H1 locs1 (x_back (tys := tys) hw isC isR hC hR hnr hdis ht hB hk1 hS)
theorem x_callI {S : Type} {W1 : S → va_W} (C : xCtx (dC, dI) tys p s m args meth c cc nL own ret) (hZ : xZ s) (hw : xWd (dC, dI) A H0 H locs ws)
    (hl : Cond.methodLink own index y ∈ xtb) (hi : Cond.instanceMethod y ∈ xtb) (hini : Cond.initialized y.cls ∈ xtb) (hcd : Cond.code y bytes maxL none ∈ xtb) (hy : y.name = "<init>") (hd : xDs y 0) (k1 : rm.cells = mc) (k2 : rm.slots = ms) (k4 : rm.frames + 1 ≤ R.frames) (k5 : 8 + (maxL + 11) + rm.locals ≤ R.locals) (k6 : cells + mc ≤ R.cells) (k7 : slots + ms ≤ R.slots)
    (hM : Met l y (xW y bytes maxL none) rm (xPreI dC dI tys [.ref b] wc H.size) (xQI dC dI tys wc W1 H.size) mc ms (va_A wc H.size))
    (isC isR : List Nat) (hc : va_nd isC = true) (hC : isC.map (fun i => ws[i]?) = wc.map some) (hR : isR.map (fun i => ws[i]?) = (isR.filterMap (fun i => ws[i]?)).map some) (hnr : va_nd isR = true) (hdis : ∀ i ∈ isR, i ∉ isC) (hls : ls.size = nL) (hrm : (rest.map fun v => v.category).sum ≤ 8) (hdg : decode cc pc = .ok (.invokespecial index, 3))
    (kk : ∀ (u : S) (H1 : Heap) (locs1 : List Loc), xWd (dC, dI) A H0 H1 locs1 (isR.filterMap (fun i => ws[i]?) ++ W1 u) → W p l e R s m args below meth c H1 locs1 (cells + mc) (slots + ms) Q (F0 m (pc + 3) ls rest)) : W p l e R s m args below meth c H locs cells slots Q (F0 m pc ls (.ref b :: rest)) := by
  obtain ⟨hPc, hDc⟩ := x_cut hw isC hc hC
  exact x_afterI hw (va_runI (As := []) (rest := rest) ⟨C.1, C.2.1, C.2.2.1, C.2.2.2.1, C.2.2.2.2.1⟩ hM (cwI 0 C.2.2.2.2.1 (x_goodI hcd) rfl k1 k2 (C.2.2.2.2.1 _ hini) (C.2.2.2.2.1 _ hl) (C.2.2.2.2.1 _ hi) hy hd ⟨k4, k5⟩) ⟨x_blindI, fun U hU hW => x_preI C hZ hPc hDc U hU hW⟩ rfl rfl hls rfl (lv_room hrm) hdg ⟨k6, k7⟩) isC isR hC hR hnr hdis kk
theorem x_callIN {S : Type} {W1 : S → va_W} (C : xCtx (dC, dI) tys p s m args meth c cc nL own ret) (hZ : xZ s) (hw : xWd (dC, dI) A H0 H locs ws)
    (hl : va_Nw (.methodLinkNest own index y host) s) (hi : Cond.instanceMethod y ∈ xtb) (hini : Cond.initialized y.cls ∈ xtb) (hcd : Cond.code y bytes maxL none ∈ xtb) (hy : y.name = "<init>") (hd : xDs y 0) (k1 : rm.cells = mc) (k2 : rm.slots = ms) (k4 : rm.frames + 1 ≤ R.frames) (k5 : 8 + (maxL + 11) + rm.locals ≤ R.locals) (k6 : cells + mc ≤ R.cells) (k7 : slots + ms ≤ R.slots)
    (hM : Met l y (xW y bytes maxL none) rm (xPreI dC dI tys [.ref b] wc H.size) (xQI dC dI tys wc W1 H.size) mc ms (va_A wc H.size))
    (isC isR : List Nat) (hc : va_nd isC = true) (hC : isC.map (fun i => ws[i]?) = wc.map some) (hR : isR.map (fun i => ws[i]?) = (isR.filterMap (fun i => ws[i]?)).map some) (hnr : va_nd isR = true) (hdis : ∀ i ∈ isR, i ∉ isC) (hls : ls.size = nL) (hrm : (rest.map fun v => v.category).sum ≤ 8) (hdg : decode cc pc = .ok (.invokespecial index, 3))
    (kk : ∀ (u : S) (H1 : Heap) (locs1 : List Loc), xWd (dC, dI) A H0 H1 locs1 (isR.filterMap (fun i => ws[i]?) ++ W1 u) → W p l e R s m args below meth c H1 locs1 (cells + mc) (slots + ms) Q (F0 m (pc + 3) ls rest)) : W p l e R s m args below meth c H locs cells slots Q (F0 m pc ls (.ref b :: rest)) := by
  obtain ⟨hPc, hDc⟩ := x_cut hw isC hc hC
  exact x_afterI hw (va_runIN (As := []) (rest := rest) ⟨C.1, C.2.1, C.2.2.1, C.2.2.2.1, C.2.2.2.2.1⟩ hM ⟨va_cnB 0 C.2.2.2.2.1 (x_goodI hcd) rfl k1 k2 hl (C.2.2.2.2.1 _ hini) hd ⟨k4, k5⟩, hy, C.2.2.2.2.1 _ hi⟩ ⟨x_blindI, fun U hU hW => x_preI C hZ hPc hDc U hU hW⟩ rfl rfl hls rfl (lv_room hrm) hdg ⟨k6, k7⟩) isC isR hC hR hnr hdis kk
end XIC
end XI
theorem x_qcong {cA : ClassId} {n : Nat} {f g : Nat → Option Nat} (h : ∀ i, i < n → f i = g i) : vp_cell cA (n, .inr (.inr (.inr (.inr f)))) = vp_cell cA (n, .inr (.inr (.inr (.inr g)))) := by
  rw [vp_cell_q, vp_cell_q]
  unfold arrV
  congr 1
  apply Array.ext
  · simp
  · intro i h1 h2
    have hi : i < n := by simpa using h1
    simp [h i hi]
theorem x_qswap {D : va_G} {A : Nat → Prop} {H0 H : Heap} {locs : List Loc} {pre suf : va_W} {a n : Nat} {cA : ClassId} {f g : Nat → Option Nat} (h : ∀ i, i < n → f i = g i) (hw : xWd D A H0 H locs (pre ++ ((a, .inl (cA, n, .inr (.inr (.inr (.inr f))))) :: suf))) : xWd D A H0 H locs (pre ++ ((a, .inl (cA, n, .inr (.inr (.inr (.inr g))))) :: suf)) := by
  have hlen : ∀ k : Nat, (pre ++ ((a, (.inl (cA, n, .inr (.inr (.inr (.inr g)))) : va_E)) :: suf))[k]? = if k = pre.length then some (a, (.inl (cA, n, .inr (.inr (.inr (.inr g)))) : va_E)) else (pre ++ ((a, (.inl (cA, n, .inr (.inr (.inr (.inr f)))) : va_E)) :: suf))[k]? := by
    intro k
    by_cases hk : k < pre.length
    · rw [if_neg (by omega), List.getElem?_append_left hk, List.getElem?_append_left hk]
    · rw [List.getElem?_append_right (by omega), List.getElem?_append_right (by omega)]
      by_cases h0 : k = pre.length
      · rw [if_pos h0, h0, Nat.sub_self]; rfl
      · rw [if_neg h0]
        obtain ⟨j, hj⟩ : ∃ j, k - pre.length = j + 1 := ⟨k - pre.length - 1, by omega⟩
        rw [hj]; rfl
  have hat : ∀ k : Nat, (pre ++ ((a, (.inl (cA, n, .inr (.inr (.inr (.inr f)))) : va_E)) :: suf))[pre.length]? = some (a, (.inl (cA, n, .inr (.inr (.inr (.inr f)))) : va_E)) := by
    intro _
    rw [List.getElem?_append_right (Nat.le_refl _), Nat.sub_self]; rfl
  refine ⟨?_, ⟨?_, ?_⟩, hw.2.2⟩
  · intro k q hk
    rw [hlen k] at hk
    by_cases h0 : k = pre.length
    · rw [if_pos h0] at hk
      cases hk
      have := hw.1 pre.length _ (hat 0)
      show H[a]? = some (vp_cell _ _)
      rw [← x_qcong h]
      exact this
    · rw [if_neg h0] at hk
      exact hw.1 k q hk
  · have get : ∀ (k : Nat) (q : Nat × va_E), (pre ++ ((a, (.inl (cA, n, .inr (.inr (.inr (.inr g)))) : va_E)) :: suf))[k]? = some q → ∃ q', (pre ++ ((a, (.inl (cA, n, .inr (.inr (.inr (.inr f)))) : va_E)) :: suf))[k]? = some q' ∧ q'.1 = q.1 := by
      intro k q hk
      rw [hlen k] at hk
      by_cases h0 : k = pre.length
      · rw [if_pos h0] at hk; cases hk; exact ⟨(a, .inl (cA, n, .inr (.inr (.inr (.inr f))))), by rw [h0]; exact hat 0, rfl⟩
      · rw [if_neg h0] at hk; exact ⟨q, hk, rfl⟩
    intro i j x y hi hj hxy
    obtain ⟨x', h1, e1⟩ := get i x hi
    obtain ⟨y', h2, e2⟩ := get j y hj
    exact hw.2.1.1 i j x' y' h1 h2 (by rw [e1, e2]; exact hxy)
  · intro k q hk
    rw [hlen k] at hk
    by_cases h0 : k = pre.length
    · rw [if_pos h0] at hk; cases hk; exact hw.2.1.2 _ (a, .inl (cA, n, .inr (.inr (.inr (.inr f))))) (hat 0)
    · rw [if_neg h0] at hk; exact hw.2.1.2 k q hk
