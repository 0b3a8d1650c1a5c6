theorem HP.fresh {G : GG} {N0 : Nat} {σ : Hp} {q t n : Nat} {H : Heap} {L : List Nat} {e : va_E} (hdom : ∀ a : Nat, gk σ a ≠ none ↔ a ∈ L) (hP : va_P G.1 vwCl (va_pl L (cF G σ) ++ [(q, e)]) H) (hD : va_D (AN N0) (va_pl L (cF G σ) ++ [(q, e)])) (he : cF G (nw σ q t n) q = e) : gk σ q = none ∧ HP G N0 (nw σ q t n) H := by
  have hq : q ∉ L := fun hm => by
    obtain ⟨k, hk⟩ := va_pl_get (X := []) (f := cF G σ) hm
    have hl : k < (va_pl L (cF G σ)).length := (List.getElem?_eq_some_iff.mp hk).1
    have h1 : (va_pl L (cF G σ) ++ [(q, e)])[k]? = some (q, cF G σ q) := by rw [List.getElem?_append_left hl]; exact hk
    have h2 : (va_pl L (cF G σ) ++ [(q, e)])[(va_pl L (cF G σ)).length]? = some (q, e) := by simp
    have := hD.1 _ _ _ _ h1 h2 rfl
    omega
  have hne : ∀ b, b ∈ L → b ≠ q := fun b hb h => hq (h ▸ hb)
  have hs : va_pl L (cF G σ) ++ [(q, e)] = va_pl (L ++ [q]) (cF G (nw σ q t n)) := by
    rw [va_pl_push hq]
    simp only [va_pl]
    apply List.map_congr_left
    intro b hb
    by_cases hbq : b = q
    · subst hbq
      rw [va_up_self, he]
    · rw [va_up_ne _ _ hbq]
      congr 1
      exact (cF_same (by rw [gk_nw, if_neg hbq]) (by funext j; rw [gi_nw, if_neg hbq]) (by funext j; rw [gl_nw, if_neg hbq]) (by funext j; rw [gr_nw, if_neg hbq])).symm
  rw [hs] at hP hD
  refine ⟨Classical.byContradiction fun h => hq ((hdom q).mp h), L ++ [q], fun b => ?_, hP, hD⟩
  rw [gk_nw, List.mem_append, List.mem_singleton]
  by_cases hbq : b = q
  · simp [hbq]
  · rw [if_neg hbq, hdom b]
    simp [hbq]
theorem ra_eq {s : State} {x y : ClassId} {ty : FieldType} (h1 : va_RA s x ty) (h2 : va_RA s y ty) : x = y := by
  cases ty with
  | object C =>
    obtain ⟨_, _, _, _, _, h1⟩ := h1
    obtain ⟨_, _, _, _, _, h2⟩ := h2
    exact Option.some.inj (h1.symm.trans h2)
  | _ =>
    have h1 : s.vm.findClass _ = some x := h1
    have h2 : s.vm.findClass _ = some y := h2
    exact Option.some.inj (h1.symm.trans h2)
/-- a call's words -/
def CW (own : String) (index : Nat) (y : MethodName) (bytes : ByteArray) (maxL : Nat) (ret : Option FieldType) (n : Nat) : Prop :=
  Cond.methodLink own index y ∈ wAll ∧ Cond.initialized y.cls ∈ wAll ∧ Cond.code y bytes maxL ret ∈ wAll ∧ y.cls ≠ "java/lang/invoke/MethodHandle" ∧ y.cls ≠ "java/lang/invoke/VarHandle" ∧ (parseMethodDescriptor y.desc).map (fun d => d.parameters.length) = some n
/-- a call's words, of a nest mate's private member -/
def CN (own : String) (index : Nat) (y : MethodName) (host : String) (bytes : ByteArray) (maxL : Nat) (ret : Option FieldType) (n : Nat) : Prop :=
  (own, index, y, host) ∈ nestW ∧ Cond.initialized y.cls ∈ wAll ∧ Cond.code y bytes maxL ret ∈ wAll ∧ y.cls ≠ "java/lang/invoke/MethodHandle" ∧ y.cls ≠ "java/lang/invoke/VarHandle" ∧ (parseMethodDescriptor y.desc).map (fun d => d.parameters.length) = some n
theorem goodIn_code {y : MethodName} {bytes : ByteArray} {maxL : Nat} {ret : Option FieldType} (h : Cond.code y bytes maxL ret ∈ wAll) : GoodIn wAll (Cond.code y bytes maxL ret :: wAll) := fun w hw => by
  rcases List.mem_cons.mp hw with rfl | hw
  · exact ⟨h, wgood _ h⟩
  · exact ⟨hw, wgood _ hw⟩
/-- the end of a method: what comes back, and the heap picture behind -/
def QC (G : GG) (N0 : Nat) (post : Option Value → Hp → Prop) : Array Value → State → Outcome → State → Prop := fun _ st oc t => (∃ (v : Option Value) (σ' : Hp), oc = .returned v ∧ post v σ' ∧ HP G N0 σ' t.heap) ∧ va_F (AN N0) st t
def PB (G : GG) (N0 : Nat) (σ : Hp) (U : State) : Prop := N0 ≤ U.heap.size ∧ HP G N0 σ U.heap ∧ GE G N0 U
/-- METHOD y, called with av over the heap picture σ, returns with post; room: fr frames and lo words below it, mc cells of ms slots are new at most -/
def MM (l : Launch) (G : GG) (N0 : Nat) (y : MethodName) (cc : ByteArray) (maxL : Nat) (ret : Option FieldType) (fr lo mc ms : Nat) (av : List Value) (σ : Hp) (post : Option Value → Hp → Prop) : Prop :=
  Met l y (.code y cc maxL ret :: wAll) { frames := fr, cells := mc, slots := ms, locals := lo } (va_Pc av (PB G N0 σ)) (QC G N0 post) mc ms (AN N0)
theorem MM.of {l : Launch} {G : GG} {N0 : Nat} {y : MethodName} {cc : ByteArray} {maxL : Nat} {ret : Option FieldType} {fr lo mc ms : Nat} {av : List Value} {σ : Hp} {post : Option Value → Hp → Prop} (hy : plainName y.cls = true) (hlen : (lg_sl av).length ≤ maxL)
    (body : ∀ (p : Program) (e : Env) (s : State) (m : MethodId) (args : Array Value) (below : List Frame) (meth : Method) (c : Code), EX p s m args meth c G N0 y.cls cc maxL → meth.sig.returnType = ret → meth.name = y.name →
      V p l e { frames := fr, cells := mc, slots := ms, locals := lo } s m args below meth c (MQ below (QC G N0 post) args s mc ms (AN N0)) G N0 maxL σ 0 0 0 (lv_args 0 av) []) : MM l G N0 y cc maxL ret fr lo mc ms av σ post := by
  refine Met.ofW (cc := cc) (maxL := maxL) (ret := ret) hy rfl ?_
  intro p e s m args below meth c s₁ B hml hv
  obtain ⟨rfl, hsz, hH, hG⟩ := hv
  have hts := atoms_spec (ws := .code y cc maxL ret :: wAll) B.pre
  have hX : EX p s m av.toArray meth c G N0 y.cls cc maxL := ⟨B.exec, B.bytes, hml, findClass_of_methodNamed B.named, fun w h => hts w (List.mem_cons_of_mem _ h), B.notSynchronized, hG, hsz⟩
  have hV := body p e s m av.toArray below meth c hX B.returns (name_of_methodNamed B.named B.method).1
  have hl := lv_entry av (n := maxL) hlen
  rw [lg_entry_eq]
  exact hV s.heap [] _ hH va_S.rf hl
section CALL
variable {p : Program} {l : Launch} {e : Env} {R : Room} {s : State} {m : MethodId} {args : Array Value} {below : List Frame} {meth : Method} {c : Code} {Q : State → Prop} {G : GG} {N0 : Nat} {own : String} {cc : ByteArray} {nL : Nat}
variable {σ : Hp} {cu su pc : Nat} {lv lv' : List (Nat × Value)} {st : List Value}
theorem V_new (X : EX p s m args meth c G N0 own cc nL) {index t : Nat} (hf : NP own index t) (hcells : cu + 1 ≤ R.cells) (hslots : su + ncl t ≤ R.slots) (hd : decode cc pc = .ok (.new index, 3)) (kk : ∀ q : Nat, gk σ q = none → V p l e R s m args below meth c Q G N0 nL (nw σ q t 0) (cu + 1) (su + ncl t) (pc + 3) lv (.ref q :: st)) : V p l e R s m args below meth c Q G N0 nL σ cu su pc lv st := by
  intro H locs ls hH hS hL
  obtain ⟨L, hdom, hP, hD⟩ := id hH
  obtain ⟨r, ty0, hc, ht, hN, hin, h1, h2, h3, hty, hdef⟩ := hf
  have hw := X.2.2.2.2.1
  refine va_new (D := G.1) (ci := t) (fs := (List.range (ncl t)).map (dv t)) X.1 X.2.1 hw hin ty0 hty X.2.2.2.1 (hw _ h1) (hw _ h2) (hw _ h3) X.2.2.2.2.2.2.1.1 hP hD hS (fun q hq => Nat.le_trans X.2.2.2.2.2.2.2 hq) hc hdef hcells (by rw [hN]; exact hslots) hd (fun q H1 hP1 hD1 hS1 => ?_)
  obtain ⟨hq, hH1⟩ := HP.fresh (t := t) (n := 0) hdom hP1 hD1 (by
    rw [cF_of (show gk (nw σ q t 0) q = some (t, 0) by rw [gk_nw, if_pos rfl]), cE_obj ht]
    congr 2
    apply List.map_congr_left
    intro k _
    simp only [fv, dv, gi_nw, gl_nw, gr_nw]
    split <;> first | rfl | simp_all [va_rf])
  rw [hN]
  exact kk q hq H1 locs ls hH1 hS1 hL
theorem V_newi (X : EX p s m args meth c G N0 own cc nL) {v : Int32} {N : Nat} (hw1 : Cond.arrayClass .int ∈ wAll) (hn : ¬ v < 0) (hN : v.toNatClampNeg = N) (hb : N ≤ 100000) (hcells : cu + 1 ≤ R.cells) (hslots : su + N ≤ R.slots) (hd : decode cc pc = .ok (.newarray .int, 2)) (kk : ∀ q : Nat, gk σ q = none → V p l e R s m args below meth c Q G N0 nL (nw σ q 10 N) (cu + 1) (su + N) (pc + 2) lv (.ref q :: st)) : V p l e R s m args below meth c Q G N0 nL σ cu su pc lv (.int v :: st) := by
  intro H locs ls hH hS hL
  obtain ⟨L, hdom, hP, hD⟩ := id hH
  have hw := X.2.2.2.2.1
  have hK := X.2.2.2.2.2.2.1.1
  refine va_newa (D := G.1) (atype := .int) X.1 X.2.1 (hw _ hw1) rfl hK hP hD hS (fun q hq => Nat.le_trans X.2.2.2.2.2.2.2 hq) (a0 := (N, .inl (fun _ => 0))) (fun cA => rfl) hn hN (by show N * 4 ≤ _; omega) hcells hslots hd (fun q cA H1 hK1 hP1 hD1 hS1 => ?_)
  have hcA : cA = G.2.1 10 := ra_eq (hK1.2 4 (cA, .int) rfl).2 (hK.2 0 (G.2.1 10, .int) rfl).2
  subst hcA
  obtain ⟨hq, hH1⟩ := HP.fresh (t := 10) (n := N) hdom hP1 hD1 (by
    rw [cF_of (show gk (nw σ q 10 N) q = some (10, N) by rw [gk_nw, if_pos rfl]), cE_ia (by decide) (by decide)]
    have : gi (nw σ q 10 N) q = fun _ => 0 := by funext j; rw [gi_nw, if_pos rfl]
    rw [this])
  exact kk q hq H1 locs ls hH1 hS1 hL
theorem V_newz (X : EX p s m args meth c G N0 own cc nL) {v : Int32} {N : Nat} (hw1 : Cond.arrayClass .boolean ∈ wAll) (hn : ¬ v < 0) (hN : v.toNatClampNeg = N) (hb : N ≤ 100000) (hcells : cu + 1 ≤ R.cells) (hslots : su + N ≤ R.slots) (hd : decode cc pc = .ok (.newarray .boolean, 2)) (kk : ∀ q : Nat, gk σ q = none → V p l e R s m args below meth c Q G N0 nL (nw σ q 11 N) (cu + 1) (su + N) (pc + 2) lv (.ref q :: st)) : V p l e R s m args below meth c Q G N0 nL σ cu su pc lv (.int v :: st) := by
  intro H locs ls hH hS hL
  obtain ⟨L, hdom, hP, hD⟩ := id hH
  have hw := X.2.2.2.2.1
  have hK := X.2.2.2.2.2.2.1.1
  refine va_newa (D := G.1) (atype := .boolean) X.1 X.2.1 (hw _ hw1) rfl hK hP hD hS (fun q hq => Nat.le_trans X.2.2.2.2.2.2.2 hq) (a0 := (N, .inl (fun _ => 0))) (fun cA => rfl) hn hN (by show N * 1 ≤ _; omega) hcells hslots hd (fun q cA H1 hK1 hP1 hD1 hS1 => ?_)
  have hcA : cA = G.2.1 11 := ra_eq (hK1.2 4 (cA, .boolean) rfl).2 (hK.2 1 (G.2.1 11, .boolean) rfl).2
  subst hcA
  obtain ⟨hq, hH1⟩ := HP.fresh (t := 11) (n := N) hdom hP1 hD1 (by
    rw [cF_of (show gk (nw σ q 11 N) q = some (11, N) by rw [gk_nw, if_pos rfl]), cE_ia (by decide) (by decide)]
    have : gi (nw σ q 11 N) q = fun _ => 0 := by funext j; rw [gi_nw, if_pos rfl]
    rw [this])
  exact kk q hq H1 locs ls hH1 hS1 hL
theorem V_newq (X : EX p s m args meth c G N0 own cc nL) {v : Int32} {N t index : Nat} {C : String} (ht : t = 12 ∧ C = "PaperRows$Reader" ∨ t = 13 ∧ C = "PaperRows$Row") (hlk : Cond.classLink own index C ∈ wAll) (hn : ¬ v < 0) (hN : v.toNatClampNeg = N) (hb : N ≤ 100000) (hcells : cu + 1 ≤ R.cells) (hslots : su + N ≤ R.slots) (hd : decode cc pc = .ok (.anewarray index, 3)) (kk : ∀ q : Nat, gk σ q = none → V p l e R s m args below meth c Q G N0 nL (nw σ q t N) (cu + 1) (su + N) (pc + 3) lv (.ref q :: st)) : V p l e R s m args below meth c Q G N0 nL σ cu su pc lv (.int v :: st) := by
  intro H locs ls hH hS hL
  obtain ⟨L, hdom, hP, hD⟩ := id hH
  have hw := X.2.2.2.2.1
  have hK := X.2.2.2.2.2.2.1.1
  have hO : va_AO C s := by rcases ht with ⟨-, rfl⟩ | ⟨-, rfl⟩; exact X.2.2.2.2.2.2.1.2.2.1.2; exact X.2.2.2.2.2.2.1.2.2.1.1
  refine va_newq (D := G.1) X.1 X.2.1 X.2.2.2.1 (hw _ hlk) hO hK hP hD hS (fun q hq => Nat.le_trans X.2.2.2.2.2.2.2 hq) hn hN (by omega) hcells hslots hd (fun q cA H1 hK1 hP1 hD1 hS1 => ?_)
  have hcA : cA = G.2.1 t := by
    rcases ht with ⟨rfl, rfl⟩ | ⟨rfl, rfl⟩
    · exact ra_eq (hK1.2 4 (cA, .object "PaperRows$Reader") rfl).2 (hK.2 2 (G.2.1 12, .object "PaperRows$Reader") rfl).2
    · exact ra_eq (hK1.2 4 (cA, .object "PaperRows$Row") rfl).2 (hK.2 3 (G.2.1 13, .object "PaperRows$Row") rfl).2
  subst hcA
  obtain ⟨hq, hH1⟩ := HP.fresh (t := t) (n := N) hdom hP1 hD1 (by
    rw [cF_of (show gk (nw σ q t N) q = some (t, N) by rw [gk_nw, if_pos rfl]), cE_qa (by rcases ht with ⟨rfl, -⟩ | ⟨rfl, -⟩ <;> decide)]
    have : gr (nw σ q t N) q = fun _ => none := by funext j; rw [gr_nw, if_pos rfl]
    rw [this])
  exact kk q hq H1 locs ls hH1 hS1 hL
/-- what a call needs of the frame -/
theorem pre_call (X : EX p s m args meth c G N0 own cc nL) {H : Heap} {locs : List Loc} (hH : HP G N0 σ H) (hS : va_S (AN N0) s.heap H locs) : ∀ U : State, U.heap = H → s.WarmedH U.vm → PB G N0 σ U := fun U hU hW => by
  refine ⟨by rw [hU]; exact Nat.le_trans X.2.2.2.2.2.2.2 hS.1, by rw [hU]; exact hH, GE.step X.2.2.2.2.2.2.1 hW fun a h1 h2 => ?_⟩
  rw [hU]
  exact hS.2.1 a h1 h2
theorem blind_PB {av : List Value} : FrameBlind (va_Pc av (PB G N0 σ)) := fun a U g mk q => ⟨q.1, q.2.1, q.2.2.1, GE.same (u := U) rfl rfl q.2.2.2⟩
theorem V_back (X : EX p s m args meth c G N0 own cc nL) {mc ms : Nat} {a : Array Value} {st0 : List Value} {post : Option Value → Hp → Prop} {H : Heap} {locs : List Loc} {ls : Array Slot} (hS : va_S (AN N0) s.heap H locs) (hL : lv_has ls nL lv) (hr : va_Run p l e R s m args below meth c H locs cu su mc ms (F0 m pc ls st0) st (QC G N0 post a) (AN N0))
    (kk : ∀ (v : Option Value) (σ' : Hp), post v σ' → V p l e R s m args below meth c Q G N0 nL σ' (cu + mc) (su + ms) (pc + 3) lv (v.toList ++ st)) : W p l e R s m args below meth c H locs cu su Q (F0 m pc ls st0) := by
  intro T hT X0
  obtain ⟨v0, st₀, t, T', L, h0, X', hL2, e1, e2, ⟨⟨v, σ', hv, hp, hb⟩, hz, hk⟩, stp⟩ := hr T hT X0
  cases hv
  rw [h0] at hz hk
  obtain ⟨t2, a1, b1⟩ := kk _ σ' hp T'.heap (locs ++ L) ls (by rw [e1]; exact hb) ⟨Nat.le_trans hS.1 (by rw [e1]; exact hz), fun q h1 h2 => by rw [e1, hk q (Nat.lt_of_lt_of_le h1 hS.1) h2]; exact hS.2.1 q h1 h2, fun q hq => by
      rcases List.mem_append.mp hq with h | h
      · exact hS.2.2 q h
      · exact hL2 q h⟩ hL T' rfl X'
  exact ⟨t2, stp t2 a1, b1⟩
theorem V_callV (X : EX p s m args meth c G N0 own cc nL) {index maxL fr lo mc ms n b t z : Nat} {y : MethodName} {bytes : ByteArray} {ret : Option FieldType} {As stk : List Value} {post : Option Value → Hp → Prop} (hw : CW own index y bytes maxL ret n) (hinst : Cond.instanceMethod y ∈ wAll) (hsel : Cond.selects y.cls y y ∈ lw_tbl) (hsg : goodWord (Cond.selects y.cls y y) = true)
    (hM : MM l G N0 y bytes maxL ret fr lo mc ms (.ref b :: As) σ post) (hkd : gk σ b = some (t, z)) (ht : t < 10) (hcls : (vwCl[t]?).map (fun r => r.1) = some y.cls) (hn : As.length = n) (hR : fr + 1 ≤ R.frames ∧ 8 + (maxL + 11) + lo ≤ R.locals) (hcat : (st.map fun v => v.category).sum ≤ 8) (hf : cu + mc ≤ R.cells ∧ su + ms ≤ R.slots) (hstk : stk = As.reverse ++ .ref b :: st) (hd : decode cc pc = .ok (.invokevirtual index, 3))
    (kk : ∀ (v : Option Value) (σ' : Hp), post v σ' → V p l e R s m args below meth c Q G N0 nL σ' (cu + mc) (su + ms) (pc + 3) lv (v.toList ++ st)) : V p l e R s m args below meth c Q G N0 nL σ cu su pc lv stk := by
  intro H locs ls hH hS hL
  obtain ⟨L, hdom, hP, hD⟩ := id hH
  obtain ⟨q, hq, hq2, hm⟩ := HP.at (N0 := N0) (H := H) (G := G) hdom hkd
  rw [cE_obj ht] at hq
  obtain ⟨h1, h2, h3, h4, h5, h6⟩ := hw
  have hts := X.2.2.2.2.1
  obtain ⟨r, hr1, hr2⟩ := Option.map_eq_some_iff.mp hcls
  refine V_back X hS hL (va_runV (C := y.cls) (As := As) (b := b) ⟨X.1, X.2.1, X.2.2.1, X.2.2.2.1, hts⟩ hM ⟨callB_of n hts (goodIn_code h3) rfl rfl rfl (hts _ h2) (hts _ h1) ⟨h4, h5, h6⟩ hR, hts _ hinst, hts _ (wm hsel hsg)⟩ ⟨blind_PB, ?_, fun U hU hW => ⟨rfl, pre_call X hH hS U hU hW⟩⟩ rfl hn hL.1 hstk (lv_room hcat) hd hf) kk
  have := va_recv X.2.2.2.2.2.2.1.1 hP hr1 hq
  rw [hr2] at this
  exact this
theorem V_callS (X : EX p s m args meth c G N0 own cc nL) {index maxL fr lo mc ms n : Nat} {y : MethodName} {bytes : ByteArray} {ret : Option FieldType} {As stk : List Value} {post : Option Value → Hp → Prop} (hw : CW own index y bytes maxL ret n) (hstat : Cond.static y ∈ wAll)
    (hM : MM l G N0 y bytes maxL ret fr lo mc ms As σ post) (hn : As.length = n) (hR : fr + 1 ≤ R.frames ∧ 8 + (maxL + 11) + lo ≤ R.locals) (hcat : (st.map fun v => v.category).sum ≤ 8) (hf : cu + mc ≤ R.cells ∧ su + ms ≤ R.slots) (hstk : stk = As.reverse ++ st) (hd : decode cc pc = .ok (.invokestatic index, 3))
    (kk : ∀ (v : Option Value) (σ' : Hp), post v σ' → V p l e R s m args below meth c Q G N0 nL σ' (cu + mc) (su + ms) (pc + 3) lv (v.toList ++ st)) : V p l e R s m args below meth c Q G N0 nL σ cu su pc lv stk := by
  intro H locs ls hH hS hL
  obtain ⟨h1, h2, h3, h4, h5, h6⟩ := hw
  have hts := X.2.2.2.2.1
  exact V_back X hS hL (va_runS (As := As) ⟨X.1, X.2.1, X.2.2.1, X.2.2.2.1, hts⟩ hM ⟨callB_of n hts (goodIn_code h3) rfl rfl rfl (hts _ h2) (hts _ h1) ⟨h4, h5, h6⟩ hR, hts _ hstat⟩ ⟨blind_PB, fun U hU hW => ⟨rfl, pre_call X hH hS U hU hW⟩⟩ rfl hn hL.1 hstk (lv_room hcat) hd hf) kk
theorem V_callI (X : EX p s m args meth c G N0 own cc nL) {index maxL fr lo mc ms n b : Nat} {y : MethodName} {bytes : ByteArray} {As stk : List Value} {post : Option Value → Hp → Prop} (hw : CW own index y bytes maxL none n) (hinst : Cond.instanceMethod y ∈ wAll) (hy1 : y.name = "<init>")
    (hM : MM l G N0 y bytes maxL none fr lo mc ms (.ref b :: As) σ post) (hn : As.length = n) (hR : fr + 1 ≤ R.frames ∧ 8 + (maxL + 11) + lo ≤ R.locals) (hcat : (st.map fun v => v.category).sum ≤ 8) (hf : cu + mc ≤ R.cells ∧ su + ms ≤ R.slots) (hstk : stk = As.reverse ++ .ref b :: st) (hd : decode cc pc = .ok (.invokespecial index, 3))
    (kk : ∀ (v : Option Value) (σ' : Hp), post v σ' → V p l e R s m args below meth c Q G N0 nL σ' (cu + mc) (su + ms) (pc + 3) lv (v.toList ++ st)) : V p l e R s m args below meth c Q G N0 nL σ cu su pc lv stk := by
  intro H locs ls hH hS hL
  obtain ⟨h1, h2, h3, h4, h5, h6⟩ := hw
  have hts := X.2.2.2.2.1
  exact V_back X hS hL (va_runI (As := As) (b := b) ⟨X.1, X.2.1, X.2.2.1, X.2.2.2.1, hts⟩ hM ⟨callB_of n hts (goodIn_code h3) rfl rfl rfl (hts _ h2) (hts _ h1) ⟨h4, h5, h6⟩ hR, hy1, hts _ hinst⟩ ⟨blind_PB, fun U hU hW => ⟨rfl, pre_call X hH hS U hU hW⟩⟩ rfl hn hL.1 hstk (lv_room hcat) hd hf) kk
theorem V_callIN (X : EX p s m args meth c G N0 own cc nL) {index maxL fr lo mc ms n b : Nat} {y : MethodName} {host : String} {bytes : ByteArray} {As stk : List Value} {post : Option Value → Hp → Prop} (hw : CN own index y host bytes maxL none n) (hinst : Cond.instanceMethod y ∈ wAll) (hy1 : y.name = "<init>")
    (hM : MM l G N0 y bytes maxL none fr lo mc ms (.ref b :: As) σ post) (hn : As.length = n) (hR : fr + 1 ≤ R.frames ∧ 8 + (maxL + 11) + lo ≤ R.locals) (hcat : (st.map fun v => v.category).sum ≤ 8) (hf : cu + mc ≤ R.cells ∧ su + ms ≤ R.slots) (hstk : stk = As.reverse ++ .ref b :: st) (hd : decode cc pc = .ok (.invokespecial index, 3))
    (kk : ∀ (v : Option Value) (σ' : Hp), post v σ' → V p l e R s m args below meth c Q G N0 nL σ' (cu + mc) (su + ms) (pc + 3) lv (v.toList ++ st)) : V p l e R s m args below meth c Q G N0 nL σ cu su pc lv stk := by
  intro H locs ls hH hS hL
  obtain ⟨h1, h2, h3, h4, h5, h6⟩ := hw
  have hts := X.2.2.2.2.1
  exact V_back X hS hL (va_runIN (As := As) (b := b) ⟨X.1, X.2.1, X.2.2.1, X.2.2.2.1, hts⟩ hM ⟨va_cnB n hts (goodIn_code h3) rfl rfl rfl (X.2.2.2.2.2.2.1.2.1 _ h1) (hts _ h2) ⟨h4, h5, h6⟩ hR, hy1, hts _ hinst⟩ ⟨blind_PB, fun U hU hW => ⟨rfl, pre_call X hH hS U hU hW⟩⟩ rfl hn hL.1 hstk (lv_room hcat) hd hf) kk
theorem V_callSN (X : EX p s m args meth c G N0 own cc nL) {index maxL fr lo mc ms n : Nat} {y : MethodName} {host : String} {bytes : ByteArray} {ret : Option FieldType} {As stk : List Value} {post : Option Value → Hp → Prop} (hw : CN own index y host bytes maxL ret n) (hstat : Cond.static y ∈ wAll)
    (hM : MM l G N0 y bytes maxL ret fr lo mc ms As σ post) (hn : As.length = n) (hR : fr + 1 ≤ R.frames ∧ 8 + (maxL + 11) + lo ≤ R.locals) (hcat : (st.map fun v => v.category).sum ≤ 8) (hf : cu + mc ≤ R.cells ∧ su + ms ≤ R.slots) (hstk : stk = As.reverse ++ st) (hd : decode cc pc = .ok (.invokestatic index, 3))
    (kk : ∀ (v : Option Value) (σ' : Hp), post v σ' → V p l e R s m args below meth c Q G N0 nL σ' (cu + mc) (su + ms) (pc + 3) lv (v.toList ++ st)) : V p l e R s m args below meth c Q G N0 nL σ cu su pc lv stk := by
  intro H locs ls hH hS hL
  obtain ⟨h1, h2, h3, h4, h5, h6⟩ := hw
  have hts := X.2.2.2.2.1
  exact V_back X hS hL (va_runSN (As := As) ⟨X.1, X.2.1, X.2.2.1, X.2.2.2.1, hts⟩ hM ⟨va_cnB n hts (goodIn_code h3) rfl rfl rfl (X.2.2.2.2.2.2.1.2.1 _ h1) (hts _ h2) ⟨h4, h5, h6⟩ hR, hts _ hstat, trivial⟩ ⟨blind_PB, fun U hU hW => ⟨rfl, pre_call X hH hS U hU hW⟩⟩ rfl hn hL.1 hstk (lv_room hcat) hd hf) kk
theorem V_objInit (X : EX p s m args meth c G N0 own cc nL) {index a : Nat} (h1 : Cond.methodLink own index objectInit ∈ wAll) (h2 : Cond.instanceMethod objectInit ∈ wAll) (h3 : Cond.code objectInit ⟨#[0xb1]⟩ 1 none ∈ wAll) (hcat : (st.map fun v => v.category).sum ≤ 8) (hR : 1 ≤ R.frames ∧ 20 ≤ R.locals) (hd : decode cc pc = .ok (.invokespecial index, 3)) (kk : V p l e R s m args below meth c Q G N0 nL σ cu su (pc + 3) lv st) : V p l e R s m args below meth c Q G N0 nL σ cu su pc lv (.ref a :: st) := fun H locs ls hH hS hL => by
  have hts := X.2.2.2.2.1
  refine W.objInit X.1 X.2.1 X.2.2.2.1 (hts _ h1) (hts _ h2) (hts _ h3) rfl (by rw [X.2.2.1]; exact hL.1) rfl hd hR.1 ?_ (kk H locs ls hH hS hL)
  have := lv_room (m := m) (pc := pc) (ls := ls) (rest := .ref a :: st) hcat
  omega
theorem qc_end {post : Option Value → Hp → Prop} {v : Option Value} {H : Heap} {locs : List Loc} (hp : post v σ) (hH : HP G N0 σ H) (hS : va_S (AN N0) s.heap H locs) : ∀ t : State, t.heap = H → s.WarmedH t.vm → QC G N0 post args s (.returned v) t := fun t ht _ => ⟨⟨v, σ, rfl, hp, by rw [ht]; exact hH⟩, hS.F ht⟩
theorem V_iret (X : EX p s m args meth c G N0 own cc nL) {mc ms : Nat} {v : Int32} {ty : FieldType} {post : Option Value → Hp → Prop} (hr : meth.sig.returnType = some ty) (hz : ty = .int ∨ ty = .boolean ∧ (v = 0 ∨ v = 1)) (hc : cu ≤ mc) (hs : su ≤ ms) (hd : decode cc pc = .ok (.ireturn, 1)) (hp : post (some (.int v)) σ) : V p l e R s m args below meth c (MQ below (QC G N0 post) args s mc ms (AN N0)) G N0 nL σ cu su pc lv [.int v] := fun H locs ls hH hS hL =>
  W.widen hc hs (W.zret X.1 X.2.1 hr (by rcases hz with rfl | ⟨rfl, rfl | rfl⟩ <;> rfl) (qc_end hp hH hS) hS.2.2 hd X.2.2.2.2.2.1)
theorem V_lret (X : EX p s m args meth c G N0 own cc nL) {mc ms : Nat} {v : Int64} {post : Option Value → Hp → Prop} (hr : meth.sig.returnType = some .long) (hc : cu ≤ mc) (hs : su ≤ ms) (hd : decode cc pc = .ok (.lreturn, 1)) (hp : post (some (.long v)) σ) : V p l e R s m args below meth c (MQ below (QC G N0 post) args s mc ms (AN N0)) G N0 nL σ cu su pc lv [.long v] := fun H locs ls hH hS hL =>
  W.widen hc hs (W.lret X.1 X.2.1 hr (qc_end hp hH hS) hS.2.2 hd X.2.2.2.2.2.1)
theorem V_aret (X : EX p s m args meth c G N0 own cc nL) {mc ms : Nat} {v : Option Nat} {rt : FieldType} {post : Option Value → Hp → Prop} (hr : meth.sig.returnType = some rt) (hrt : (∃ n, rt = .object n) ∨ ∃ t, rt = .array t) (hc : cu ≤ mc) (hs : su ≤ ms) (hd : decode cc pc = .ok (.areturn, 1)) (hp : post (some (va_rf v)) σ) : V p l e R s m args below meth c (MQ below (QC G N0 post) args s mc ms (AN N0)) G N0 nL σ cu su pc lv [va_rf v] := fun H locs ls hH hS hL =>
  W.widen hc hs (W.aret X.1 X.2.1 hr hrt (by cases v with | none => exact Or.inl rfl | some a => exact Or.inr ⟨a, rfl⟩) (qc_end hp hH hS) hS.2.2 hd X.2.2.2.2.2.1)
theorem V_vret (X : EX p s m args meth c G N0 own cc nL) {mc ms : Nat} {post : Option Value → Hp → Prop} (hr : meth.sig.returnType = none) (hc : cu ≤ mc) (hs : su ≤ ms) (hd : decode cc pc = .ok (.return_, 1)) (hp : post none σ) : V p l e R s m args below meth c (MQ below (QC G N0 post) args s mc ms (AN N0)) G N0 nL σ cu su pc lv [] := fun H locs ls hH hS hL =>
  W.widen hc hs (W.vret X.1 X.2.1 hr (qc_end hp hH hS) hS.2.2 hd X.2.2.2.2.2.1)
end CALL
