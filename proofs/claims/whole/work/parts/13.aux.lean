def lfp0 (F : (Hp → Prop) → Hp → Prop)  (σ : Hp) : Prop := ∀ I : Hp → Prop, (∀  τ, F I  τ → I  τ) → I  σ
theorem lfp0_use {F : (Hp → Prop) → Hp → Prop}  {σ : Hp} (I : Hp → Prop) (h : lfp0 F  σ) (hI : ∀  τ, F I  τ → I  τ) : I  σ := h I hI
def lfp1 {T0 : Type} (F : (T0 → Hp → Prop) → T0 → Hp → Prop) (v0 : T0) (σ : Hp) : Prop := ∀ I : T0 → Hp → Prop, (∀ w0 τ, F I w0 τ → I w0 τ) → I v0 σ
theorem lfp1_use {T0 : Type} {F : (T0 → Hp → Prop) → T0 → Hp → Prop} {v0 : T0} {σ : Hp} (I : T0 → Hp → Prop) (h : lfp1 F v0 σ) (hI : ∀ w0 τ, F I w0 τ → I w0 τ) : I v0 σ := h I hI
def lfp2 {T0 T1 : Type} (F : (T0 → T1 → Hp → Prop) → T0 → T1 → Hp → Prop) (v0 : T0) (v1 : T1) (σ : Hp) : Prop := ∀ I : T0 → T1 → Hp → Prop, (∀ w0 w1 τ, F I w0 w1 τ → I w0 w1 τ) → I v0 v1 σ
theorem lfp2_use {T0 T1 : Type} {F : (T0 → T1 → Hp → Prop) → T0 → T1 → Hp → Prop} {v0 : T0} {v1 : T1} {σ : Hp} (I : T0 → T1 → Hp → Prop) (h : lfp2 F v0 v1 σ) (hI : ∀ w0 w1 τ, F I w0 w1 τ → I w0 w1 τ) : I v0 v1 σ := h I hI
def lfp3 {T0 T1 T2 : Type} (F : (T0 → T1 → T2 → Hp → Prop) → T0 → T1 → T2 → Hp → Prop) (v0 : T0) (v1 : T1) (v2 : T2) (σ : Hp) : Prop := ∀ I : T0 → T1 → T2 → Hp → Prop, (∀ w0 w1 w2 τ, F I w0 w1 w2 τ → I w0 w1 w2 τ) → I v0 v1 v2 σ
theorem lfp3_use {T0 T1 T2 : Type} {F : (T0 → T1 → T2 → Hp → Prop) → T0 → T1 → T2 → Hp → Prop} {v0 : T0} {v1 : T1} {v2 : T2} {σ : Hp} (I : T0 → T1 → T2 → Hp → Prop) (h : lfp3 F v0 v1 v2 σ) (hI : ∀ w0 w1 w2 τ, F I w0 w1 w2 τ → I w0 w1 w2 τ) : I v0 v1 v2 σ := h I hI
def lfp4 {T0 T1 T2 T3 : Type} (F : (T0 → T1 → T2 → T3 → Hp → Prop) → T0 → T1 → T2 → T3 → Hp → Prop) (v0 : T0) (v1 : T1) (v2 : T2) (v3 : T3) (σ : Hp) : Prop := ∀ I : T0 → T1 → T2 → T3 → Hp → Prop, (∀ w0 w1 w2 w3 τ, F I w0 w1 w2 w3 τ → I w0 w1 w2 w3 τ) → I v0 v1 v2 v3 σ
theorem lfp4_use {T0 T1 T2 T3 : Type} {F : (T0 → T1 → T2 → T3 → Hp → Prop) → T0 → T1 → T2 → T3 → Hp → Prop} {v0 : T0} {v1 : T1} {v2 : T2} {v3 : T3} {σ : Hp} (I : T0 → T1 → T2 → T3 → Hp → Prop) (h : lfp4 F v0 v1 v2 v3 σ) (hI : ∀ w0 w1 w2 w3 τ, F I w0 w1 w2 w3 τ → I w0 w1 w2 w3 τ) : I v0 v1 v2 v3 σ := h I hI
def lfp5 {T0 T1 T2 T3 T4 : Type} (F : (T0 → T1 → T2 → T3 → T4 → Hp → Prop) → T0 → T1 → T2 → T3 → T4 → Hp → Prop) (v0 : T0) (v1 : T1) (v2 : T2) (v3 : T3) (v4 : T4) (σ : Hp) : Prop := ∀ I : T0 → T1 → T2 → T3 → T4 → Hp → Prop, (∀ w0 w1 w2 w3 w4 τ, F I w0 w1 w2 w3 w4 τ → I w0 w1 w2 w3 w4 τ) → I v0 v1 v2 v3 v4 σ
theorem lfp5_use {T0 T1 T2 T3 T4 : Type} {F : (T0 → T1 → T2 → T3 → T4 → Hp → Prop) → T0 → T1 → T2 → T3 → T4 → Hp → Prop} {v0 : T0} {v1 : T1} {v2 : T2} {v3 : T3} {v4 : T4} {σ : Hp} (I : T0 → T1 → T2 → T3 → T4 → Hp → Prop) (h : lfp5 F v0 v1 v2 v3 v4 σ) (hI : ∀ w0 w1 w2 w3 w4 τ, F I w0 w1 w2 w3 w4 τ → I w0 w1 w2 w3 w4 τ) : I v0 v1 v2 v3 v4 σ := h I hI
def lfp6 {T0 T1 T2 T3 T4 T5 : Type} (F : (T0 → T1 → T2 → T3 → T4 → T5 → Hp → Prop) → T0 → T1 → T2 → T3 → T4 → T5 → Hp → Prop) (v0 : T0) (v1 : T1) (v2 : T2) (v3 : T3) (v4 : T4) (v5 : T5) (σ : Hp) : Prop := ∀ I : T0 → T1 → T2 → T3 → T4 → T5 → Hp → Prop, (∀ w0 w1 w2 w3 w4 w5 τ, F I w0 w1 w2 w3 w4 w5 τ → I w0 w1 w2 w3 w4 w5 τ) → I v0 v1 v2 v3 v4 v5 σ
theorem lfp6_use {T0 T1 T2 T3 T4 T5 : Type} {F : (T0 → T1 → T2 → T3 → T4 → T5 → Hp → Prop) → T0 → T1 → T2 → T3 → T4 → T5 → Hp → Prop} {v0 : T0} {v1 : T1} {v2 : T2} {v3 : T3} {v4 : T4} {v5 : T5} {σ : Hp} (I : T0 → T1 → T2 → T3 → T4 → T5 → Hp → Prop) (h : lfp6 F v0 v1 v2 v3 v4 v5 σ) (hI : ∀ w0 w1 w2 w3 w4 w5 τ, F I w0 w1 w2 w3 w4 w5 τ → I w0 w1 w2 w3 w4 w5 τ) : I v0 v1 v2 v3 v4 v5 σ := h I hI
def lfp7 {T0 T1 T2 T3 T4 T5 T6 : Type} (F : (T0 → T1 → T2 → T3 → T4 → T5 → T6 → Hp → Prop) → T0 → T1 → T2 → T3 → T4 → T5 → T6 → Hp → Prop) (v0 : T0) (v1 : T1) (v2 : T2) (v3 : T3) (v4 : T4) (v5 : T5) (v6 : T6) (σ : Hp) : Prop := ∀ I : T0 → T1 → T2 → T3 → T4 → T5 → T6 → Hp → Prop, (∀ w0 w1 w2 w3 w4 w5 w6 τ, F I w0 w1 w2 w3 w4 w5 w6 τ → I w0 w1 w2 w3 w4 w5 w6 τ) → I v0 v1 v2 v3 v4 v5 v6 σ
theorem lfp7_use {T0 T1 T2 T3 T4 T5 T6 : Type} {F : (T0 → T1 → T2 → T3 → T4 → T5 → T6 → Hp → Prop) → T0 → T1 → T2 → T3 → T4 → T5 → T6 → Hp → Prop} {v0 : T0} {v1 : T1} {v2 : T2} {v3 : T3} {v4 : T4} {v5 : T5} {v6 : T6} {σ : Hp} (I : T0 → T1 → T2 → T3 → T4 → T5 → T6 → Hp → Prop) (h : lfp7 F v0 v1 v2 v3 v4 v5 v6 σ) (hI : ∀ w0 w1 w2 w3 w4 w5 w6 τ, F I w0 w1 w2 w3 w4 w5 w6 τ → I w0 w1 w2 w3 w4 w5 w6 τ) : I v0 v1 v2 v3 v4 v5 v6 σ := h I hI
theorem gi_sa {σ : Hp} {a b j k : Nat} {v : Int32} (h : a ≠ b) : gi (si σ b j v) a k = gi σ a k := by rw [gi_si, if_neg (fun e => h e.1)]
theorem gi_sk {σ : Hp} {a b j k : Nat} {v : Int32} (h : k ≠ j) : gi (si σ b j v) a k = gi σ a k := by rw [gi_si, if_neg (fun e => h e.2)]
theorem gi_ss {σ : Hp} {b j : Nat} {v : Int32} : gi (si σ b j v) b j = v := by rw [gi_si, if_pos ⟨rfl, rfl⟩]
theorem gl_sa {σ : Hp} {a b j k : Nat} {v : Int64} (h : a ≠ b) : gl (sl σ b j v) a k = gl σ a k := by rw [gl_sl, if_neg (fun e => h e.1)]
theorem gl_sk {σ : Hp} {a b j k : Nat} {v : Int64} (h : k ≠ j) : gl (sl σ b j v) a k = gl σ a k := by rw [gl_sl, if_neg (fun e => h e.2)]
theorem gl_ss {σ : Hp} {b j : Nat} {v : Int64} : gl (sl σ b j v) b j = v := by rw [gl_sl, if_pos ⟨rfl, rfl⟩]
theorem gr_sa {σ : Hp} {a b j k : Nat} {v : Option Nat} (h : a ≠ b) : gr (sr σ b j v) a k = gr σ a k := by rw [gr_sr, if_neg (fun e => h e.1)]
theorem gr_sk {σ : Hp} {a b j k : Nat} {v : Option Nat} (h : k ≠ j) : gr (sr σ b j v) a k = gr σ a k := by rw [gr_sr, if_neg (fun e => h e.2)]
theorem gr_ss {σ : Hp} {b j : Nat} {v : Option Nat} : gr (sr σ b j v) b j = v := by rw [gr_sr, if_pos ⟨rfl, rfl⟩]
theorem ne_kd {σ : Hp} {a b t1 t2 n1 n2 : Nat} (h1 : gk σ a = some (t1, n1)) (h2 : gk σ b = some (t2, n2)) (h : t1 ≠ t2) : a ≠ b := by
  rintro rfl
  rw [h1] at h2
  exact h (by cases h2; rfl)
theorem vcat (x : Option Nat) : (va_rf x).category = 1 := by cases x <;> rfl
theorem gk_keep {σ : Hp} {q t n a : Nat} {u : Nat × Nat} (hq : gk σ q = none) (h : gk σ a = some u) : gk (nw σ q t n) a = some u := by
  rw [gk_nw, if_neg]
  · exact h
  · intro e
    rw [e, hq] at h
    cases h
theorem gk_new {σ : Hp} {q t n : Nat} : gk (nw σ q t n) q = some (t, n) := by rw [gk_nw, if_pos rfl]
theorem wps {ws : List Cond} (ps : List Nat) (hp : ws = ps.filterMap (fun i => lw_tbl[i]?)) (h : ws.all goodWord = true) : ∀ w ∈ ws, w ∈ wAll := by
  intro w hw
  have h1 := List.all_eq_true.mp h w hw
  rw [hp] at hw
  obtain ⟨i, -, hi⟩ := List.mem_filterMap.mp hw
  exact wm (List.mem_of_getElem? hi) h1
theorem wmi {w : Cond} (i : Nat) (h : lw_tbl[i]? = some w) (g : goodWord w = true) : w ∈ wAll := wm (List.mem_of_getElem? h) g
section AUX
variable {p : Program} {l : Launch} {e : Env} {R : Room} {s : State} {m : MethodId} {args : Array Value} {below : List Frame} {meth : Method} {c : Code} {Q : State → Prop} {G : GG} {N0 : Nat} {own : String} {cc : ByteArray} {nL : Nat}
variable {σ : Hp} {cu su pc : Nat} {lv lv' : List (Nat × Value)} {st : List Value}
theorem V_dr0 {x : Option Nat} {b : Nat} (h : x = some b) (k : V p l e R s m args below meth c Q G N0 nL σ cu su pc lv (.ref b :: st)) : V p l e R s m args below meth c Q G N0 nL σ cu su pc lv (va_rf x :: st) := by
  subst h
  exact k
theorem V_dr1 {v0 : Value} {x : Option Nat} {b : Nat} (h : x = some b) (k : V p l e R s m args below meth c Q G N0 nL σ cu su pc lv (v0 :: .ref b :: st)) : V p l e R s m args below meth c Q G N0 nL σ cu su pc lv (v0 :: va_rf x :: st) := by
  subst h
  exact k
theorem V_dr2 {v0 v1 : Value} {x : Option Nat} {b : Nat} (h : x = some b) (k : V p l e R s m args below meth c Q G N0 nL σ cu su pc lv (v0 :: v1 :: .ref b :: st)) : V p l e R s m args below meth c Q G N0 nL σ cu su pc lv (v0 :: v1 :: va_rf x :: st) := by
  subst h
  exact k
theorem V_dr3 {v0 v1 v2 : Value} {x : Option Nat} {b : Nat} (h : x = some b) (k : V p l e R s m args below meth c Q G N0 nL σ cu su pc lv (v0 :: v1 :: v2 :: .ref b :: st)) : V p l e R s m args below meth c Q G N0 nL σ cu su pc lv (v0 :: v1 :: v2 :: va_rf x :: st) := by
  subst h
  exact k
theorem V_dr4 {v0 v1 v2 v3 : Value} {x : Option Nat} {b : Nat} (h : x = some b) (k : V p l e R s m args below meth c Q G N0 nL σ cu su pc lv (v0 :: v1 :: v2 :: v3 :: .ref b :: st)) : V p l e R s m args below meth c Q G N0 nL σ cu su pc lv (v0 :: v1 :: v2 :: v3 :: va_rf x :: st) := by
  subst h
  exact k
theorem V_dr5 {v0 v1 v2 v3 v4 : Value} {x : Option Nat} {b : Nat} (h : x = some b) (k : V p l e R s m args below meth c Q G N0 nL σ cu su pc lv (v0 :: v1 :: v2 :: v3 :: v4 :: .ref b :: st)) : V p l e R s m args below meth c Q G N0 nL σ cu su pc lv (v0 :: v1 :: v2 :: v3 :: v4 :: va_rf x :: st) := by
  subst h
  exact k
theorem V_dr6 {v0 v1 v2 v3 v4 v5 : Value} {x : Option Nat} {b : Nat} (h : x = some b) (k : V p l e R s m args below meth c Q G N0 nL σ cu su pc lv (v0 :: v1 :: v2 :: v3 :: v4 :: v5 :: .ref b :: st)) : V p l e R s m args below meth c Q G N0 nL σ cu su pc lv (v0 :: v1 :: v2 :: v3 :: v4 :: v5 :: va_rf x :: st) := by
  subst h
  exact k
theorem V_dr7 {v0 v1 v2 v3 v4 v5 v6 : Value} {x : Option Nat} {b : Nat} (h : x = some b) (k : V p l e R s m args below meth c Q G N0 nL σ cu su pc lv (v0 :: v1 :: v2 :: v3 :: v4 :: v5 :: v6 :: .ref b :: st)) : V p l e R s m args below meth c Q G N0 nL σ cu su pc lv (v0 :: v1 :: v2 :: v3 :: v4 :: v5 :: v6 :: va_rf x :: st) := by
  subst h
  exact k
/-- what comes back: an int, a reference or null, nothing -/
def pI (P : Int32 → Hp → Prop) : Option Value → Hp → Prop := fun v σ => ∃ r, v = some (.int r) ∧ P r σ
def pR (P : Option Nat → Hp → Prop) : Option Value → Hp → Prop := fun v σ => ∃ r, v = some (va_rf r) ∧ P r σ
def pV (P : Hp → Prop) : Option Value → Hp → Prop := fun v σ => v = none ∧ P σ
theorem V_callV_i (X : EX p s m args meth c G N0 own cc nL) {index maxL fr lo mc ms n b t z : Nat} {y : MethodName} {bytes : ByteArray} {ret : Option FieldType} (As : List Value) {stk : List Value} {P : Int32 → Hp → Prop} (hw : CW own index y bytes maxL ret n) (hinst : Cond.instanceMethod y ∈ wAll) (hsel : Cond.selects y.cls y y ∈ lw_tbl) (hsg : goodWord (Cond.selects y.cls y y) = true) (hM : MM l G N0 y bytes maxL ret fr lo mc ms (.ref b :: As) σ (pI P)) (hkd : gk σ b = some (t, z)) (ht : t < 10) (hcls : (vwCl[t]?).map (fun r => r.1) = some y.cls) (hn : As.length = n) (hR : fr + 1 ≤ R.frames ∧ 8 + (maxL + 11) + lo ≤ R.locals) (hcat : (st.map fun v => v.category).sum ≤ 8) (hf : cu + mc ≤ R.cells ∧ su + ms ≤ R.slots) (hstk : stk = As.reverse ++ .ref b :: st) (hd : decode cc pc = .ok (.invokevirtual index, 3)) (kk : ∀ (r : Int32) (σ' : Hp), P r σ' → V p l e R s m args below meth c Q G N0 nL σ' (cu + mc) (su + ms) (pc + 3) lv (.int r :: st)) : V p l e R s m args below meth c Q G N0 nL σ cu su pc lv stk :=
  V_callV X hw hinst hsel hsg hM hkd ht hcls hn hR hcat hf hstk hd fun v σ' hv => by
  obtain ⟨r, rfl, hp⟩ := hv
  exact kk r σ' hp
theorem V_callS_i (X : EX p s m args meth c G N0 own cc nL) {index maxL fr lo mc ms n : Nat} {y : MethodName} {bytes : ByteArray} {ret : Option FieldType} (As : List Value) {stk : List Value} {P : Int32 → Hp → Prop} (hw : CW own index y bytes maxL ret n) (hstat : Cond.static y ∈ wAll) (hM : MM l G N0 y bytes maxL ret fr lo mc ms As σ (pI P)) (hn : As.length = n) (hR : fr + 1 ≤ R.frames ∧ 8 + (maxL + 11) + lo ≤ R.locals) (hcat : (st.map fun v => v.category).sum ≤ 8) (hf : cu + mc ≤ R.cells ∧ su + ms ≤ R.slots) (hstk : stk = As.reverse ++ st) (hd : decode cc pc = .ok (.invokestatic index, 3)) (kk : ∀ (r : Int32) (σ' : Hp), P r σ' → V p l e R s m args below meth c Q G N0 nL σ' (cu + mc) (su + ms) (pc + 3) lv (.int r :: st)) : V p l e R s m args below meth c Q G N0 nL σ cu su pc lv stk :=
  V_callS X hw hstat hM hn hR hcat hf hstk hd fun v σ' hv => by
  obtain ⟨r, rfl, hp⟩ := hv
  exact kk r σ' hp
theorem V_callSN_i (X : EX p s m args meth c G N0 own cc nL) {index maxL fr lo mc ms n : Nat} {y : MethodName} {host : String} {bytes : ByteArray} {ret : Option FieldType} (As : List Value) {stk : List Value} {P : Int32 → Hp → Prop} (hw : CN own index y host bytes maxL ret n) (hstat : Cond.static y ∈ wAll) (hM : MM l G N0 y bytes maxL ret fr lo mc ms As σ (pI P)) (hn : As.length = n) (hR : fr + 1 ≤ R.frames ∧ 8 + (maxL + 11) + lo ≤ R.locals) (hcat : (st.map fun v => v.category).sum ≤ 8) (hf : cu + mc ≤ R.cells ∧ su + ms ≤ R.slots) (hstk : stk = As.reverse ++ st) (hd : decode cc pc = .ok (.invokestatic index, 3)) (kk : ∀ (r : Int32) (σ' : Hp), P r σ' → V p l e R s m args below meth c Q G N0 nL σ' (cu + mc) (su + ms) (pc + 3) lv (.int r :: st)) : V p l e R s m args below meth c Q G N0 nL σ cu su pc lv stk :=
  V_callSN X hw hstat hM hn hR hcat hf hstk hd fun v σ' hv => by
  obtain ⟨r, rfl, hp⟩ := hv
  exact kk r σ' hp
theorem V_callV_r (X : EX p s m args meth c G N0 own cc nL) {index maxL fr lo mc ms n b t z : Nat} {y : MethodName} {bytes : ByteArray} {ret : Option FieldType} (As : List Value) {stk : List Value} {P : Option Nat → Hp → Prop} (hw : CW own index y bytes maxL ret n) (hinst : Cond.instanceMethod y ∈ wAll) (hsel : Cond.selects y.cls y y ∈ lw_tbl) (hsg : goodWord (Cond.selects y.cls y y) = true) (hM : MM l G N0 y bytes maxL ret fr lo mc ms (.ref b :: As) σ (pR P)) (hkd : gk σ b = some (t, z)) (ht : t < 10) (hcls : (vwCl[t]?).map (fun r => r.1) = some y.cls) (hn : As.length = n) (hR : fr + 1 ≤ R.frames ∧ 8 + (maxL + 11) + lo ≤ R.locals) (hcat : (st.map fun v => v.category).sum ≤ 8) (hf : cu + mc ≤ R.cells ∧ su + ms ≤ R.slots) (hstk : stk = As.reverse ++ .ref b :: st) (hd : decode cc pc = .ok (.invokevirtual index, 3)) (kk : ∀ (r : Option Nat) (σ' : Hp), P r σ' → V p l e R s m args below meth c Q G N0 nL σ' (cu + mc) (su + ms) (pc + 3) lv (va_rf r :: st)) : V p l e R s m args below meth c Q G N0 nL σ cu su pc lv stk :=
  V_callV X hw hinst hsel hsg hM hkd ht hcls hn hR hcat hf hstk hd fun v σ' hv => by
  obtain ⟨r, rfl, hp⟩ := hv
  exact kk r σ' hp
theorem V_callS_r (X : EX p s m args meth c G N0 own cc nL) {index maxL fr lo mc ms n : Nat} {y : MethodName} {bytes : ByteArray} {ret : Option FieldType} (As : List Value) {stk : List Value} {P : Option Nat → Hp → Prop} (hw : CW own index y bytes maxL ret n) (hstat : Cond.static y ∈ wAll) (hM : MM l G N0 y bytes maxL ret fr lo mc ms As σ (pR P)) (hn : As.length = n) (hR : fr + 1 ≤ R.frames ∧ 8 + (maxL + 11) + lo ≤ R.locals) (hcat : (st.map fun v => v.category).sum ≤ 8) (hf : cu + mc ≤ R.cells ∧ su + ms ≤ R.slots) (hstk : stk = As.reverse ++ st) (hd : decode cc pc = .ok (.invokestatic index, 3)) (kk : ∀ (r : Option Nat) (σ' : Hp), P r σ' → V p l e R s m args below meth c Q G N0 nL σ' (cu + mc) (su + ms) (pc + 3) lv (va_rf r :: st)) : V p l e R s m args below meth c Q G N0 nL σ cu su pc lv stk :=
  V_callS X hw hstat hM hn hR hcat hf hstk hd fun v σ' hv => by
  obtain ⟨r, rfl, hp⟩ := hv
  exact kk r σ' hp
theorem V_callSN_r (X : EX p s m args meth c G N0 own cc nL) {index maxL fr lo mc ms n : Nat} {y : MethodName} {host : String} {bytes : ByteArray} {ret : Option FieldType} (As : List Value) {stk : List Value} {P : Option Nat → Hp → Prop} (hw : CN own index y host bytes maxL ret n) (hstat : Cond.static y ∈ wAll) (hM : MM l G N0 y bytes maxL ret fr lo mc ms As σ (pR P)) (hn : As.length = n) (hR : fr + 1 ≤ R.frames ∧ 8 + (maxL + 11) + lo ≤ R.locals) (hcat : (st.map fun v => v.category).sum ≤ 8) (hf : cu + mc ≤ R.cells ∧ su + ms ≤ R.slots) (hstk : stk = As.reverse ++ st) (hd : decode cc pc = .ok (.invokestatic index, 3)) (kk : ∀ (r : Option Nat) (σ' : Hp), P r σ' → V p l e R s m args below meth c Q G N0 nL σ' (cu + mc) (su + ms) (pc + 3) lv (va_rf r :: st)) : V p l e R s m args below meth c Q G N0 nL σ cu su pc lv stk :=
  V_callSN X hw hstat hM hn hR hcat hf hstk hd fun v σ' hv => by
  obtain ⟨r, rfl, hp⟩ := hv
  exact kk r σ' hp
theorem V_callV_v (X : EX p s m args meth c G N0 own cc nL) {index maxL fr lo mc ms n b t z : Nat} {y : MethodName} {bytes : ByteArray} {ret : Option FieldType} (As : List Value) {stk : List Value} {P : Hp → Prop} (hw : CW own index y bytes maxL ret n) (hinst : Cond.instanceMethod y ∈ wAll) (hsel : Cond.selects y.cls y y ∈ lw_tbl) (hsg : goodWord (Cond.selects y.cls y y) = true) (hM : MM l G N0 y bytes maxL ret fr lo mc ms (.ref b :: As) σ (pV P)) (hkd : gk σ b = some (t, z)) (ht : t < 10) (hcls : (vwCl[t]?).map (fun r => r.1) = some y.cls) (hn : As.length = n) (hR : fr + 1 ≤ R.frames ∧ 8 + (maxL + 11) + lo ≤ R.locals) (hcat : (st.map fun v => v.category).sum ≤ 8) (hf : cu + mc ≤ R.cells ∧ su + ms ≤ R.slots) (hstk : stk = As.reverse ++ .ref b :: st) (hd : decode cc pc = .ok (.invokevirtual index, 3)) (kk : ∀ σ' : Hp, P σ' → V p l e R s m args below meth c Q G N0 nL σ' (cu + mc) (su + ms) (pc + 3) lv st) : V p l e R s m args below meth c Q G N0 nL σ cu su pc lv stk :=
  V_callV X hw hinst hsel hsg hM hkd ht hcls hn hR hcat hf hstk hd fun v σ' hv => by
  obtain ⟨rfl, hp⟩ := hv
  exact kk σ' hp
theorem V_callS_v (X : EX p s m args meth c G N0 own cc nL) {index maxL fr lo mc ms n : Nat} {y : MethodName} {bytes : ByteArray} {ret : Option FieldType} (As : List Value) {stk : List Value} {P : Hp → Prop} (hw : CW own index y bytes maxL ret n) (hstat : Cond.static y ∈ wAll) (hM : MM l G N0 y bytes maxL ret fr lo mc ms As σ (pV P)) (hn : As.length = n) (hR : fr + 1 ≤ R.frames ∧ 8 + (maxL + 11) + lo ≤ R.locals) (hcat : (st.map fun v => v.category).sum ≤ 8) (hf : cu + mc ≤ R.cells ∧ su + ms ≤ R.slots) (hstk : stk = As.reverse ++ st) (hd : decode cc pc = .ok (.invokestatic index, 3)) (kk : ∀ σ' : Hp, P σ' → V p l e R s m args below meth c Q G N0 nL σ' (cu + mc) (su + ms) (pc + 3) lv st) : V p l e R s m args below meth c Q G N0 nL σ cu su pc lv stk :=
  V_callS X hw hstat hM hn hR hcat hf hstk hd fun v σ' hv => by
  obtain ⟨rfl, hp⟩ := hv
  exact kk σ' hp
theorem V_callSN_v (X : EX p s m args meth c G N0 own cc nL) {index maxL fr lo mc ms n : Nat} {y : MethodName} {host : String} {bytes : ByteArray} {ret : Option FieldType} (As : List Value) {stk : List Value} {P : Hp → Prop} (hw : CN own index y host bytes maxL ret n) (hstat : Cond.static y ∈ wAll) (hM : MM l G N0 y bytes maxL ret fr lo mc ms As σ (pV P)) (hn : As.length = n) (hR : fr + 1 ≤ R.frames ∧ 8 + (maxL + 11) + lo ≤ R.locals) (hcat : (st.map fun v => v.category).sum ≤ 8) (hf : cu + mc ≤ R.cells ∧ su + ms ≤ R.slots) (hstk : stk = As.reverse ++ st) (hd : decode cc pc = .ok (.invokestatic index, 3)) (kk : ∀ σ' : Hp, P σ' → V p l e R s m args below meth c Q G N0 nL σ' (cu + mc) (su + ms) (pc + 3) lv st) : V p l e R s m args below meth c Q G N0 nL σ cu su pc lv stk :=
  V_callSN X hw hstat hM hn hR hcat hf hstk hd fun v σ' hv => by
  obtain ⟨rfl, hp⟩ := hv
  exact kk σ' hp
theorem V_callI_v (X : EX p s m args meth c G N0 own cc nL) {index maxL fr lo mc ms n b : Nat} {y : MethodName} {bytes : ByteArray} (As : List Value) {stk : List Value} {P : Hp → Prop} (hw : CW own index y bytes maxL none n) (hinst : Cond.instanceMethod y ∈ wAll) (hy1 : y.name = "<init>") (hM : MM l G N0 y bytes maxL none fr lo mc ms (.ref b :: As) σ (pV P)) (hn : As.length = n) (hR : fr + 1 ≤ R.frames ∧ 8 + (maxL + 11) + lo ≤ R.locals) (hcat : (st.map fun v => v.category).sum ≤ 8) (hf : cu + mc ≤ R.cells ∧ su + ms ≤ R.slots) (hstk : stk = As.reverse ++ .ref b :: st) (hd : decode cc pc = .ok (.invokespecial index, 3)) (kk : ∀ σ' : Hp, P σ' → V p l e R s m args below meth c Q G N0 nL σ' (cu + mc) (su + ms) (pc + 3) lv st) : V p l e R s m args below meth c Q G N0 nL σ cu su pc lv stk :=
  V_callI X hw hinst hy1 hM hn hR hcat hf hstk hd fun v σ' hv => by
  obtain ⟨rfl, hp⟩ := hv
  exact kk σ' hp
theorem V_callIN_v (X : EX p s m args meth c G N0 own cc nL) {index maxL fr lo mc ms n b : Nat} {y : MethodName} {bytes : ByteArray} (As : List Value) {stk : List Value} {P : Hp → Prop} {host : String} (hw : CN own index y host bytes maxL none n) (hinst : Cond.instanceMethod y ∈ wAll) (hy1 : y.name = "<init>") (hM : MM l G N0 y bytes maxL none fr lo mc ms (.ref b :: As) σ (pV P)) (hn : As.length = n) (hR : fr + 1 ≤ R.frames ∧ 8 + (maxL + 11) + lo ≤ R.locals) (hcat : (st.map fun v => v.category).sum ≤ 8) (hf : cu + mc ≤ R.cells ∧ su + ms ≤ R.slots) (hstk : stk = As.reverse ++ .ref b :: st) (hd : decode cc pc = .ok (.invokespecial index, 3)) (kk : ∀ σ' : Hp, P σ' → V p l e R s m args below meth c Q G N0 nL σ' (cu + mc) (su + ms) (pc + 3) lv st) : V p l e R s m args below meth c Q G N0 nL σ cu su pc lv stk :=
  V_callIN X hw hinst hy1 hM hn hR hcat hf hstk hd fun v σ' hv => by
  obtain ⟨rfl, hp⟩ := hv
  exact kk σ' hp
theorem V_mmax (X : EX p s m args meth c G N0 own cc nL) {index : Nat} {x y : Int32} (h1 : Cond.methodLink own index Lib.Math.max.name ∈ wAll) (h2 : Cond.static Lib.Math.max.name ∈ wAll) (h3 : Cond.initialized "java/lang/Math" ∈ wAll) (h4 : Cond.code Lib.Math.max.name Lib.Math.max.code 2 (some .int) ∈ wAll) (hcat : (st.map fun v => v.category).sum ≤ 8) (hR : 1 ≤ R.frames ∧ 25 ≤ R.locals) (hf : cu ≤ R.cells ∧ su ≤ R.slots) (hd : decode cc pc = .ok (.invokestatic index, 3)) (k : V p l e R s m args below meth c Q G N0 nL σ cu su (pc + 3) lv (.int (if x < y then y else x) :: st)) : V p l e R s m args below meth c Q G N0 nL σ cu su pc lv (.int y :: .int x :: st) := fun H locs ls hH hS hL =>
  va_mmax X.1 X.2.1 (by rw [X.2.2.1]; exact hL.1.symm) X.2.2.2.1 (X.2.2.2.2.1 _ h1) (X.2.2.2.2.1 _ h2) (X.2.2.2.2.1 _ h3) (X.2.2.2.2.1 _ h4) hR.1 (by omega) hf.1 hf.2 hd (k H locs ls hH hS hL)
theorem V_mmin (X : EX p s m args meth c G N0 own cc nL) {index : Nat} {x y : Int32} (h1 : Cond.methodLink own index Lib.Math.min.name ∈ wAll) (h2 : Cond.static Lib.Math.min.name ∈ wAll) (h3 : Cond.initialized "java/lang/Math" ∈ wAll) (h4 : Cond.code Lib.Math.min.name Lib.Math.min.code 2 (some .int) ∈ wAll) (hcat : (st.map fun v => v.category).sum ≤ 8) (hR : 1 ≤ R.frames ∧ 25 ≤ R.locals) (hf : cu ≤ R.cells ∧ su ≤ R.slots) (hd : decode cc pc = .ok (.invokestatic index, 3)) (k : V p l e R s m args below meth c Q G N0 nL σ cu su (pc + 3) lv (.int (if y < x then y else x) :: st)) : V p l e R s m args below meth c Q G N0 nL σ cu su pc lv (.int y :: .int x :: st) := fun H locs ls hH hS hL =>
  va_mmin X.1 X.2.1 (by rw [X.2.2.1]; exact hL.1.symm) X.2.2.2.1 (X.2.2.2.2.1 _ h1) (X.2.2.2.2.1 _ h2) (X.2.2.2.2.1 _ h3) (X.2.2.2.2.1 _ h4) hR.1 (by omega) hf.1 hf.2 hd (k H locs ls hH hS hL)
theorem V_mmaxl (X : EX p s m args meth c G N0 own cc nL) {index : Nat} {x y : Int64} (h1 : Cond.methodLink own index Lib.MathLoose.max_long.x ∈ wAll) (h2 : Cond.static Lib.MathLoose.max_long.x ∈ wAll) (h3 : Cond.initialized "java/lang/Math" ∈ wAll) (h4 : Cond.code Lib.MathLoose.max_long.x Lib.MathLoose.max_long.code 4 (some .long) ∈ wAll) (hcat : (st.map fun v => v.category).sum ≤ 8) (hR : 1 ≤ R.frames ∧ 25 ≤ R.locals) (hf : cu ≤ R.cells ∧ su ≤ R.slots) (hd : decode cc pc = .ok (.invokestatic index, 3)) (k : V p l e R s m args below meth c Q G N0 nL σ cu su (pc + 3) lv (.long (if y < x then x else y) :: st)) : V p l e R s m args below meth c Q G N0 nL σ cu su pc lv (.long y :: .long x :: st) := fun H locs ls hH hS hL =>
  va_mmax_long X.1 X.2.1 (by rw [X.2.2.1]; exact hL.1.symm) X.2.2.2.1 (X.2.2.2.2.1 _ h1) (X.2.2.2.2.1 _ h2) (X.2.2.2.2.1 _ h3) (X.2.2.2.2.1 _ h4) hR.1 (by omega) hf.1 hf.2 hd (k H locs ls hH hS hL)
theorem V_mminl (X : EX p s m args meth c G N0 own cc nL) {index : Nat} {x y : Int64} (h1 : Cond.methodLink own index Lib.MathLoose.min_long.x ∈ wAll) (h2 : Cond.static Lib.MathLoose.min_long.x ∈ wAll) (h3 : Cond.initialized "java/lang/Math" ∈ wAll) (h4 : Cond.code Lib.MathLoose.min_long.x Lib.MathLoose.min_long.code 4 (some .long) ∈ wAll) (hcat : (st.map fun v => v.category).sum ≤ 8) (hR : 1 ≤ R.frames ∧ 25 ≤ R.locals) (hf : cu ≤ R.cells ∧ su ≤ R.slots) (hd : decode cc pc = .ok (.invokestatic index, 3)) (k : V p l e R s m args below meth c Q G N0 nL σ cu su (pc + 3) lv (.long (if y < x then y else x) :: st)) : V p l e R s m args below meth c Q G N0 nL σ cu su pc lv (.long y :: .long x :: st) := fun H locs ls hH hS hL =>
  va_mmin_long X.1 X.2.1 (by rw [X.2.2.1]; exact hL.1.symm) X.2.2.2.1 (X.2.2.2.2.1 _ h1) (X.2.2.2.2.1 _ h2) (X.2.2.2.2.1 _ h3) (X.2.2.2.2.1 _ h4) hR.1 (by omega) hf.1 hf.2 hd (k H locs ls hH hS hL)
theorem V_ldcS (X : EX p s m args meth c G N0 own cc nL) {index i : Nat} {tx : String} (hi : vk_R own index tx (G.2.2.1 i) s) (hd : decode cc pc = .ok (.ldc index, 2)) (k : V p l e R s m args below meth c Q G N0 nL σ cu su (pc + 2) lv (.ref (G.2.2.1 i) :: st)) : V p l e R s m args below meth c Q G N0 nL σ cu su pc lv st := fun H locs ls hH hS hL => va_ldcS X.1 X.2.1 X.2.2.2.1 hi hd (k H locs ls hH hS hL)
end AUX
