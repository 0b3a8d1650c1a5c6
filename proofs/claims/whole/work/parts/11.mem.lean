theorem cF_of {G : GG} {σ : Hp} {a : Nat} {u : Nat × Nat} (h : gk σ a = some u) : cF G σ a = cE G σ a u := by simp [cF, h]
theorem cF_same {G : GG} {σ σ' : Hp} {b : Nat} (h1 : gk σ' b = gk σ b) (h2 : gi σ' b = gi σ b) (h3 : gl σ' b = gl σ b) (h4 : gr σ' b = gr σ b) : cF G σ' b = cF G σ b := by
  have h5 : ∀ t, fv σ' t b = fv σ t b := fun t => by
    funext k
    simp only [fv, h2, h3, h4]
  simp only [cF, cE, h1, h2, h4, h5]
theorem cE_obj {G : GG} {σ : Hp} {a t n : Nat} (ht : t < 10) : cE G σ a (t, n) = .inr (t, (List.range (ncl t)).map (fv σ t a)) := by
  show (if t < 10 then _ else _) = _
  rw [if_pos ht]
theorem cE_ia {G : GG} {σ : Hp} {a t n : Nat} (h1 : ¬ t < 10) (h2 : t < 12) : cE G σ a (t, n) = .inl (G.2.1 t, n, .inl (gi σ a)) := by
  show (if t < 10 then _ else if t < 12 then _ else _) = _
  rw [if_neg h1, if_pos h2]
theorem cE_qa {G : GG} {σ : Hp} {a t n : Nat} (h2 : ¬ t < 12) : cE G σ a (t, n) = .inl (G.2.1 t, n, .inr (.inr (.inr (.inr (gr σ a))))) := by
  show (if t < 10 then _ else if t < 12 then _ else _) = _
  rw [if_neg (by omega), if_neg h2]
theorem map_set_range {f g : Nat → Value} {N k : Nat} {v : Value} (hv : g k = v) (ho : ∀ j, j ≠ k → g j = f j) : ((List.range N).map f).set k v = (List.range N).map g := by
  apply List.ext_getElem?
  intro j
  by_cases hj : j = k
  · subst hj
    by_cases hN : j < N
    · rw [List.getElem?_set_self (by simpa using hN)]
      simp [List.getElem?_range hN, hv]
    · rw [List.getElem?_eq_none (by simp; omega), List.getElem?_eq_none (by simp; omega)]
  · rw [List.getElem?_set_ne (Ne.symm hj)]
    by_cases hN : j < N
    · simp [List.getElem?_range hN, ho j hj]
    · rw [List.getElem?_eq_none (by simp; omega), List.getElem?_eq_none (by simp; omega)]
theorem HP.at {G : GG} {N0 : Nat} {σ : Hp} {H : Heap} {L : List Nat} (hdom : ∀ a : Nat, gk σ a ≠ none ↔ a ∈ L) {a : Nat} {u : Nat × Nat} (h : gk σ a = some u) : ∃ k : Nat, (va_pl L (cF G σ))[k]? = some (a, cE G σ a u) ∧ (va_pl L (cF G σ))[k]? = some (a, cF G σ a) ∧ a ∈ L := by
  have hm : a ∈ L := (hdom a).mp (by rw [h]; exact fun q => by cases q)
  obtain ⟨k, hk⟩ := va_pl_get (X := []) (f := cF G σ) hm
  exact ⟨k, by rw [← cF_of h]; exact hk, hk, hm⟩
/-- a heap picture with one cell changed -/
theorem HP.put {G : GG} {N0 : Nat} {σ σ' : Hp} {H : Heap} {L : List Nat} {a k : Nat} {e : va_E} (hdom : ∀ a : Nat, gk σ a ≠ none ↔ a ∈ L) (hD0 : va_D (AN N0) (va_pl L (cF G σ))) (hm : a ∈ L) (hk : (va_pl L (cF G σ))[k]? = some (a, cF G σ a))
    (hP : va_P G.1 vwCl ((va_pl L (cF G σ)).set k (a, e)) H) (hD : va_D (AN N0) ((va_pl L (cF G σ)).set k (a, e))) (hkd : ∀ b, gk σ' b = gk σ b) (he : cF G σ' a = e) (ho : ∀ b, b ≠ a → gi σ' b = gi σ b ∧ gl σ' b = gl σ b ∧ gr σ' b = gr σ b) : HP G N0 σ' H := by
  have hs : (va_pl L (cF G σ)).set k (a, e) = va_pl L (va_up (cF G σ) a e) := va_pl_set (X := []) hD0 hm hk
  have hq : va_pl L (va_up (cF G σ) a e) = va_pl L (cF G σ') := va_pl_congr fun b => by
    by_cases hb : b = a
    · subst hb
      rw [va_up_self, he]
    · rw [va_up_ne _ _ hb]
      obtain ⟨h2, h3, h4⟩ := ho b hb
      exact (cF_same (hkd b) h2 h3 h4).symm
  rw [hs, hq] at hP hD
  exact ⟨L, fun b => by rw [hkd b]; exact hdom b, hP, hD⟩
theorem up2_ne {α : Type} (f : Nat → Nat → α) {a b : Nat} (k : Nat) (v : α) (h : b ≠ a) : up2 f a k v b = f b := by
  funext j
  simp [up2, h]
theorem si_ne (σ : Hp) {a b : Nat} (k : Nat) (v : Int32) (h : b ≠ a) : gi (si σ a k v) b = gi σ b ∧ gl (si σ a k v) b = gl σ b ∧ gr (si σ a k v) b = gr σ b := ⟨up2_ne _ _ _ h, rfl, rfl⟩
theorem sl_ne (σ : Hp) {a b : Nat} (k : Nat) (v : Int64) (h : b ≠ a) : gi (sl σ a k v) b = gi σ b ∧ gl (sl σ a k v) b = gl σ b ∧ gr (sl σ a k v) b = gr σ b := ⟨rfl, up2_ne _ _ _ h, rfl⟩
theorem sr_ne (σ : Hp) {a b : Nat} (k : Nat) (v : Option Nat) (h : b ≠ a) : gi (sr σ a k v) b = gi σ b ∧ gl (sr σ a k v) b = gl σ b ∧ gr (sr σ a k v) b = gr σ b := ⟨rfl, rfl, up2_ne _ _ _ h⟩
/-- a field by its place in a class file -/
def FP (own : String) (index t k : Nat) (ty : FieldType) (fin : Bool) : Prop := ∃ (r : vw_C) (ty0 : Nat → FieldType), vwCl[t]? = some r ∧ k < r.2.2 ∧ k < ncl t ∧ t < 10 ∧ (∀ w ∈ u_ws r.1 r.2.1 r.2.2, w ∈ wAll) ∧ Cond.fieldLink own index (r.2.1 k).1 (r.2.1 k).2.1 (r.2.1 k).2.2.1 ∈ wAll ∧
  (∀ j, j < r.2.2 → parseFieldDescriptor (r.2.1 j).2.2.1 = some (ty0 j)) ∧ (∀ a, a < r.2.2 → ∀ b, b < r.2.2 → a ≠ b → (r.2.1 a).2.1 ≠ (r.2.1 b).2.1) ∧ (r.2.1 k).2.2.2 = fin ∧ ty0 k = ty
/-- a class that is made -/
def dv (t k : Nat) : Value := match fty t k with
  | 0 => .int 0
  | 1 => .long 0
  | _ => .null
def NP (own : String) (index t : Nat) : Prop := ∃ (r : vw_C) (ty0 : Nat → FieldType), vwCl[t]? = some r ∧ t < 10 ∧ r.2.2 = ncl t ∧ (∀ w ∈ u_ws r.1 r.2.1 r.2.2, w ∈ wAll) ∧ Cond.classLink own index r.1 ∈ wAll ∧ Cond.instantiable r.1 r.2.2 ∈ wAll ∧ Cond.initialized r.1 ∈ wAll ∧
  (∀ j, j < r.2.2 → parseFieldDescriptor (r.2.1 j).2.2.1 = some (ty0 j)) ∧ (∀ j, j < r.2.2 → defaultValue (ty0 j) = vp_V ((List.range (ncl t)).map (dv t)) j)
section MEM
variable {p : Program} {l : Launch} {e : Env} {R : Room} {s : State} {m : MethodId} {args : Array Value} {below : List Frame} {meth : Method} {c : Code} {Q : State → Prop} {G : GG} {N0 : Nat} {own : String} {cc : ByteArray} {nL : Nat}
variable {σ : Hp} {cu su pc : Nat} {lv lv' : List (Nat × Value)} {st : List Value}
theorem V_get (X : EX p s m args meth c G N0 own cc nL) {index t k n a : Nat} {ty : FieldType} {fin : Bool} (hf : FP own index t k ty fin) (hkd : gk σ a = some (t, n)) (hd : decode cc pc = .ok (.getfield index, 3)) (kk : V p l e R s m args below meth c Q G N0 nL σ cu su (pc + 3) lv (fv σ t a k :: st)) : V p l e R s m args below meth c Q G N0 nL σ cu su pc lv (.ref a :: st) := by
  intro H locs ls hH hS hL
  obtain ⟨L, hdom, hP, hD⟩ := id hH
  obtain ⟨r, ty0, hc, hkN, hkn, ht, hin, hlk, hty, hnm, hfin, he⟩ := hf
  obtain ⟨q, hq, -, hm⟩ := HP.at (N0 := N0) (H := H) (G := G) hdom hkd
  rw [cE_obj ht] at hq
  exact va_get (D := G.1) X.1 X.2.1 X.2.2.2.2.1 hin X.2.2.2.1 X.2.2.2.2.2.2.1.1 hP q hq hc k hkN (X.2.2.2.2.1 _ hlk) (fun _ h => h) (by simp [List.getElem?_range hkn]) hd (kk H locs ls hH hS hL)
theorem V_geti (X : EX p s m args meth c G N0 own cc nL) {index t k n a : Nat} {ty : FieldType} {fin : Bool} (hf : FP own index t k ty fin) (h0 : fty t k = 0) (hkd : gk σ a = some (t, n)) (hd : decode cc pc = .ok (.getfield index, 3)) (kk : V p l e R s m args below meth c Q G N0 nL σ cu su (pc + 3) lv (.int (gi σ a k) :: st)) : V p l e R s m args below meth c Q G N0 nL σ cu su pc lv (.ref a :: st) :=
  V_get X hf hkd hd (by rw [show fv σ t a k = .int (gi σ a k) by simp [fv, h0]]; exact kk)
theorem V_getl (X : EX p s m args meth c G N0 own cc nL) {index t k n a : Nat} {ty : FieldType} {fin : Bool} (hf : FP own index t k ty fin) (h0 : fty t k = 1) (hkd : gk σ a = some (t, n)) (hd : decode cc pc = .ok (.getfield index, 3)) (kk : V p l e R s m args below meth c Q G N0 nL σ cu su (pc + 3) lv (.long (gl σ a k) :: st)) : V p l e R s m args below meth c Q G N0 nL σ cu su pc lv (.ref a :: st) :=
  V_get X hf hkd hd (by rw [show fv σ t a k = .long (gl σ a k) by simp [fv, h0]]; exact kk)
theorem V_getr (X : EX p s m args meth c G N0 own cc nL) {index t k n a : Nat} {ty : FieldType} {fin : Bool} (hf : FP own index t k ty fin) (h0 : fty t k = 2) (hkd : gk σ a = some (t, n)) (hd : decode cc pc = .ok (.getfield index, 3)) (kk : V p l e R s m args below meth c Q G N0 nL σ cu su (pc + 3) lv (va_rf (gr σ a k) :: st)) : V p l e R s m args below meth c Q G N0 nL σ cu su pc lv (.ref a :: st) :=
  V_get X hf hkd hd (by rw [show fv σ t a k = va_rf (gr σ a k) by simp [fv, h0]]; exact kk)
theorem V_put (X : EX p s m args meth c G N0 own cc nL) {σ' : Hp} {index t k n a : Nat} {v : Value} {ty : FieldType} {fin : Bool} (hf : FP own index t k ty fin) (hinit : fin = true → meth.name = "<init>" ∧ (vwCl[t]?).map (fun r => (r.2.1 k).1) = some own) (hkd : gk σ a = some (t, n)) (hn : narrow ty v = v) (hfit : fits ty v = true) (hkd' : ∀ b, gk σ' b = gk σ b) (hv : fv σ' t a k = v) (hj : ∀ j, j ≠ k → fv σ' t a j = fv σ t a j) (ho : ∀ b, b ≠ a → gi σ' b = gi σ b ∧ gl σ' b = gl σ b ∧ gr σ' b = gr σ b) (hd : decode cc pc = .ok (.putfield index, 3)) (kk : V p l e R s m args below meth c Q G N0 nL σ' cu su (pc + 3) lv st) : V p l e R s m args below meth c Q G N0 nL σ cu su pc lv (v :: .ref a :: st) := by
  intro H locs ls hH hS hL
  obtain ⟨L, hdom, hP, hD⟩ := id hH
  obtain ⟨r, ty0, hc, hkN, hkn, ht, hin, hlk, hty, hnm, hfin, he⟩ := hf
  obtain ⟨q, hq, hq2, hm⟩ := HP.at (N0 := N0) (H := H) (G := G) hdom hkd
  rw [cE_obj ht] at hq
  subst he
  have hfin' : ∀ (H1 : Heap) (locs1 : List Loc), va_P G.1 vwCl ((va_pl L (cF G σ)).set q (a, .inr (t, ((List.range (ncl t)).map (fv σ t a)).set k v))) H1 → va_D (AN N0) ((va_pl L (cF G σ)).set q (a, .inr (t, ((List.range (ncl t)).map (fv σ t a)).set k v))) → va_S (AN N0) s.heap H1 locs1 → W p l e R s m args below meth c H1 locs1 cu su Q (F0 m (pc + 3) ls st) := by
    intro H1 locs1 hP1 hD1 hS1
    refine kk H1 locs1 ls (HP.put hdom hD hm hq2 hP1 hD1 hkd' ?_ ho) hS1 hL
    rw [cF_of (show gk σ' a = some (t, n) by rw [hkd' a]; exact hkd), cE_obj ht, map_set_range hv hj]
  cases fin with
  | false => exact va_put (D := G.1) X.1 X.2.1 X.2.2.2.2.1 hin ty0 hty hnm X.2.2.2.1 X.2.2.2.2.2.2.1.1 hP hD hS q hq hc k hkN (X.2.2.2.2.1 _ hlk) (fun _ h => h) hfin (hty k hkN) hn hfit (by simpa using hkn) hd hfin'
  | true => exact va_putF (D := G.1) X.1 X.2.1 X.2.2.2.2.1 hin ty0 hty hnm X.2.2.2.1 X.2.2.2.2.2.2.1.1 hP hD hS q hq hc k hkN (X.2.2.2.2.1 _ hlk) (fun _ h => h) hfin (hinit rfl).1 (by have := (hinit rfl).2; rw [hc] at this; exact Option.some.inj this) (hty k hkN) hn hfit (by simpa using hkn) hd hfin'
theorem V_puti (X : EX p s m args meth c G N0 own cc nL) {index t k n a : Nat} {v : Int32} {ty : FieldType} {fin : Bool} (hf : FP own index t k ty fin) (hinit : fin = true → meth.name = "<init>" ∧ (vwCl[t]?).map (fun r => (r.2.1 k).1) = some own) (h0 : fty t k = 0) (hkd : gk σ a = some (t, n)) (hz : ty = .int ∨ ty = .boolean ∧ (v = 0 ∨ v = 1)) (hd : decode cc pc = .ok (.putfield index, 3)) (kk : V p l e R s m args below meth c Q G N0 nL (si σ a k v) cu su (pc + 3) lv st) : V p l e R s m args below meth c Q G N0 nL σ cu su pc lv (.int v :: .ref a :: st) := by
  refine V_put (σ' := si σ a k v) X hf hinit hkd ?_ ?_ (fun _ => rfl) (by simp [fv, h0, gi_si]) (fun j hj => by simp [fv, gi_si, gl_si, gr_si, hj]) (fun b hb => si_ne σ k v hb) hd kk
  · rcases hz with rfl | ⟨rfl, rfl | rfl⟩ <;> rfl
  · rcases hz with rfl | ⟨rfl, rfl | rfl⟩ <;> first | rfl | decide
theorem V_putl (X : EX p s m args meth c G N0 own cc nL) {index t k n a : Nat} {v : Int64} {fin : Bool} (hf : FP own index t k .long fin) (hinit : fin = true → meth.name = "<init>" ∧ (vwCl[t]?).map (fun r => (r.2.1 k).1) = some own) (h0 : fty t k = 1) (hkd : gk σ a = some (t, n)) (hd : decode cc pc = .ok (.putfield index, 3)) (kk : V p l e R s m args below meth c Q G N0 nL (sl σ a k v) cu su (pc + 3) lv st) : V p l e R s m args below meth c Q G N0 nL σ cu su pc lv (.long v :: .ref a :: st) :=
  V_put (σ' := sl σ a k v) X hf hinit hkd rfl rfl (fun _ => rfl) (by simp [fv, h0, gl_sl]) (fun j hj => by simp [fv, gi_sl, gl_sl, gr_sl, hj]) (fun b hb => sl_ne σ k v hb) hd kk
theorem V_putr (X : EX p s m args meth c G N0 own cc nL) {index t k n a : Nat} {v : Option Nat} {ty : FieldType} {fin : Bool} (hf : FP own index t k ty fin) (hinit : fin = true → meth.name = "<init>" ∧ (vwCl[t]?).map (fun r => (r.2.1 k).1) = some own) (h0 : fty t k = 2) (hkd : gk σ a = some (t, n)) (hty : (∃ C, ty = .object C) ∨ ∃ C, ty = .array C) (hd : decode cc pc = .ok (.putfield index, 3)) (kk : V p l e R s m args below meth c Q G N0 nL (sr σ a k v) cu su (pc + 3) lv st) : V p l e R s m args below meth c Q G N0 nL σ cu su pc lv (va_rf v :: .ref a :: st) := by
  refine V_put (σ' := sr σ a k v) X hf hinit hkd ?_ ?_ (fun _ => rfl) (by simp [fv, h0, gr_sr]) (fun j hj => by simp [fv, gi_sr, gl_sr, gr_sr, hj]) (fun b hb => sr_ne σ k v hb) hd kk
  · cases v <;> rcases hty with ⟨C, rfl⟩ | ⟨C, rfl⟩ <;> rfl
  · cases v <;> rcases hty with ⟨C, rfl⟩ | ⟨C, rfl⟩ <;> rfl
theorem V_iald (X : EX p s m args meth c G N0 own cc nL) {n a : Nat} {i : Int32} (hkd : gk σ a = some (10, n)) (hin : vp_in i n) (hd : decode cc pc = .ok (.iaload, 1)) (kk : V p l e R s m args below meth c Q G N0 nL σ cu su (pc + 1) lv (.int (gi σ a i.toNatClampNeg) :: st)) : V p l e R s m args below meth c Q G N0 nL σ cu su pc lv (.int i :: .ref a :: st) := by
  intro H locs ls hH hS hL
  obtain ⟨L, hdom, hP, hD⟩ := id hH
  obtain ⟨q, hq, -, hm⟩ := HP.at (N0 := N0) (H := H) (G := G) hdom hkd
  rw [cE_ia (by decide) (by decide)] at hq
  exact va_iald (D := G.1) X.1 X.2.1 X.2.2.2.2.2.2.1.1 hP q 0 hq rfl hin hd (kk H locs ls hH hS hL)
theorem V_zald (X : EX p s m args meth c G N0 own cc nL) {n a : Nat} {i : Int32} (hkd : gk σ a = some (11, n)) (hin : vp_in i n) (hd : decode cc pc = .ok (.baload, 1)) (kk : V p l e R s m args below meth c Q G N0 nL σ cu su (pc + 1) lv (.int (gi σ a i.toNatClampNeg) :: st)) : V p l e R s m args below meth c Q G N0 nL σ cu su pc lv (.int i :: .ref a :: st) := by
  intro H locs ls hH hS hL
  obtain ⟨L, hdom, hP, hD⟩ := id hH
  obtain ⟨q, hq, -, hm⟩ := HP.at (N0 := N0) (H := H) (G := G) hdom hkd
  rw [cE_ia (by decide) (by decide)] at hq
  exact va_zald (D := G.1) X.1 X.2.1 X.2.2.2.2.2.2.1.1 hP q 1 hq rfl hin hd (kk H locs ls hH hS hL)
theorem V_aald (X : EX p s m args meth c G N0 own cc nL) {t n a : Nat} {i : Int32} (ht : t = 12 ∨ t = 13) (hkd : gk σ a = some (t, n)) (hin : vp_in i n) (hd : decode cc pc = .ok (.aaload, 1)) (kk : V p l e R s m args below meth c Q G N0 nL σ cu su (pc + 1) lv (va_rf (gr σ a i.toNatClampNeg) :: st)) : V p l e R s m args below meth c Q G N0 nL σ cu su pc lv (.int i :: .ref a :: st) := by
  intro H locs ls hH hS hL
  obtain ⟨L, hdom, hP, hD⟩ := id hH
  obtain ⟨q, hq, -, hm⟩ := HP.at (N0 := N0) (H := H) (G := G) hdom hkd
  rw [cE_qa (by rcases ht with rfl | rfl <;> decide)] at hq
  rcases ht with rfl | rfl
  · exact va_aldq (D := G.1) X.1 X.2.1 X.2.2.2.2.2.2.1.1 hP q 2 hq rfl hin hd (kk H locs ls hH hS hL)
  · exact va_aldq (D := G.1) X.1 X.2.1 X.2.2.2.2.2.2.1.1 hP q 3 hq rfl hin hd (kk H locs ls hH hS hL)
theorem si_upd (σ : Hp) (a k : Nat) (v : Int32) : gi (si σ a k v) a = upd (gi σ a) k v := by
  funext j
  show up2 σ.2.1 a k v a j = _
  simp [up2, upd]
  rfl
theorem sr_upd (σ : Hp) (a k : Nat) (v : Option Nat) : gr (sr σ a k v) a = va_up (gr σ a) k v := by
  funext j
  show up2 σ.2.2.2 a k v a j = _
  simp [up2, va_up]
  rfl
theorem V_iast (X : EX p s m args meth c G N0 own cc nL) {n a : Nat} {i x : Int32} (hkd : gk σ a = some (10, n)) (hin : vp_in i n) (hd : decode cc pc = .ok (.iastore, 1)) (kk : V p l e R s m args below meth c Q G N0 nL (si σ a i.toNatClampNeg x) cu su (pc + 1) lv st) : V p l e R s m args below meth c Q G N0 nL σ cu su pc lv (.int x :: .int i :: .ref a :: st) := by
  intro H locs ls hH hS hL
  obtain ⟨L, hdom, hP, hD⟩ := id hH
  obtain ⟨q, hq, hq2, hm⟩ := HP.at (N0 := N0) (H := H) (G := G) hdom hkd
  rw [cE_ia (by decide) (by decide)] at hq
  refine va_iast (D := G.1) X.1 X.2.1 X.2.2.2.2.2.2.1.1 hP hD hS q 0 hq rfl hin hd fun H1 locs1 hP1 hD1 hS1 => kk H1 locs1 ls (HP.put hdom hD hm hq2 hP1 hD1 (fun _ => rfl) ?_ (fun b hb => si_ne σ _ x hb)) hS1 hL
  rw [cF_of (show gk (si σ a i.toNatClampNeg x) a = some (10, n) from hkd), cE_ia (by decide) (by decide), si_upd]
theorem V_zast (X : EX p s m args meth c G N0 own cc nL) {n a : Nat} {i x : Int32} (hkd : gk σ a = some (11, n)) (hin : vp_in i n) (hx : x = 0 ∨ x = 1) (hd : decode cc pc = .ok (.bastore, 1)) (kk : V p l e R s m args below meth c Q G N0 nL (si σ a i.toNatClampNeg x) cu su (pc + 1) lv st) : V p l e R s m args below meth c Q G N0 nL σ cu su pc lv (.int x :: .int i :: .ref a :: st) := by
  intro H locs ls hH hS hL
  obtain ⟨L, hdom, hP, hD⟩ := id hH
  obtain ⟨q, hq, hq2, hm⟩ := HP.at (N0 := N0) (H := H) (G := G) hdom hkd
  rw [cE_ia (by decide) (by decide)] at hq
  have hnx : vp_nar .boolean x = x := by rcases hx with rfl | rfl <;> decide
  refine va_zast (D := G.1) X.1 X.2.1 X.2.2.2.2.2.2.1.1 hP hD hS q 1 hq rfl hin hd fun H1 locs1 hP1 hD1 hS1 => kk H1 locs1 ls (HP.put hdom hD hm hq2 hP1 hD1 (fun _ => rfl) ?_ (fun b hb => si_ne σ _ x hb)) hS1 hL
  rw [cF_of (show gk (si σ a i.toNatClampNeg x) a = some (11, n) from hkd), cE_ia (by decide) (by decide), si_upd, hnx]
theorem V_aast (X : EX p s m args meth c G N0 own cc nL) {t tv n a : Nat} {i : Int32} {x : Option Nat} (ht : t = 12 ∧ tv = 3 ∨ t = 13 ∧ tv = 4) (hkd : gk σ a = some (t, n)) (hin : vp_in i n) (hx : ∀ v, x = some v → ∃ z, gk σ v = some (tv, z)) (hd : decode cc pc = .ok (.aastore, 1)) (kk : V p l e R s m args below meth c Q G N0 nL (sr σ a i.toNatClampNeg x) cu su (pc + 1) lv st) : V p l e R s m args below meth c Q G N0 nL σ cu su pc lv (va_rf x :: .int i :: .ref a :: st) := by
  intro H locs ls hH hS hL
  obtain ⟨L, hdom, hP, hD⟩ := id hH
  obtain ⟨q, hq, hq2, hm⟩ := HP.at (N0 := N0) (H := H) (G := G) hdom hkd
  have ht12 : ¬ t < 12 := by rcases ht with ⟨rfl, -⟩ | ⟨rfl, -⟩ <;> decide
  rw [cE_qa ht12] at hq
  have hfin : ∀ (H1 : Heap) (locs1 : List Loc), va_P G.1 vwCl ((va_pl L (cF G σ)).set q (a, .inl (G.2.1 t, n, .inr (.inr (.inr (.inr (va_up (gr σ a) i.toNatClampNeg x))))))) H1 → va_D (AN N0) ((va_pl L (cF G σ)).set q (a, .inl (G.2.1 t, n, .inr (.inr (.inr (.inr (va_up (gr σ a) i.toNatClampNeg x))))))) → va_S (AN N0) s.heap H1 locs1 → W p l e R s m args below meth c H1 locs1 cu su Q (F0 m (pc + 1) ls st) := by
    intro H1 locs1 hP1 hD1 hS1
    refine kk H1 locs1 ls (HP.put hdom hD hm hq2 hP1 hD1 (fun _ => rfl) ?_ (fun b hb => sr_ne σ _ x hb)) hS1 hL
    rw [cF_of (show gk (sr σ a i.toNatClampNeg x) a = some (t, n) from hkd), cE_qa ht12, sr_upd]
  cases x with
  | none =>
    rcases ht with ⟨rfl, rfl⟩ | ⟨rfl, rfl⟩
    · exact va_astqN (D := G.1) X.1 X.2.1 X.2.2.2.2.2.2.1.1 hP hD hS q 2 hq rfl hin hd hfin
    · exact va_astqN (D := G.1) X.1 X.2.1 X.2.2.2.2.2.2.1.1 hP hD hS q 3 hq rfl hin hd hfin
  | some v =>
    obtain ⟨z, hz⟩ := hx v rfl
    obtain ⟨qv, hqv, -, -⟩ := HP.at (N0 := N0) (H := H) (G := G) hdom hz
    rcases ht with ⟨rfl, rfl⟩ | ⟨rfl, rfl⟩
    · rw [cE_obj (by decide)] at hqv
      exact va_astq (D := G.1) X.1 X.2.1 X.2.2.2.2.2.2.1.1 hP hD hS q 2 qv 3 (r := (RX3, TX3, 2)) hq rfl hqv rfl hin hd hfin
    · rw [cE_obj (by decide)] at hqv
      exact va_astq (D := G.1) X.1 X.2.1 X.2.2.2.2.2.2.1.1 hP hD hS q 3 qv 4 (r := (RX4, TX4, 6)) hq rfl hqv rfl hin hd hfin
theorem V_alen (X : EX p s m args meth c G N0 own cc nL) {t n a : Nat} (ht : t = 10 ∨ t = 11 ∨ t = 12 ∨ t = 13) (hkd : gk σ a = some (t, n)) (hd : decode cc pc = .ok (.arraylength, 1)) (kk : V p l e R s m args below meth c Q G N0 nL σ cu su (pc + 1) lv (.int (Int32.ofNat n) :: st)) : V p l e R s m args below meth c Q G N0 nL σ cu su pc lv (.ref a :: st) := by
  intro H locs ls hH hS hL
  obtain ⟨L, hdom, hP, hD⟩ := id hH
  obtain ⟨q, hq, -, hm⟩ := HP.at (N0 := N0) (H := H) (G := G) hdom hkd
  rcases ht with rfl | rfl | rfl | rfl
  · rw [cE_ia (by decide) (by decide)] at hq
    exact va_alen (D := G.1) X.1 X.2.1 X.2.2.2.2.2.2.1.1 hP q 0 hq rfl rfl hd (kk H locs ls hH hS hL)
  · rw [cE_ia (by decide) (by decide)] at hq
    exact va_alen (D := G.1) X.1 X.2.1 X.2.2.2.2.2.2.1.1 hP q 1 hq rfl rfl hd (kk H locs ls hH hS hL)
  · rw [cE_qa (by decide)] at hq
    exact va_alen (D := G.1) X.1 X.2.1 X.2.2.2.2.2.2.1.1 hP q 2 hq rfl rfl hd (kk H locs ls hH hS hL)
  · rw [cE_qa (by decide)] at hq
    exact va_alen (D := G.1) X.1 X.2.1 X.2.2.2.2.2.2.1.1 hP q 3 hq rfl rfl hd (kk H locs ls hH hS hL)
end MEM
