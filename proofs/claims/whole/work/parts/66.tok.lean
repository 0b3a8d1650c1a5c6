/-! the text: its bytes, its tokens, and the shape that it spells -/
def byt (t : G2) (i : Nat) : Int32 := if i < t.1 then t.2 i else -1
def isL (b : Int32) : Bool := decide (97 ≤ b.toInt ∧ b.toInt ≤ 122)
def isD (b : Int32) : Bool := decide (48 ≤ b.toInt ∧ b.toInt ≤ 57)
def isB (b : Int32) : Bool := decide (b = 32)
/-- from p on as long as f holds, m at most -/
def run (t : G2) (f : Int32 → Bool) : Nat → Nat → Nat
  | 0, p => p
  | m + 1, p => if f (byt t p) = true then run t f m (p + 1) else p
def skp (t : G2) (p : Nat) : Nat := run t isB (200 - p) p
def tnd (t : G2) (s : Nat) : Nat := if byt t s = -1 then s else if isL (byt t s) = true then run t isL (200 - (s + 1)) (s + 1) else if isD (byt t s) = true then run t isD (200 - (s + 1)) (s + 1) else s + 1
/-- the token looked at (from, to), the shape so far, and of each part how many braces it is within -/
abbrev PS : Type := Nat × Nat × SHT × (Nat → Nat)
def adv (t : G2) (x : PS) : PS := (skp t x.2.1, tnd t (skp t x.2.1), x.2.2)
abbrev sgn (t : G2) (x : PS) (v : Int32) : Prop := byt t x.1 = v
def tab (t : G2) (x : PS) : Int32 := if x.2.1 = x.1 + 1 ∧ 97 ≤ (byt t x.1).toInt ∧ (byt t x.1).toInt ≤ 100 then byt t x.1 - 97 else -1
abbrev wrd (t : G2) (x : PS) (w : List Int32) : Prop := x.2.1 = x.1 + w.length ∧ ∀ i, i < w.length → byt t (x.1 + i) = w.getD i 0
abbrev rok (t : G2) (x : PS) : Prop := (∀ i, i < x.2.1 - 1 - x.1 → byt t (x.1 + i) = 48) ∧ isD (byt t x.1) = true ∧ (byt t (x.2.1 - 1) = 48 ∨ byt t (x.2.1 - 1) = 49)
def rfh (t : G2) (x : PS) : Int32 := if rok t x then byt t (x.2.1 - 1) - 48 else -1
abbrev nP (x : PS) : Nat := x.2.2.1.1
abbrev nT (x : PS) : Nat := x.2.2.1.2.2.1
abbrev itx (x : PS) : Nat → Nat × Nat × Nat × Nat := x.2.2.1.2.2.2
def addP (x : PS) (d : Nat) (tb : Int32) : PS := (x.1, x.2.1, (x.2.2.1.1 + 1, (fun q => if q = x.2.2.1.1 then tb else x.2.2.1.2.1 q), x.2.2.1.2.2), fun q => if q = x.2.2.1.1 then d else x.2.2.2 q)
def addI (x : PS) (it : Nat × Nat × Nat × Nat) : PS := (x.1, x.2.1, (x.2.2.1.1, x.2.2.1.2.1, x.2.2.1.2.2.1 + 1, fun q => if q = x.2.2.1.2.2.1 then it else x.2.2.1.2.2.2 q), x.2.2.2)
abbrev RES : Type := Bool × PS
def wV : List Int32 := [118]
def wU : List Int32 := [117, 112]
def wD : List Int32 := [100, 111, 119, 110]
/-- what an item of part p adds to the shape, up or down -/
abbrev itU (t : G2) (x : PS) (p : Nat) : Nat × Nat × Nat × Nat := (p, (if wrd t x wU then 1 else 2), (rfh t (adv t x)).toNatClampNeg, nP x)
def itm (t : G2) (g : Nat → PS → RES) (p d : Nat) (x : PS) : RES :=
  if wrd t x wV then (true, adv t (addI x (p, 0, 0, 0)))
  else if wrd t x wU ∨ wrd t x wD then
    (if rfh t (adv t x) = -1 then (false, adv t x) else g d (addI (adv t (adv t x)) (itU t x p)))
  else (false, x)
def itms (t : G2) (g : Nat → PS → RES) (p d : Nat) : Nat → PS → RES
  | 0, x => (false, x)
  | m + 1, x => if (itm t g p d x).1 = false then (false, (itm t g p d x).2) else if sgn t (itm t g p d x).2 125 then (true, adv t (itm t g p d x).2) else if sgn t (itm t g p d x).2 44 then itms t g p d m (adv t (itm t g p d x).2) else (false, (itm t g p d x).2)
/-- the state behind a part's table -/
abbrev pA (t : G2) (d : Nat) (x : PS) : PS := adv t (addP x d (tab t x))
def prt (t : G2) (M : Nat) : Nat → Nat → PS → RES
  | 0, _, x => (false, x)
  | D + 1, d, x => if tab t x = -1 ∨ ¬ nP x < 20 then (false, x) else if ¬ sgn t (pA t d x) 123 then (true, pA t d x) else if ¬ d < 6 then (false, pA t d x) else itms t (prt t M D) (nP x) (d + 1) M (adv t (pA t d x))
def ps0 : PS := (0, 0, (0, (fun _ => 0), 0, fun _ => (0, 0, 0, 0)), fun _ => 0)
def txt (t : G2) (M D : Nat) : RES := if (prt t M D 0 (adv t ps0)).1 = false then (false, (prt t M D 0 (adv t ps0)).2) else if (prt t M D 0 (adv t ps0)).2.1 < t.1 then (false, (prt t M D 0 (adv t ps0)).2) else (true, (prt t M D 0 (adv t ps0)).2)
/-- bytes are no less than 0 -/
def TOK (t : G2) : Prop := t.1 ≤ 200 ∧ ∀ i, i < t.1 → 0 ≤ (t.2 i).toInt
theorem byt_in {t : G2} (hT : TOK t) {i : Nat} (h : byt t i ≠ -1) : i < t.1 := Classical.byContradiction fun z => h (by unfold byt; rw [if_neg z])
theorem byt_nn {t : G2} (hT : TOK t) {i : Nat} (h : i < t.1) : 0 ≤ (byt t i).toInt := by
  unfold byt; rw [if_pos h]; exact hT.2 i h
theorem byt_m1 {t : G2} (hT : TOK t) {i : Nat} : byt t i = -1 ↔ t.1 ≤ i := by
  constructor
  · intro h
    refine Classical.byContradiction fun z => ?_
    have := byt_nn hT (show i < t.1 by omega)
    rw [h] at this
    exact absurd this (by decide)
  · intro h
    unfold byt; rw [if_neg (by omega)]
theorem run_ge (t : G2) (f : Int32 → Bool) : ∀ m p, p ≤ run t f m p
  | 0, p => Nat.le_refl p
  | m + 1, p => by
    unfold run
    split
    · have := run_ge t f m (p + 1); omega
    · exact Nat.le_refl p
theorem run_le {t : G2} (hT : TOK t) {f : Int32 → Bool} (hf : f (-1) = false) : ∀ m p, p ≤ t.1 → run t f m p ≤ t.1
  | 0, p, h => h
  | m + 1, p, h => by
    unfold run
    split
    · rename_i q
      have : p < t.1 := byt_in hT (fun z => by rw [z, hf] at q; cases q)
      exact run_le hT hf m (p + 1) (by omega)
    · exact h
theorem isB_m1 : isB (-1) = false := by decide
theorem isL_m1 : isL (-1) = false := by decide
theorem isD_m1 : isD (-1) = false := by decide
theorem skp_ge (t : G2) (p : Nat) : p ≤ skp t p := run_ge t _ _ _
theorem skp_le {t : G2} (hT : TOK t) {p : Nat} (h : p ≤ t.1) : skp t p ≤ t.1 := run_le hT isB_m1 _ _ h
theorem tnd_s {t : G2} (hT : TOK t) {s : Nat} (h : s < t.1) : s + 1 ≤ tnd t s ∧ tnd t s ≤ t.1 := by
  unfold tnd
  rw [if_neg (fun z => by have := (byt_m1 hT).mp z; omega)]
  split
  · exact ⟨run_ge _ _ _ _, run_le hT isL_m1 _ _ (by omega)⟩
  · split
    · exact ⟨run_ge _ _ _ _, run_le hT isD_m1 _ _ (by omega)⟩
    · exact ⟨Nat.le_refl _, by omega⟩
theorem tnd_e {t : G2} (hT : TOK t) {s : Nat} (h : t.1 ≤ s) : tnd t s = s := by
  unfold tnd
  rw [if_pos ((byt_m1 hT).mpr h)]
/-- the token looked at is one -/
def TKW (t : G2) (x : PS) : Prop := x.1 ≤ t.1 ∧ x.2.1 = tnd t x.1
theorem TKW.le {t : G2} {x : PS} (hT : TOK t) (h : TKW t x) : x.1 ≤ x.2.1 ∧ x.2.1 ≤ t.1 ∧ x.1 ≤ t.1 := by
  obtain ⟨h1, h2⟩ := h
  rw [h2]
  by_cases hs : x.1 < t.1
  · have := tnd_s hT hs; omega
  · have := tnd_e hT (show t.1 ≤ x.1 by omega); omega
theorem adv_ok {t : G2} {x : PS} (hT : TOK t) (h : x.2.1 ≤ t.1) : TKW t (adv t x) ∧ x.2.1 ≤ (adv t x).1 := ⟨⟨skp_le hT h, rfl⟩, skp_ge t _⟩
/-- behind a token that is one byte at least -/
theorem adv_gt {t : G2} {x : PS} (hT : TOK t) (h : TKW t x) (hb : byt t x.1 ≠ -1) : TKW t (adv t x) ∧ x.1 + 1 ≤ (adv t x).1 := by
  have h1 := byt_in hT hb
  have h2 := tnd_s hT h1
  have h3 := adv_ok hT (x := x) (h.le hT).2.1
  rw [← h.2] at h2
  exact ⟨h3.1, by omega⟩
theorem tab_b {t : G2} {x : PS} (h : tab t x ≠ -1) : (97 ≤ (byt t x.1).toInt ∧ (byt t x.1).toInt ≤ 100) ∧ x.2.1 = x.1 + 1 ∧ tab t x = byt t x.1 - 97 ∧ (tab t x).toInt = (byt t x.1).toInt - 97 := by
  unfold tab at *
  split at h
  · rename_i q
    rw [if_pos q]
    refine ⟨q.2, q.1, rfl, ?_⟩
    have e : (97 : Int32).toInt = 97 := by decide
    rw [isub (by rw [e]; omega) (by rw [e]; omega), e]
  · exact absurd rfl h
theorem tab_in {t : G2} {x : PS} (h : tab t x ≠ -1) : 0 ≤ (tab t x).toInt ∧ (tab t x).toInt < 4 := by
  have := tab_b h; omega
theorem ne_m1 {b : Int32} (h : 0 ≤ b.toInt) : b ≠ -1 := fun z => by rw [z] at h; exact absurd h (by decide)
theorem tab_m1 {t : G2} {x : PS} (h : tab t x ≠ -1) : byt t x.1 ≠ -1 := ne_m1 (by have := tab_b h; omega)
theorem wrd_m1 {t : G2} {x : PS} {w : List Int32} (h : wrd t x w) (hw : w ≠ []) (hn : w.getD 0 0 ≠ -1) : byt t x.1 ≠ -1 := by
  have := h.2 0 (List.length_pos_iff.mpr hw)
  rw [Nat.add_zero] at this
  rw [this]; exact hn
theorem rfh_b {t : G2} {x : PS} (h : rfh t x ≠ -1) : rok t x ∧ (rfh t x = 0 ∨ rfh t x = 1) ∧ rfh t x = byt t (x.2.1 - 1) - 48 := by
  unfold rfh at *
  split at h
  · rename_i q
    rw [if_pos q]
    refine ⟨q, ?_, rfl⟩
    rcases q.2.2 with z | z
    · rw [z]; exact Or.inl (by decide)
    · rw [z]; exact Or.inr (by decide)
  · exact absurd rfl h
theorem rfh_m1 {t : G2} {x : PS} (h : rfh t x ≠ -1) : byt t x.1 ≠ -1 := fun z => by
  have := (rfh_b h).1.2.1
  rw [z] at this
  exact absurd this (by decide)
/-! what always holds of the shape so far -/
def WS (x : PS) : Prop := nP x ≤ 20 ∧ (∀ p, p < nP x → 0 ≤ (x.2.2.1.2.1 p).toInt ∧ (x.2.2.1.2.1 p).toInt < 4) ∧ ∀ i, i < nT x → (itx x i).1 < nP x ∧ (itx x i).2.1 ≤ 2 ∧ (itx x i).2.2.1 ≤ 1 ∧ x.2.2.2 (itx x i).1 ≤ 5 ∧ ((itx x i).2.1 ≠ 0 → (itx x i).1 < (itx x i).2.2.2 ∧ (itx x i).2.2.2 < nP x ∧ x.2.2.2 (itx x i).2.2.2 = x.2.2.2 (itx x i).1 + 1)
/-- a part at level d is about to be added -/
def WP (x : PS) (d : Nat) : Prop := nP x ≤ 20 ∧ (∀ p, p < nP x → 0 ≤ (x.2.2.1.2.1 p).toInt ∧ (x.2.2.1.2.1 p).toInt < 4) ∧ ∀ i, i < nT x → (itx x i).1 < nP x ∧ (itx x i).2.1 ≤ 2 ∧ (itx x i).2.2.1 ≤ 1 ∧ x.2.2.2 (itx x i).1 ≤ 5 ∧ ((itx x i).2.1 ≠ 0 → (itx x i).1 < (itx x i).2.2.2 ∧ (((itx x i).2.2.2 < nP x ∧ x.2.2.2 (itx x i).2.2.2 = x.2.2.2 (itx x i).1 + 1) ∨ ((itx x i).2.2.2 = nP x ∧ d = x.2.2.2 (itx x i).1 + 1)))
theorem WP.add {x : PS} {d : Nat} {tb : Int32} (h : WP x d) (h20 : nP x < 20) (ht : 0 ≤ tb.toInt ∧ tb.toInt < 4) : WS (addP x d tb) := by
  obtain ⟨h1, h2, h3⟩ := h
  have ep : nP (addP x d tb) = nP x + 1 := rfl
  refine ⟨by omega, fun p hp => ?_, fun i hi => ?_⟩
  · show 0 ≤ (if p = nP x then tb else x.2.2.1.2.1 p).toInt ∧ (if p = nP x then tb else x.2.2.1.2.1 p).toInt < 4
    by_cases hpn : p = nP x
    · rw [if_pos hpn]; exact ht
    · rw [if_neg hpn]; exact h2 p (by omega)
  · obtain ⟨w1, w2, w3, w4, w5⟩ := h3 i hi
    show (itx x i).1 < nP x + 1 ∧ (itx x i).2.1 ≤ 2 ∧ (itx x i).2.2.1 ≤ 1 ∧ (if (itx x i).1 = nP x then d else x.2.2.2 (itx x i).1) ≤ 5 ∧ ((itx x i).2.1 ≠ 0 → (itx x i).1 < (itx x i).2.2.2 ∧ (itx x i).2.2.2 < nP x + 1 ∧ (if (itx x i).2.2.2 = nP x then d else x.2.2.2 (itx x i).2.2.2) = (if (itx x i).1 = nP x then d else x.2.2.2 (itx x i).1) + 1)
    rw [if_neg (show ¬ (itx x i).1 = nP x by omega)]
    refine ⟨by omega, w2, w3, w4, fun hk => ?_⟩
    obtain ⟨v1, v2⟩ := w5 hk
    rcases v2 with ⟨v2, v3⟩ | ⟨v2, v3⟩
    · rw [if_neg (by omega)]; exact ⟨v1, by omega, v3⟩
    · rw [if_pos v2]; exact ⟨v1, by omega, v3⟩
theorem WS.wp {x : PS} (h : WS x) (d : Nat) : WP x d := ⟨h.1, h.2.1, fun i hi => by
  obtain ⟨w1, w2, w3, w4, w5⟩ := h.2.2 i hi
  exact ⟨w1, w2, w3, w4, fun hk => ⟨(w5 hk).1, Or.inl (w5 hk).2⟩⟩⟩
theorem addI_s (x : PS) (it : Nat × Nat × Nat × Nat) : itx (addI x it) (nT x) = it := if_pos rfl
theorem addI_n (x : PS) (it : Nat × Nat × Nat × Nat) {i : Nat} (h : i ≠ nT x) : itx (addI x it) i = itx x i := if_neg h
theorem WS.addV {x : PS} {p : Nat} (h : WS x) (hp : p < nP x) (hl : x.2.2.2 p ≤ 5) : WS (addI x (p, 0, 0, 0)) := by
  refine ⟨h.1, h.2.1, fun i hi => ?_⟩
  have hi : i < nT x + 1 := hi
  by_cases hin : i = nT x
  · subst hin
    rw [addI_s]
    exact ⟨hp, Nat.zero_le _, Nat.zero_le _, hl, fun z => absurd rfl z⟩
  · rw [addI_n _ _ hin]; exact h.2.2 i (by omega)
theorem WS.addU {x : PS} {p k r : Nat} (h : WS x) (hp : p < nP x) (hl : x.2.2.2 p ≤ 5) (hk : k ≤ 2) (hr : r ≤ 1) : WP (addI x (p, k, r, nP x)) (x.2.2.2 p + 1) := by
  refine ⟨h.1, h.2.1, fun i hi => ?_⟩
  have hi : i < nT x + 1 := hi
  by_cases hin : i = nT x
  · subst hin
    rw [addI_s]
    exact ⟨hp, hk, hr, hl, fun _ => ⟨hp, Or.inr ⟨rfl, rfl⟩⟩⟩
  · rw [addI_n _ _ hin]; exact (h.wp _).2.2 i (by omega)
theorem WS.adv {t : G2} {x : PS} (h : WS x) : WS (adv t x) := h
/-- the levels of the parts that there are stay -/
def LVK (x y : PS) : Prop := nP x ≤ nP y ∧ nT x ≤ nT y ∧ x.1 ≤ y.1 ∧ ∀ q, q < nP x → y.2.2.2 q = x.2.2.2 q
theorem LVK.rf {x : PS} : LVK x x := ⟨Nat.le_refl _, Nat.le_refl _, Nat.le_refl _, fun _ _ => rfl⟩
theorem LVK.tr {x y z : PS} (h : LVK x y) (h' : LVK y z) : LVK x z := ⟨Nat.le_trans h.1 h'.1, Nat.le_trans h.2.1 h'.2.1, Nat.le_trans h.2.2.1 h'.2.2.1, fun q hq => (h'.2.2.2 q (Nat.lt_of_lt_of_le hq h.1)).trans (h.2.2.2 q hq)⟩
theorem LVK.adv {t : G2} {x y : PS} (h : LVK x y) (hy : y.1 ≤ (adv t y).1) : LVK x (adv t y) := ⟨h.1, h.2.1, Nat.le_trans h.2.2.1 hy, h.2.2.2⟩
theorem LVK.addP {x : PS} {d : Nat} {tb : Int32} : LVK x (addP x d tb) := ⟨Nat.le_succ _, Nat.le_refl _, Nat.le_refl _, fun _ hq => if_neg (Nat.ne_of_lt hq)⟩
theorem LVK.addI {x y : PS} {it : Nat × Nat × Nat × Nat} (h : LVK x y) : LVK x (addI y it) := ⟨h.1, Nat.le_trans h.2.1 (Nat.le_succ _), h.2.2.1, h.2.2.2⟩
theorem ft {P : Prop} (h : false = true) : P := by cases h
/-- what comes of a part, of items -/
def PRS (t : G2) (x : PS) (r : RES) : Prop := TKW t r.2 ∧ LVK x r.2 ∧ (r.1 = true → 2 * nT r.2 + 1 ≤ r.2.1 ∧ WS r.2)
def POK (t : G2) (M D : Nat) : Prop := ∀ d x, D + d = 7 → TKW t x → 2 * nT x ≤ x.1 → WP x d → PRS t x (prt t M D d x)
theorem itm_ok {t : G2} (hT : TOK t) {M D : Nat} (hg : POK t M D) {p d : Nat} {x : PS} (hd : D + d = 7) (hx : TKW t x) (hn : 2 * nT x + 2 ≤ x.1) (hW : WS x) (hp : p < nP x) (hl : x.2.2.2 p + 1 = d) (hd6 : d ≤ 6) : PRS t x (itm t (prt t M D) p d x) := by
  unfold itm
  by_cases h1 : wrd t x wV
  · rw [if_pos h1]
    have ha := adv_gt hT (x := addI x (p, 0, 0, 0)) hx (wrd_m1 h1 (by decide) (by decide))
    have ha2 : x.1 + 1 ≤ (adv t (addI x (p, 0, 0, 0))).1 := ha.2
    refine ⟨ha.1, LVK.adv (LVK.addI LVK.rf) (by show x.1 ≤ _; omega), fun _ => ⟨?_, hW.addV hp (by omega)⟩⟩
    show 2 * (nT x + 1) + 1 ≤ (adv t (addI x (p, 0, 0, 0))).1
    omega
  rw [if_neg h1]
  by_cases h2 : wrd t x wU ∨ wrd t x wD
  rotate_left
  · rw [if_neg h2]
    exact ⟨hx, LVK.rf, fun z => ft z⟩
  rw [if_pos h2]
  have hb : byt t x.1 ≠ -1 := by
    rcases h2 with z | z
    · exact wrd_m1 z (by decide) (by decide)
    · exact wrd_m1 z (by decide) (by decide)
  have ha := adv_gt hT hx hb
  have hl1 : LVK x (adv t x) := LVK.rf.adv (by omega)
  by_cases h3 : rfh t (adv t x) = -1
  · rw [if_pos h3]
    exact ⟨ha.1, hl1, fun z => ft z⟩
  rw [if_neg h3]
  have ha2 := adv_gt hT ha.1 (rfh_m1 h3)
  have hl2 : LVK x (adv t (adv t x)) := hl1.adv (by omega)
  have hr : (rfh t (adv t x)).toNatClampNeg ≤ 1 := by
    rcases (rfh_b h3).2.1 with z | z <;> rw [z] <;> decide
  have hW2 : WP (addI (adv t (adv t x)) (itU t x p)) d := by
    rw [← hl]
    refine WS.addU (x := adv t (adv t x)) hW hp (by show x.2.2.2 p ≤ 5; omega) ?_ hr
    split <;> decide
  obtain ⟨r1, r2, r3⟩ := hg d (addI (adv t (adv t x)) (itU t x p)) hd ha2.1 (by show 2 * (nT x + 1) ≤ (adv t (adv t x)).1; omega) hW2
  exact ⟨r1, LVK.tr (LVK.addI hl2) r2, r3⟩
theorem itms_ok {t : G2} (hT : TOK t) {M D : Nat} (hg : POK t M D) {p d : Nat} (hd : D + d = 7) (hd6 : d ≤ 6) : ∀ m x, TKW t x → 2 * nT x + 2 ≤ x.1 → WS x → p < nP x → x.2.2.2 p + 1 = d → PRS t x (itms t (prt t M D) p d m x)
  | 0, x, hx, _, _, _, _ => ⟨hx, LVK.rf, fun z => ft z⟩
  | m + 1, x, hx, hn, hW, hp, hl => by
    obtain ⟨r1, r2, r3⟩ := itm_ok hT hg hd hx hn hW hp hl hd6
    unfold itms
    generalize itm t (prt t M D) p d x = r at r1 r2 r3 ⊢
    by_cases h1 : r.1 = false
    · rw [if_pos h1]
      exact ⟨r1, r2, fun z => ft z⟩
    rw [if_neg h1]
    have h1 : r.1 = true := by simpa using h1
    obtain ⟨w1, w2⟩ := r3 h1
    by_cases h2 : sgn t r.2 125
    · rw [if_pos h2]
      have ha := adv_gt hT r1 (by rw [show byt t r.2.1 = 125 from h2]; decide)
      exact ⟨ha.1, r2.adv (by omega), fun _ => ⟨by show 2 * nT r.2 + 1 ≤ (adv t r.2).1; omega, w2⟩⟩
    rw [if_neg h2]
    by_cases h3 : sgn t r.2 44
    · rw [if_pos h3]
      have ha := adv_gt hT r1 (by rw [show byt t r.2.1 = 44 from h3]; decide)
      have hl2 : LVK x (adv t r.2) := r2.adv (by omega)
      obtain ⟨u1, u2, u3⟩ := itms_ok hT hg hd hd6 m (adv t r.2) ha.1 (by show 2 * nT r.2 + 2 ≤ (adv t r.2).1; omega) w2 (Nat.lt_of_lt_of_le hp r2.1) (by show r.2.2.2.2 p + 1 = d; rw [r2.2.2.2 p hp]; exact hl)
      exact ⟨u1, hl2.tr u2, u3⟩
    · rw [if_neg h3]
      exact ⟨r1, r2, fun z => ft z⟩
/-- behind the table -/
theorem pA_ok {t : G2} (hT : TOK t) {d : Nat} {x : PS} (hx : TKW t x) (hn : 2 * nT x ≤ x.1) (hW : WP x d) (h1 : tab t x ≠ -1) (h20 : nP x < 20) : TKW t (pA t d x) ∧ x.1 + 1 ≤ (pA t d x).1 ∧ LVK x (pA t d x) ∧ 2 * nT (pA t d x) + 1 ≤ (pA t d x).1 ∧ WS (pA t d x) ∧ nP (pA t d x) = nP x + 1 ∧ (pA t d x).2.2.2 (nP x) = d := by
  have ha := adv_gt hT (x := addP x d (tab t x)) hx (tab_m1 h1)
  have ha2 : x.1 + 1 ≤ (pA t d x).1 := ha.2
  exact ⟨ha.1, ha2, LVK.addP.adv (by show x.1 ≤ (pA t d x).1; omega), by show 2 * nT x + 1 ≤ (pA t d x).1; omega, hW.add h20 (tab_in h1), rfl, if_pos rfl⟩
theorem adv_nT {t : G2} {y : PS} {k : Nat} (h : 2 * nT y + 2 ≤ k) : 2 * nT (adv t y) + 2 ≤ k := h
theorem adv_nP {t : G2} {y : PS} {k : Nat} (h : k < nP y) : k < nP (adv t y) := h
theorem adv_lv {t : G2} {y : PS} {k d : Nat} (h : y.2.2.2 k + 1 = d) : (adv t y).2.2.2 k + 1 = d := h
theorem prt_ok {t : G2} (hT : TOK t) (M D : Nat) : POK t M D := by
  induction D with
  | zero =>
    intro d x _ hx _ _
    exact ⟨hx, LVK.rf, fun z => ft z⟩
  | succ D ihD =>
    intro d x hd hx hn hW
    unfold prt
    by_cases h1 : tab t x = -1 ∨ ¬ nP x < 20
    · rw [if_pos h1]
      exact ⟨hx, LVK.rf, fun z => ft z⟩
    rw [if_neg h1]
    obtain ⟨r1, r2, r3, r4, r5, r6, r7⟩ := pA_ok hT hx hn hW (fun z => h1 (Or.inl z)) (Classical.byContradiction fun z => h1 (Or.inr z))
    generalize pA t d x = y at r1 r2 r3 r4 r5 r6 r7 ⊢
    by_cases h2 : sgn t y 123
    rotate_left
    · rw [if_pos h2]
      exact ⟨r1, r3, fun _ => ⟨r4, r5⟩⟩
    rw [if_neg (fun z => z h2)]
    by_cases h3 : d < 6
    rotate_left
    · rw [if_pos h3]
      exact ⟨r1, r3, fun z => ft z⟩
    rw [if_neg (fun z => z h3)]
    have ha := adv_gt hT r1 (by rw [show byt t y.1 = 123 from h2]; decide)
    have hu := itms_ok hT ihD (p := nP x) (d := d + 1) (by omega) (by omega) M (adv t y) ha.1 (adv_nT (by omega)) (WS.adv r5) (adv_nP (by omega)) (adv_lv (by omega))
    generalize itms t (prt t M D) (nP x) (d + 1) M (adv t y) = r at hu ⊢
    have hy : y.1 ≤ (adv t y).1 := by omega
    exact ⟨hu.1, (r3.adv hy).tr hu.2.1, hu.2.2⟩
theorem WP_0 (t : G2) : WP (adv t ps0) 0 := ⟨Nat.zero_le _, fun p hp => absurd hp (Nat.not_lt_zero _), fun i hi => absurd hi (Nat.not_lt_zero _)⟩
