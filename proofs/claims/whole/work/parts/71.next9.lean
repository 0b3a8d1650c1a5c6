section NEXT9
variable {σ σ' σ0 : Hp} {a : Nat} {e : Nat → Nat} {g : G1} {t : G2} {sh : SHT} {rl : RLT} {sc : SCT} {x : PS} {k : Nat} {op : Nat → Nat}
theorem C9.behind (hC : C9 σ0 a e g t sh rl sc) {sh' : SHT} {s : Nat} (hF : F9 σ0 a e σ) (hS : SHN σ a e sh' k op) (h34 : gi σ a 34 = nI s) (hs : s ≤ t.1) {lv : Nat → Nat} {post : Hp → Prop} (hp : ∀ σ', F9 σ0 a e σ' → SHN σ' a e sh' k op → TK9 σ' a t (s, tnd t s, sh', lv) → post σ') : J_X9_next_46 post a σ := by
  have hT := hC.2
  have h200 : t.1 ≤ 200 := hT.1
  have hL := hC.L hF
  have htp := hC.tape hF
  unfold J_X9_next_46
  rw [h34, htp.1]
  have hN : NX σ0 a e (sl (si σ a 35 (nI s)) a 37 (0 : Int64)) sh' k op s s 0 := by
    refine ⟨(hF.wa hC.1.1 _ (by decide)).wl _, (hS.wa hC.1.1 _ (by decide)).wl _, ?_, ?_, ?_⟩
    · rw [gi_sl, gi_sk (by decide)]; exact h34
    · rw [gi_sl, gi_ss]
    · rw [gl_sl, if_pos ⟨rfl, rfl⟩]; decide
  generalize sl (si σ a 35 (nI s)) a 37 (0 : Int64) = σ1 at hN ⊢
  have hN36 : ∀ y : Int32, NX σ0 a e (si σ1 a 36 y) sh' k op s s 0 := fun y => by
    obtain ⟨h1, h2, h3, h4, h5⟩ := hN
    exact ⟨h1.wa hC.1.1 _ (by decide), h2.wa hC.1.1 _ (by decide), by rw [gi_sk (by decide)]; exact h3, by rw [gi_sk (by decide)]; exact h4, h5⟩
  have hL1 := hC.L hN.1
  have ht1 := hC.tape hN.1
  refine ⟨hL.1, fun z => ?_, fun z => ?_⟩
  rotate_left
  · rw [nI_k (by omega) (by omega)] at z
    have hsr : srt t s = 0 := by unfold srt; rw [if_pos (by omega)]
    unfold J_X9_next_114
    refine ⟨hL1.1, fun _ => ?_, fun y => absurd y (by decide)⟩
    have h0 := hN36 0
    have h36 : gi (si σ1 a 36 (0 : Int32)) a 36 = 0 := gi_ss
    generalize si σ1 a 36 (0 : Int32) = σ2 at h0 h36 ⊢
    intro I hI
    refine hI _ ⟨(hC.L h0.1).1, fun _ => ?_, fun y => by rw [h36] at y; exact absurd y (by decide)⟩
    intro J hJ
    refine hJ _ ⟨(hC.L h0.1).1, fun _ => hp σ2 h0.1 h0.2.1 ⟨h0.2.2.1, ?_, ?_, ?_⟩, fun y => by rw [h36] at y; exact absurd y (by decide)⟩
    · show gi σ2 a 35 = nI (tnd t s)
      rw [tnd_e hT (by omega)]; exact h0.2.2.2.1
    · show gi σ2 a 36 = nI (srt t s)
      rw [hsr]; exact h36
    · show (gl σ2 a 37).toInt = wth t (s, tnd t s, sh', lv)
      unfold wth
      show _ = if srt t s = 0 then 0 else _
      rw [if_pos hsr]; exact h0.2.2.2.2
  have hlt : s < t.1 := by
    rw [nI_k (by omega) (by omega)] at z; omega
  have hbm : ¬ byt t s = -1 := fun y => by have := (byt_m1 hT).mp y; omega
  have hvs : vp_in (nI s) 200 := vinN (by omega) (by decide)
  have n34 : gi σ1 a 34 = nI s := hN.2.2.1
  refine ⟨e 32, hL.r 32 rfl, 200, hL.k 32 rfl, hvs, ?_⟩
  rw [clN (by omega), htp.2 s hlt]
  refine X9_isSmall (fun y => ⟨fun w => absurd w (by decide), fun _ => ?_⟩) (fun y => ⟨fun _ => ⟨hL1.1, e 32, hL1.r 32 rfl, 200, hL1.k 32 rfl, by rw [n34]; exact hvs, ?_⟩, fun w => absurd rfl w⟩)
  · have hsr : srt t s = 1 := by unfold srt; rw [if_neg (by omega), if_pos y]
    have hen : run t isL (200 - (s + 0)) (s + 0) = tnd t s := by
      unfold tnd
      rw [if_neg hbm, if_pos y, show 200 - (s + 0) = (200 - (s + 1)) + 1 by omega]
      exact run_1 t isL (m := 200 - (s + 1)) (p := s) y
    unfold J_X9_next_114
    refine ⟨hL1.1, fun _ => ?_, fun y => absurd y (by decide)⟩
    intro I hI
    refine hC.word hI (en := tnd t s) (fun σ' h' h36 => ?_) (200 - (s + 0)) 0 _ rfl (by omega) (fun i hi => absurd hi (Nat.not_lt_zero _)) hen (hN36 1) gi_ss
    intro J hJ
    refine hJ _ ⟨(hC.L h'.1).1, fun _ => hp σ' h'.1 h'.2.1 ⟨h'.2.2.1, h'.2.2.2.1, ?_, ?_⟩, fun w => by rw [h36] at w; exact absurd w (by decide)⟩
    · show gi σ' a 36 = nI (srt t s)
      rw [hsr]; exact h36
    · show (gl σ' a 37).toInt = wth t (s, tnd t s, sh', lv)
      unfold wth
      show _ = if srt t s = 0 then 0 else if srt t s = 1 then wdv t s (tnd t s - s) else _
      rw [if_neg (by omega), if_pos hsr]; exact h'.2.2.2.2
  · rw [n34, clN (by omega), ht1.2 s hlt]
    refine X9_isDigit (fun w => ⟨fun u => absurd u (by decide), fun _ => ?_⟩) (fun w => ⟨fun _ => ?_, fun u => absurd rfl u⟩)
    · have hsr : srt t s = 2 := by unfold srt; rw [if_neg (by omega), if_neg y, if_pos w]
      have hen : run t isD (200 - (s + 0)) (s + 0) = tnd t s := by
        unfold tnd
        rw [if_neg hbm, if_neg y, if_pos w, show 200 - (s + 0) = (200 - (s + 1)) + 1 by omega]
        exact run_1 t isD (m := 200 - (s + 1)) (p := s) w
      unfold J_X9_next_114
      refine ⟨hL1.1, fun _ => ?_, fun y => absurd y (by decide)⟩
      have h2 := hN36 2
      have h36 : gi (si σ1 a 36 (2 : Int32)) a 36 = 2 := gi_ss
      generalize si σ1 a 36 (2 : Int32) = σ2 at h2 h36 ⊢
      intro I hI
      refine hI _ ⟨(hC.L h2.1).1, fun _ => ?_, fun u => by rw [h36] at u; exact absurd u (by decide)⟩
      intro J hJ
      refine hC.digs hJ (en := tnd t s) (fun σ' h' h36' => ?_) (200 - (s + 0)) 0 _ rfl (by omega) (fun i hi => absurd hi (Nat.not_lt_zero _)) hen h2 h36
      refine hp σ' h'.1 h'.2.1 ⟨h'.2.2.1, h'.2.2.2.1, ?_, ?_⟩
      · show gi σ' a 36 = nI (srt t s)
        rw [hsr]; exact h36'
      · show (gl σ' a 37).toInt = wth t (s, tnd t s, sh', lv)
        unfold wth
        show _ = if srt t s = 0 then 0 else if srt t s = 1 then wdv t s (tnd t s - s) else if srt t s = 2 then dgv t s (tnd t s - s) else _
        rw [if_neg (by omega), if_neg (by omega), if_pos hsr]; exact h'.2.2.2.2
    · have hsr : srt t s = 3 := by unfold srt; rw [if_neg (by omega), if_neg y, if_neg w]
      have hen : tnd t s = s + 1 := by
        unfold tnd
        rw [if_neg hbm, if_neg y, if_neg w]
      unfold J_X9_next_114
      refine ⟨hL1.1, fun u => absurd rfl u, fun _ => ⟨e 32, hL1.r 32 rfl, 200, hL1.k 32 rfl, by rw [n34]; exact hvs, ?_⟩⟩
      have h3 := hN36 3
      have h36 : gi (si σ1 a 36 (3 : Int32)) a 36 = 3 := gi_ss
      rw [n34, clN (by omega), ht1.2 s hlt]
      have e35 : gi σ1 a 35 = nI s := hN.2.2.2.1
      rw [e35, nI_1]
      have h4 := h3.step hC.1.1 (v := Int32.toInt64 (byt t s)) (i64of _)
      have h46 : gi (si (sl (si σ1 a 36 (3 : Int32)) a 37 (Int32.toInt64 (byt t s))) a 35 (nI (s + 1))) a 36 = 3 := by rw [gi_sk (by decide), gi_sl]; exact h36
      generalize si (sl (si σ1 a 36 (3 : Int32)) a 37 (Int32.toInt64 (byt t s))) a 35 (nI (s + 1)) = σ3 at h4 h46 ⊢
      intro I hI
      refine hI _ ⟨(hC.L h4.1).1, fun _ => ?_, fun u => by rw [h46] at u; exact absurd u (by decide)⟩
      intro J hJ
      refine hJ _ ⟨(hC.L h4.1).1, fun _ => hp σ3 h4.1 h4.2.1 ⟨h4.2.2.1, ?_, ?_, ?_⟩, fun u => by rw [h46] at u; exact absurd u (by decide)⟩
      · show gi σ3 a 35 = nI (tnd t s)
        rw [hen]; exact h4.2.2.2.1
      · show gi σ3 a 36 = nI (srt t s)
        rw [hsr]; exact h46
      · show (gl σ3 a 37).toInt = wth t (s, tnd t s, sh', lv)
        unfold wth
        show _ = if srt t s = 0 then 0 else if srt t s = 1 then wdv t s (tnd t s - s) else if srt t s = 2 then dgv t s (tnd t s - s) else (byt t s).toInt
        rw [if_neg (by omega), if_neg (by omega), if_neg (by omega)]; exact h4.2.2.2.2
theorem C9.nextp (hC : C9 σ0 a e g t sh rl sc) {sh' : SHT} {p : Nat} (hF : F9 σ0 a e σ) (hS : SHN σ a e sh' k op) (h35 : gi σ a 35 = nI p) (hpt : p ≤ t.1) {lv : Nat → Nat} {post : Hp → Prop} (hp : ∀ σ', F9 σ0 a e σ' → SHN σ' a e sh' k op → TK9 σ' a t (skp t p, tnd t (skp t p), sh', lv) → post σ') : P_X9_next a σ post := by
  have hT := hC.2
  have h200 : t.1 ≤ 200 := hT.1
  unfold P_X9_next
  rw [h35]
  refine ⟨(hC.L hF).1, ?_⟩
  intro I hI
  have key : ∀ n q σ', n = 200 - q → q ≤ t.1 → run t isB n q = skp t p → F9 σ0 a e σ' → SHN σ' a e sh' k op → gi σ' a 34 = nI q → I σ' := by
    intro n
    induction n with
    | zero =>
      intro q σ' hn hq hr hF' hS' h34
      have hL := hC.L hF'
      have hqs : q = skp t p := hr
      refine hI _ ⟨hL.1, fun _ => hC.behind hF' hS' (by rw [← hqs]; exact h34) (by omega) hp, fun z => ?_⟩
      rw [(hC.tape hF').1, h34, ile, nIi (by omega), nIi (by omega)] at z
      omega
    | succ n ih =>
      intro q σ' hn hq hr hF' hS' h34
      have hL := hC.L hF'
      have htp := hC.tape hF'
      have stop : ¬ isB (byt t q) = true → J_X9_next_46 post a σ' := fun z => by
        rw [run_0 t isB z] at hr
        exact hC.behind hF' hS' (by rw [← hr]; exact h34) (by omega) hp
      refine hI _ ⟨hL.1, fun z => ?_, fun z => ?_⟩
      · rw [htp.1, h34, ile, nIi (by omega), nIi (by omega)] at z
        refine stop (fun y => ?_)
        rw [(byt_m1 hT).mpr (by omega)] at y
        exact absurd y (by decide)
      · rw [htp.1, h34, ile, nIi (by omega), nIi (by omega)] at z
        refine ⟨e 32, hL.r 32 rfl, 200, hL.k 32 rfl, by rw [h34]; exact vinN (by omega) (by decide), ?_⟩
        rw [h34, clN (by omega), htp.2 q (by omega)]
        refine ⟨fun y => stop (by unfold isB; rw [decide_eq_true_eq]; exact y), fun y => ?_⟩
        rw [nI_1]
        rw [run_1 t isB (by unfold isB; rw [decide_eq_true_eq]; exact y)] at hr
        exact ih (q + 1) _ (by omega) (by omega) hr (hF'.wa hC.1.1 _ (by decide)) (hS'.wa hC.1.1 _ (by decide)) gi_ss
  exact key (200 - p) p _ rfl hpt rfl (hF.wa hC.1.1 _ (by decide)) (hS.wa hC.1.1 _ (by decide)) gi_ss
theorem C9.next (hC : C9 σ0 a e g t sh rl sc) (h : R9x σ0 a e t σ x k op) (hx : x.2.1 ≤ t.1) {post : Hp → Prop} (hp : ∀ σ', R9x σ0 a e t σ' (adv t x) k op → post σ') : P_X9_next a σ post :=
  hC.nextp h.1 h.2.1 h.2.2.2.1 hx (lv := x.2.2.2) (fun σ' h1 h2 h3 => hp σ' ⟨h1, h2, h3⟩)
/-- what must be -/
theorem C9.must1 (hC : C9 σ0 a e g t sh rl sc) (h : R9x σ0 a e t σ x k op) (hx : x.2.1 ≤ t.1) {v : Int32} (hv : v ≠ 0) {post : Hp → Prop} (hp : ∀ σ', R9x σ0 a e t σ' (adv t x) k op → post σ') : P_X9_must a v σ post := by
  unfold P_X9_must
  have h39 : gi σ a 39 = 0 := h.2.1.1
  rw [h39]
  exact ⟨(hC.L h.1).1, fun z => absurd rfl z, fun _ => ⟨fun _ => ⟨fun z => absurd rfl z, fun _ => hC.next h hx hp⟩, fun z => absurd z hv⟩⟩
theorem C9.must0 (hC : C9 σ0 a e g t sh rl sc) (h : R9x σ0 a e t σ x k op) {post : Hp → Prop} (hp : ∀ σ', B9 σ0 a e σ' x.1 → post σ') : P_X9_must a 0 σ post := by
  unfold P_X9_must
  have h39 : gi σ a 39 = 0 := h.2.1.1
  have h34 : gi σ a 34 = nI x.1 := h.2.2.1
  rw [h39, h34]
  refine ⟨(hC.L h.1).1, fun z => absurd rfl z, fun _ => ⟨fun z => absurd rfl z, fun _ => ⟨fun _ => hp _ ⟨(h.1.wa hC.1.1 _ (by decide)).wa hC.1.1 _ (by decide), ?_, gi_ss⟩, fun z => absurd z (by decide)⟩⟩⟩
  rw [gi_sk (by decide)]; exact gi_ss
theorem srt_le (t : G2) (s : Nat) : srt t s ≤ 3 := by
  unfold srt
  split
  · omega
  · split
    · omega
    · split <;> omega
theorem C9.sign (hC : C9 σ0 a e g t sh rl sc) (h : R9x σ0 a e t σ x k op) {v : Int32} (hv : ¬ isL v = true ∧ ¬ isD v = true ∧ v ≠ -1) {post : Int32 → Hp → Prop} (h1 : sgn t x v → post 1 σ) (h0 : ¬ sgn t x v → post 0 σ) : P_X9_isSign a v σ post := by
  have h36 : gi σ a 36 = nI (srt t x.1) := h.2.2.2.2.1
  have h37 : (gl σ a 37).toInt = wth t x := h.2.2.2.2.2
  have h3 := srt_le t x.1
  unfold P_X9_isSign
  rw [h36, show (3 : Int32) = nI 3 from rfl, nI_k (by omega) (by decide), lg_cmp_eq, leq, h37, i64of]
  refine ⟨(hC.L h.1).1, fun z => h0 (fun y => z ?_), fun z => ?_⟩
  · have y : byt t x.1 = v := y
    unfold srt
    rw [y, if_neg (fun w => hv.2.2 (by rw [← y]; exact (byt_m1 hC.2).mpr w)), if_neg hv.1, if_neg hv.2.1]
  · unfold wth
    rw [if_neg (by omega), if_neg (by omega), if_neg (by omega), ← ieq]
    exact ⟨fun y => h0 y, fun y => h1 y⟩
end NEXT9
