def stkN (mk : Nat → Int32) : Nat → List Int32
  | 0 => []
  | k + 1 => psh (stkN mk k) (mk k)
theorem arnd_stk (mk : Nat → Int32) : ∀ k en, arnd mk k en = (stkN mk k).getD en (-1)
  | 0, _ => rfl
  | k + 1, en => by
    rw [show arnd mk (k + 1) en = if mk k = 30000 then arnd mk k (en + 1) else if 10000 ≤ (mk k).toInt ∧ (mk k).toInt < 20000 then (match en with | 0 => mk k - 10000 | m + 1 => arnd mk k m) else arnd mk k en from rfl, show stkN mk (k + 1) = psh (stkN mk k) (mk k) from rfl]
    unfold psh
    by_cases h1 : mk k = 30000
    · rw [if_pos h1, if_pos h1, arnd_stk mk k (en + 1)]
      cases stkN mk k <;> rfl
    · rw [if_neg h1, if_neg h1]
      by_cases h2 : 10000 ≤ (mk k).toInt ∧ (mk k).toInt < 20000
      · rw [if_pos h2, if_pos h2]
        cases en with
        | zero => rfl
        | succ m => exact arnd_stk mk k m
      · rw [if_neg h2, if_neg h2]
        exact arnd_stk mk k en
theorem OKL_at {n : Nat} : ∀ (l : List (Int32 × Int32)) (S : List Int32) (k : Nat), k < l.length → OKL n S l → (mk2 l k = -1 ∧ ¬ isV (mk1 l k)) ∨ ∃ i, i < n ∧ mk2 l k = nI i ∧ isV (mk1 l k) ∧ (stkL S (l.take k)).getD 0 (-1) = nI i
  | [], _, k, h, _ => absurd h (Nat.not_lt_zero k)
  | x :: l, S, 0, _, h => h.1
  | x :: l, S, k + 1, hk, h => OKL_at l (psh S x.1) k (Nat.lt_of_succ_lt_succ hk) h.2
theorem stkN_take (l : List (Int32 × Int32)) : ∀ k, k ≤ l.length → stkN (mk1 l) k = stkL [] (l.take k)
  | 0, _ => rfl
  | k + 1, hk => by
    have hk' : k < l.length := hk
    rw [show stkN (mk1 l) (k + 1) = psh (stkN (mk1 l) k) (mk1 l k) from rfl, stkN_take l k (by omega), List.take_add_one, stkL_app, List.getElem?_eq_getElem hk']
    have : mk1 l k = (l[k]'hk').1 := by
      unfold mk1
      rw [List.getD_eq_getElem?_getD, List.getElem?_eq_getElem hk']
      rfl
    rw [this]
    rfl
/-- the row of each mark of a paper: around it -/
theorem gM_row {ρ : RM} {sh : SHT} (hW : WFR ρ) (x : Int32) {k : Nat} (hk : k < cut (gM ρ sh x).1) : (mk2 (gM ρ sh x).1 k = -1 ∧ ¬ isV (mk1 (gM ρ sh x).1 k)) ∨ ∃ i, i < ρ.1 ∧ mk2 (gM ρ sh x).1 k = nI i ∧ isV (mk1 (gM ρ sh x).1 k) ∧ arnd (mk1 (gM ρ sh x).1) k 0 = nI i := by
  have hl := cut_len (gM ρ sh x).1
  rcases OKL_at (gM ρ sh x).1 [] k (by omega) (gM_OKL (sh := sh) hW x) with h | ⟨i, h1, h2, h3, h4⟩
  · exact Or.inl h
  · exact Or.inr ⟨i, h1, h2, h3, by rw [arnd_stk, stkN_take _ k (by omega)]; exact h4⟩
