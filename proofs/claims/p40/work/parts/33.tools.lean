/-! TOOLS: sums, masks, turnings (rows that stood in the reference's parts of whole) -/
theorem isT.fr {h h' : xHp} {A lo hi : Nat} {ω : Wv} (w : isT h A ω) (f : frm h h' lo hi) (hd : A + 84 ≤ lo ∨ hi ≤ A) : isT h' A ω := by
  obtain ⟨w0, w1, w2, w3, ⟨⟨n, pos, w4⟩, w5⟩, ⟨q, w6⟩, w7, w8, ⟨g, w9⟩⟩ := w
  exact ⟨xat_fr w0 f (by omega), w1.fr f (by omega), w2.fr f (by omega), w3.fr f (by omega), ⟨⟨n, pos, xat_fr w4 f (by omega)⟩, w5.fr f (by omega)⟩, ⟨q, xat_fr w6 f (by omega)⟩, w7.fr f (by omega), w8.fr f (by omega), ⟨g, xat_fr w9 f (by omega)⟩⟩
theorem isT.sb {h h' : xHp} {A lo hi : Nat} {ω : Wv} (w : isT h A ω) (f : sub h h' lo hi) (h1 : lo ≤ A) (h2 : A + 84 ≤ hi) : isT h' A ω := by
  obtain ⟨w0, w1, w2, w3, ⟨⟨n, pos, w4⟩, w5⟩, ⟨q, w6⟩, w7, w8, ⟨g, w9⟩⟩ := w
  exact ⟨xat_sb w0 f (by omega) (by omega), w1.sb f (by omega) (by omega), w2.sb f (by omega) (by omega), w3.sb f (by omega) (by omega), ⟨⟨n, pos, xat_sb w4 f (by omega) (by omega)⟩, w5.sb f (by omega) (by omega)⟩, ⟨q, xat_sb w6 f (by omega) (by omega)⟩, w7.sb f (by omega) (by omega), w8.sb f (by omega) (by omega), ⟨g, xat_sb w9 f (by omega) (by omega)⟩⟩
theorem take_mem {σ : Sv} {l : List Sv} {τ : Sv} (hσ : sok σ) (hl : ∀ τ, τ ∈ l → sok τ) (h : τ ∈ (σ :: l).take 8) : sok τ := by
  rcases List.mem_cons.mp (List.mem_of_mem_take h) with e | e
  · rw [e]; exact hσ
  · exact hl τ e
theorem wS_ok {ω : Wv} {σ : Sv} (k : wok ω) (hσ : sok σ) : wok (wS ω σ) := ⟨hσ, fun τ h => take_mem k.1 k.2.1 h, k.2.2⟩
theorem rcd_ok {ω : Wv} (k : wok ω) : wok (rcd ω) := ⟨k.1, fun τ h => take_mem k.1 k.2.1 h, k.2.2⟩
theorem lk_off : ∀ m, m < 128 → ∀ i, i < 7 → ∀ j, j < 7 → (m &&& (2 ^ i ^^^ 4294967295)) / 2 ^ j % 2 = if j = i then 0 else m / 2 ^ j % 2 := by decide +kernel
theorem lk_on : ∀ m, m < 128 → ∀ i, i < 7 → ∀ j, j < 7 → (m ||| 2 ^ i) / 2 ^ j % 2 = if j = i then 1 else m / 2 ^ j % 2 := by decide +kernel
theorem sumN_0 : ∀ n, sumN (fun _ => 0) n = 0
  | 0 => rfl
  | n + 1 => sumN_0 n
theorem sumN_add (a b : Nat → Nat) : ∀ n, sumN (fun i => a i + b i) n = sumN a n + sumN b n
  | 0 => rfl
  | n + 1 => by
    have ih := sumN_add a b n
    show sumN (fun i => a i + b i) n + (a n + b n) = (sumN a n + a n) + (sumN b n + b n)
    omega
theorem sumN_swap (g : Nat → Nat → Nat) (m : Nat) : ∀ n, sumN (fun i => sumN (fun t => g i t) m) n = sumN (fun t => sumN (fun i => g i t) n) m
  | 0 => (sumN_0 m).symm
  | n + 1 => by
    have ih := sumN_swap g m n
    show sumN (fun i => sumN (fun t => g i t) m) n + sumN (fun t => g n t) m = sumN (fun t => sumN (fun i => g i t) n + g n t) m
    rw [sumN_add, ih]
theorem sumN_pick {j : Nat} {g : Nat → Nat} : ∀ n, sumN (fun i => if i = j then g i else 0) n = if j < n then g j else 0
  | 0 => by rw [if_neg (Nat.not_lt_zero j)]; rfl
  | n + 1 => by
    have ih := sumN_pick (j := j) (g := g) n
    show sumN (fun i => if i = j then g i else 0) n + (if n = j then g n else 0) = _
    rw [ih]
    by_cases e : n = j
    · subst e; rw [if_neg (Nat.lt_irrefl n), if_pos rfl, if_pos (by omega), Nat.zero_add]
    · by_cases c : j < n
      · rw [if_pos c, if_neg e, if_pos (by omega)]; omega
      · rw [if_neg c, if_neg e, if_neg (by omega)]
theorem pop_ct : ∀ n, n < 8 → ∀ x, x < 2 ^ n → ct (fun b => x.testBit b) n = pop x := by decide +kernel
theorem top_bit : ∀ n, n < 8 → ∀ w, w < n → (2 ^ n - 1) / 2 ^ w % 2 = 1 := by decide +kernel
theorem ct_bit (x j : Nat) : ct (fun b => x.testBit b) (j + 1) = ct (fun b => x.testBit b) j + x / 2 ^ j % 2 := by
  show _ + (if x.testBit j = true then 1 else 0) = _
  have e : x.testBit j = true ↔ x / 2 ^ j % 2 = 1 := by rw [Nat.testBit_eq_decide_div_mod_eq, decide_eq_true_eq]
  by_cases c : x / 2 ^ j % 2 = 1
  · rw [if_pos (e.mpr c), c]
  · rw [if_neg (fun z => c (e.mp z))]; omega
