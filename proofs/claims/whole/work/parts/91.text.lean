/-! texts: bytes, runs, tokens -/
theorem and255 {x : Int} : 0 ≤ and32 x 255 ∧ and32 x 255 ≤ 255 := by
  unfold and32
  have h : (Int32.ofInt x &&& Int32.ofInt 255).toBitVec.toNat ≤ 255 := by
    rw [Int32.toBitVec_and, BitVec.toNat_and]
    exact Nat.le_trans Nat.and_le_right (by decide)
  rw [← Int32.toInt_toBitVec, BitVec.toInt_eq_toNat_of_lt (by omega)]
  omega
theorem b255 : ∀ i : Fin 32, (Int32.ofInt 255).toBitVec[i] = decide (i.val < 8) := by decide
theorem b8_and {x : Int} : and32 (b8 x) 255 = and32 x 255 := by
  have h : ∀ y : Int32, y.toInt8.toInt32 &&& Int32.ofInt 255 = y &&& Int32.ofInt 255 := by
    intro y
    apply Int32.toBitVec_inj.mp
    ext i hi
    have h2 : (Int32.ofInt 255).toBitVec[i] = decide (i < 8) := b255 ⟨i, hi⟩
    simp only [Int32.toBitVec_and, BitVec.getElem_and, h2]
    by_cases g : i < 8
    · simp [g, Int8.toBitVec_toInt32, Int32.toBitVec_toInt8, BitVec.getElem_signExtend, hi]
    · simp [g]
  unfold and32 b8
  rw [Int32.ofInt_toInt, h]
def soB (b : Int) : Int := if b = 9 ∨ b = 10 ∨ b = 13 ∨ b = 32 then 0 else if 97 ≤ b ∧ b ≤ 122 then 1 else if 48 ≤ b ∧ b ≤ 57 then 2 else 3
def soP (s b : Int) : Bool := decide (soB b = s)
def rnF (p : Int → Bool) (B : Nat → Int) : Nat → Nat → Nat
  | 0, i => i
  | d + 1, i => if p (B i) = true then rnF p B d (i + 1) else i
def rn (p : Int → Bool) (B : Nat → Int) (n i : Nat) : Nat := rnF p B (n - i) i
theorem rn_go {p : Int → Bool} {B : Nat → Int} {n i : Nat} (hi : i < n) (h : p (B i) = true) : rn p B n i = rn p B n (i + 1) := by
  unfold rn
  rw [show n - i = (n - (i + 1)) + 1 by omega]
  show (if p (B i) = true then rnF p B (n - (i + 1)) (i + 1) else i) = _
  rw [if_pos h]
theorem rn_stop {p : Int → Bool} {B : Nat → Int} {n i : Nat} (h : n ≤ i ∨ p (B i) ≠ true) : rn p B n i = i := by
  unfold rn
  by_cases g : n ≤ i
  · rw [show n - i = 0 by omega]; rfl
  · rw [show n - i = (n - (i + 1)) + 1 by omega]
    show (if p (B i) = true then rnF p B (n - (i + 1)) (i + 1) else i) = _
    rw [if_neg (h.resolve_left g)]
theorem rn_spec {p : Int → Bool} {B : Nat → Int} {n : Nat} : ∀ (d i : Nat), n - i = d → i ≤ rn p B n i ∧ (i ≤ n → rn p B n i ≤ n) ∧ (∀ k, i ≤ k → k < rn p B n i → p (B k) = true) ∧ (n ≤ rn p B n i ∨ p (B (rn p B n i)) ≠ true) := by
  intro d
  induction d with
  | zero =>
    intro i hd
    rw [rn_stop (Or.inl (by omega))]
    exact ⟨Nat.le_refl _, fun h => h, fun k h1 h2 => absurd h2 (by omega), Or.inl (by omega)⟩
  | succ d ih =>
    intro i hd
    by_cases g : p (B i) = true
    · rw [rn_go (by omega) g]
      obtain ⟨a1, a2, a3, a4⟩ := ih (i + 1) (by omega)
      refine ⟨by omega, fun _ => a2 (by omega), fun k h1 h2 => ?_, a4⟩
      by_cases e : k = i
      · rw [e]; exact g
      · exact a3 k (by omega) h2
    · rw [rn_stop (Or.inr g)]
      exact ⟨Nat.le_refl _, fun h => h, fun k h1 h2 => absurd h2 (by omega), Or.inr g⟩
def tokE (B : Nat → Int) (n i : Nat) : Nat := if soB (B i) = 3 then i + 1 else rn (soP (soB (B i))) B n i
def tokS (B : Nat → Int) (n : Nat) : Nat → Nat
  | 0 => rn (soP 0) B n 0
  | k + 1 => rn (soP 0) B n (tokE B n (tokS B n k))
theorem tokE_bd {B : Nat → Int} {n i : Nat} (hi : i < n) : i < tokE B n i ∧ tokE B n i ≤ n := by
  unfold tokE
  by_cases g : soB (B i) = 3
  · rw [if_pos g]; omega
  · rw [if_neg g]
    have hp : soP (soB (B i)) (B i) = true := by simp [soP]
    rw [rn_go hi hp]
    obtain ⟨a1, a2, _⟩ := rn_spec (p := soP (soB (B i))) (B := B) (n := n) _ (i + 1) rfl
    exact ⟨by omega, a2 (by omega)⟩
theorem tokS_le {B : Nat → Int} {n : Nat} : ∀ k, (∀ j, j < k → tokS B n j < n) → tokS B n k ≤ n
  | 0, _ => (rn_spec (p := soP 0) (B := B) (n := n) _ 0 rfl).2.1 (Nat.zero_le _)
  | k + 1, h => (rn_spec (p := soP 0) (B := B) (n := n) _ (tokE B n (tokS B n k)) rfl).2.1 (tokE_bd (h k (by omega))).2
/-- where a token begins stands no blank -/
theorem tokS_nb {B : Nat → Int} {n : Nat} : ∀ k, tokS B n k < n → soB (B (tokS B n k)) ≠ 0
  | 0, h => by
    have := (rn_spec (p := soP 0) (B := B) (n := n) _ 0 rfl).2.2.2
    intro e
    rcases this with g | g
    · have h' : rn (soP 0) B n 0 < n := h
      omega
    · exact g (by show decide (soB (B (tokS B n 0)) = 0) = true; simp [e])
  | k + 1, h => by
    have := (rn_spec (p := soP 0) (B := B) (n := n) _ (tokE B n (tokS B n k)) rfl).2.2.2
    intro e
    rcases this with g | g
    · have h' : rn (soP 0) B n (tokE B n (tokS B n k)) < n := h
      omega
    · exact g (by show decide (soB (B (tokS B n (k + 1))) = 0) = true; simp [e])
/-- how many tokens there are -/
def NTk (B : Nat → Int) (n nt : Nat) : Prop := nt ≤ 401 ∧ (∀ k, k < nt → tokS B n k < n) ∧ (nt = 401 ∨ n ≤ tokS B n nt)
theorem nt_uniq {B : Nat → Int} {n a b : Nat} (ha : NTk B n a) (hb : NTk B n b) : a = b := by
  obtain ⟨a1, a2, a3⟩ := ha
  obtain ⟨b1, b2, b3⟩ := hb
  by_cases h : a < b
  · have := b2 a h
    rcases a3 with e | e <;> omega
  · by_cases h' : b < a
    · have := a2 b h'
      rcases b3 with e | e <;> omega
    · omega
/-- bytes from a place on -/
def lst (B : Nat → Int) (i : Nat) : Nat → List Int
  | 0 => []
  | d + 1 => lst B i d ++ [B (i + d)]
theorem lst_len {B : Nat → Int} {i : Nat} : ∀ {d : Nat}, (lst B i d).length = d
  | 0 => rfl
  | d + 1 => by simp [lst, lst_len]
theorem lst_eq {B C : Nat → Int} {i j : Nat} : ∀ {d : Nat}, (∀ k, k < d → B (i + k) = C (j + k)) ↔ lst B i d = lst C j d
  | 0 => ⟨fun _ => rfl, fun _ k hk => absurd hk (by omega)⟩
  | d + 1 => by
    have ih := lst_eq (B := B) (C := C) (i := i) (j := j) (d := d)
    constructor
    · intro h
      simp only [lst]
      rw [ih.mp (fun k hk => h k (by omega)), h d (by omega)]
    · intro h k hk
      simp only [lst] at h
      have h2 := List.append_inj' h rfl
      by_cases e : k = d
      · rw [e]; exact (List.cons.inj h2.2).1
      · exact ih.mpr h2.1 k (by omega)
def ltrs (w : List Int) : Prop := ∀ a ∈ w, 97 ≤ a ∧ a ≤ 122
theorem snoc_ex {w : List Int} (h : w ≠ []) : ∃ u a, w = u ++ [a] := by
  induction w with
  | nil => exact absurd rfl h
  | cons b v ih =>
    by_cases e : v = []
    · exact ⟨[], b, by rw [e]; rfl⟩
    · obtain ⟨u, a, hu⟩ := ih e
      exact ⟨b :: u, a, by rw [hu]; rfl⟩
theorem wnum_snoc {w : List Int} {a : Int} : wnum (w ++ [a]) = 27 * wnum w + (a - 96) := by
  unfold wnum
  rw [List.foldl_append]
  rfl
theorem wnum_nn : ∀ {w : List Int}, ltrs w → 0 ≤ wnum w := by
  intro w
  induction h : w.length generalizing w with
  | zero =>
    intro _
    have : w = [] := List.length_eq_zero_iff.mp h
    rw [this]; exact Int.le_refl 0
  | succ n ih =>
    intro hl
    obtain ⟨v, a, rfl⟩ : ∃ v a, w = v ++ [a] := snoc_ex (by intro e; rw [e] at h; cases h)
    rw [wnum_snoc]
    have h1 := ih (w := v) (by simpa using h) (fun b hb => hl b (by simp [hb]))
    have h2 := hl a (by simp)
    omega
theorem wnum_inj : ∀ {w v : List Int}, ltrs w → ltrs v → wnum w = wnum v → w = v := by
  intro w
  induction h : w.length generalizing w with
  | zero =>
    intro v _ hv e
    have : w = [] := List.length_eq_zero_iff.mp h
    subst this
    match hv' : v.length with
    | 0 => exact (List.length_eq_zero_iff.mp hv').symm
    | n + 1 =>
      obtain ⟨u, a, rfl⟩ : ∃ u a, v = u ++ [a] := snoc_ex (by intro e; rw [e] at hv'; cases hv')
      rw [wnum_snoc] at e
      have h1 := wnum_nn (w := u) (fun b hb => hv b (by simp [hb]))
      have h2 := hv a (by simp)
      have h3 : wnum [] = 0 := rfl
      omega
  | succ n ih =>
    intro v hw hv e
    obtain ⟨u, a, rfl⟩ : ∃ u a, w = u ++ [a] := snoc_ex (by intro e; rw [e] at h; cases h)
    have a2 := hw a (by simp)
    have hu := wnum_nn (w := u) (fun b hb => hw b (by simp [hb]))
    rw [wnum_snoc] at e
    match hv' : v.length with
    | 0 =>
      have : v = [] := List.length_eq_zero_iff.mp hv'
      subst this
      have h3 : wnum [] = 0 := rfl
      omega
    | m + 1 =>
      obtain ⟨u', a', rfl⟩ : ∃ u a, v = u ++ [a] := snoc_ex (by intro e; rw [e] at hv'; cases hv')
      have b2 := hv a' (by simp)
      rw [wnum_snoc] at e
      have e1 : a = a' := by omega
      have e2 : u = u' := ih (by simpa using h) (fun b hb => hw b (by simp [hb])) (fun b hb => hv b (by simp [hb])) (by omega)
      rw [e1, e2]
theorem wnum_le {w : List Int} : ∀ {d : Nat}, ltrs w → w.length ≤ d → wnum w ≤ 27 ^ d - 1 := by
  intro d
  induction d generalizing w with
  | zero =>
    intro _ h
    have : w = [] := List.length_eq_zero_iff.mp (by omega)
    rw [this]; decide
  | succ d ih =>
    intro hl h
    match hv' : w.length with
    | 0 =>
      have : w = [] := List.length_eq_zero_iff.mp hv'
      rw [this]
      have h3 : wnum [] = 0 := rfl
      have h4 : (0 : Int) < 27 ^ (d + 1) := Int.pow_pos (by decide)
      omega
    | m + 1 =>
      obtain ⟨u, a, rfl⟩ : ∃ u a, w = u ++ [a] := snoc_ex (by intro e; rw [e] at hv'; cases hv')
      rw [wnum_snoc]
      have h1 := ih (w := u) (fun b hb => hl b (by simp [hb])) (by simp at h; omega)
      have h2 := hl a (by simp)
      rw [Int.pow_succ]
      omega
/-- which of the words it is -/
def kwd (w : List Int) : Option Nat := fstP (fun k => decide (keyW.getD k [] = w)) 17 0
def kdB (B : Nat → Int) (i e : Nat) : Int :=
  if soB (B i) = 1 then (match kwd (lst B i (e - i)) with | some k => 256 + (k : Int) | none => if e - i ≤ 8 then 300 else 303)
  else if soB (B i) = 2 then (if e - i ≤ 4 then 301 else 303)
  else if B i = 59 ∨ B i = 61 ∨ B i = 43 ∨ B i = 45 ∨ B i = 42 ∨ B i = 47 ∨ B i = 60 ∨ B i = 40 ∨ B i = 41 then B i else 303
def numB (B : Nat → Int) (i : Nat) : Nat → Int
  | 0 => 0
  | d + 1 => 10 * numB B i d + B (i + d) - 48
def Kt (B : Nat → Int) (n nt k : Nat) : Int := if k < nt then kdB B (tokS B n k) (tokE B n (tokS B n k)) else 302
def Pt (B : Nat → Int) (n nt k : Nat) : Nat := if k < nt then tokS B n k else n
def Vt (B : Nat → Int) (n k : Nat) : Int := numB B (tokS B n k) (tokE B n (tokS B n k) - tokS B n k)
def Wt (B : Nat → Int) (n k : Nat) : List Int := lst B (tokS B n k) (tokE B n (tokS B n k) - tokS B n k)
def VK (x : Int) : Prop := x = 302 ∨ x = 300 ∨ x = 301 ∨ x = 303 ∨ x = 59 ∨ x = 61 ∨ x = 40 ∨ x = 41 ∨ x = 43 ∨ x = 45 ∨ x = 42 ∨ x = 60 ∨ x = 47 ∨ (256 ≤ x ∧ x ≤ 272)
theorem kwd_lt {w : List Int} {k : Nat} (h : kwd w = some k) : k < 17 ∧ keyW.getD k [] = w := by
  obtain ⟨_, h1, h2, _⟩ := fstP_some h
  exact ⟨by omega, by simpa using h2⟩
theorem Kt_VK {B : Nat → Int} {n nt k : Nat} : VK (Kt B n nt k) := by
  unfold Kt
  by_cases h : k < nt
  · rw [if_pos h]
    unfold kdB
    by_cases g1 : soB (B (tokS B n k)) = 1
    · rw [if_pos g1]
      cases hk : kwd (lst B (tokS B n k) (tokE B n (tokS B n k) - tokS B n k)) with
      | some j =>
        have := (kwd_lt hk).1
        dsimp only
        unfold VK; omega
      | none =>
        dsimp only
        unfold VK
        split <;> omega
    · rw [if_neg g1]
      by_cases g2 : soB (B (tokS B n k)) = 2
      · rw [if_pos g2]
        unfold VK
        split <;> omega
      · rw [if_neg g2]
        unfold VK
        split <;> omega
  · rw [if_neg h]; exact Or.inl rfl
/-- the model's number of a kind -/
def mkK (x : Int) : Int := if x = 302 then 0 else if x = 300 then 1 else if x = 301 then 2 else if x = 303 then 3 else if x = 59 then 4 else if x = 61 then 5 else if x = 40 then 6 else if x = 41 then 7 else if x = 43 then 8 else if x = 45 then 9 else if x = 42 then 10 else if x = 60 then 13 else if x = 47 then 15 else x - 236
def kmK (x : Int) : Int := if x = 0 then 302 else if x = 1 then 300 else if x = 2 then 301 else if x = 3 then 303 else if x = 4 then 59 else if x = 5 then 61 else if x = 6 then 40 else if x = 7 then 41 else if x = 8 then 43 else if x = 9 then 45 else if x = 10 then 42 else if x = 13 then 60 else if x = 15 then 47 else x + 236
theorem km_mk {x : Int} (h : VK x) : kmK (mkK x) = x := by
  unfold VK at h
  rcases h with rfl | rfl | rfl | rfl | rfl | rfl | rfl | rfl | rfl | rfl | rfl | rfl | rfl | ⟨h1, h2⟩
  all_goals try decide
  have e : mkK x = x - 236 := by
    unfold mkK
    iterate 13 rw [if_neg (by omega)]
  rw [e]
  unfold kmK
  iterate 13 rw [if_neg (by omega)]
  omega
theorem mk_iff {x c : Int} (hx : VK x) (hc : VK c) : mkK x = mkK c ↔ x = c := ⟨fun h => by rw [← km_mk hx, h, km_mk hc], fun h => by rw [h]⟩
theorem mk_word {x : Int} (h1 : 256 ≤ x) (h2 : x ≤ 272) : mkK x = x - 236 := by
  unfold mkK
  iterate 13 rw [if_neg (by omega)]
