/-! texts: the model's tokens -/
theorem cmp64_eq {x y : Int} (hx : 0 ≤ x ∧ x ≤ 1000000000000) (hy : 0 ≤ y ∧ y ≤ 1000000000000) : cmp64 x y = 0 ↔ x = y := by
  unfold cmp64
  have h1 : (lg_cmp (Int64.ofInt x) (Int64.ofInt y)).toInt = 0 ↔ lg_cmp (Int64.ofInt x) (Int64.ofInt y) = 0 := ⟨fun h => Int32.toInt_inj.mp (h.trans (by decide)), fun h => by rw [h]; decide⟩
  rw [h1, lg_cmp_eq]
  refine ⟨fun h => ?_, fun h => by rw [h]⟩
  have := congrArg Int64.toInt h
  have e1 : (Int64.ofInt x).toInt = x := w64_eq (x := x) ⟨by omega, by omega⟩
  have e2 : (Int64.ofInt y).toInt = y := w64_eq (x := y) ⟨by omega, by omega⟩
  rw [e1, e2] at this
  exact this
/-- the model's copy of the tape -/
def TpM (I : MI) (B : Nat → Int) (n : Nat) : Prop := n ≤ 2000 ∧ I 296 4 = (n : Int) ∧ (∀ k, k < n → and32 (I 298 k) 255 = B k) ∧ ∀ k, k < n → 0 ≤ B k ∧ B k ≤ 255
theorem tpm_congr {I I' : MI} {B : Nat → Int} {n : Nat} (h : TpM I B n) (h2 : I' 296 4 = I 296 4) (h3 : I' 298 = I 298) : TpM I' B n := by
  unfold TpM
  rw [h2, h3]
  exact h
theorem byteM {F k n : Nat} {I J : MI} {B : Nat → Int} (h : TpM I B n) : f_M_byteAt F (k : Int) I J = some (if k < n then B k else 0) := by
  unfold f_M_byteAt
  rw [h.2.1]
  by_cases g : k < n
  · rw [if_neg (by omega), if_pos (by have := h.1; omega), if_pos g, Int.toNat_natCast, h.2.2.1 k g]
  · rw [if_pos (by omega), if_neg g]
theorem isDigitM {F : Nat} {b : Int} {I J : MI} : f_M_isDigit F b I J = some (if soB b = 2 then 1 else 0) := by
  unfold f_M_isDigit
  by_cases g : soB b = 2
  · rw [if_pos g]
    have := soB_2.mp g
    rw [if_neg (by omega), if_neg (by omega)]
  · rw [if_neg g]
    have : ¬ (48 ≤ b ∧ b ≤ 57) := fun h => g (soB_2.mpr h)
    by_cases g2 : b < 48
    · rw [if_pos g2]
    · rw [if_neg g2, if_pos (by omega)]
theorem isLetterM {F : Nat} {b : Int} {I J : MI} : f_M_isLetter F b I J = some (if soB b = 1 then 1 else 0) := by
  unfold f_M_isLetter
  by_cases g : soB b = 1
  · rw [if_pos g]
    have := soB_1.mp g
    rw [if_neg (by omega), if_neg (by omega)]
  · rw [if_neg g]
    have : ¬ (97 ≤ b ∧ b ≤ 122) := fun h => g (soB_1.mpr h)
    by_cases g2 : b < 97
    · rw [if_pos g2]
    · rw [if_neg g2, if_pos (by omega)]
theorem soB_0 : soB 0 = 3 := by decide
/-- what a token leaves -/
theorem tokenM {F k : Nat} {a b c d : Int} {I J : MI} (h : I 296 10 = (k : Int)) (hk : k < 403) : f_M_token F a b c d I J = some (up2 (up2 (up2 (up2 I 299 k a) 300 k b) 301 k c) 296 10 ((k : Int) + 1), up2 J 302 k d) := by
  have e1 : ∀ v : Int, up2 I 299 k v 296 10 = (k : Int) := fun v => by rw [up2_r (by decide)]; exact h
  have e2 : ∀ v w : Int, up2 (up2 I 299 k v) 300 k w 296 10 = (k : Int) := fun v w => by rw [up2_r (by decide)]; exact e1 v
  have e3 : ∀ v w x : Int, up2 (up2 (up2 I 299 k v) 300 k w) 301 k x 296 10 = (k : Int) := fun v w x => by rw [up2_r (by decide)]; exact e2 v w
  unfold f_M_token
  simp only [h, Int.toNat_natCast, e1, e2, e3]
  rw [if_pos (by omega), if_pos (by omega), if_pos (by omega), if_pos (by omega), w32i (by omega) (by omega)]
def SMk (I J : MI) (B : Nat → Int) (n k : Nat) : Prop := ∀ j, j < k → tokS B n j < n ∧ I 299 j = mkK (kdB B (tokS B n j) (tokE B n (tokS B n j))) ∧ I 300 j = ((tokS B n j : Nat) : Int) ∧ (I 299 j = 2 → I 301 j = Vt B n j) ∧ (I 299 j = 1 → J 302 j = wnum (Wt B n j))
def TkM (I J : MI) (B : Nat → Int) (n nt : Nat) : Prop := NTk B n nt ∧ SMk I J B n nt ∧ (nt ≤ 400 → I 299 nt = 0 ∧ I 300 nt = (n : Int))
/-- one token more -/
theorem smk_push {k n : Nat} {I J : MI} {B : Nat → Int} {a c d : Int} (h : SMk I J B n k) (hs : tokS B n k < n) (ha : a = mkK (kdB B (tokS B n k) (tokE B n (tokS B n k)))) (hc : a = 2 → c = Vt B n k) (hd : a = 1 → d = wnum (Wt B n k)) : SMk (up2 (up2 (up2 (up2 I 299 k a) 300 k ((tokS B n k : Nat) : Int)) 301 k c) 296 10 ((k : Int) + 1)) (up2 J 302 k d) B n (k + 1) := fun j hj => by
  rw [up2_r (show (299 : Nat) ≠ 296 by decide), up2_r (show (299 : Nat) ≠ 301 by decide), up2_r (show (299 : Nat) ≠ 300 by decide), up2_r (show (300 : Nat) ≠ 296 by decide), up2_r (show (300 : Nat) ≠ 301 by decide), up2_r (show (301 : Nat) ≠ 296 by decide)]
  by_cases e : j = k
  · subst e
    rw [up2_same, up2_same, up2_same, up2_same]
    exact ⟨hs, ha, rfl, hc, hd⟩
  · rw [up2_k e, up2_k e, up2_r (show (300 : Nat) ≠ 299 by decide), up2_k e, up2_r (show (301 : Nat) ≠ 300 by decide), up2_r (show (301 : Nat) ≠ 299 by decide), up2_k e]
    exact h j (by omega)
theorem key_wn : ∀ k : Nat, k < 17 → (0 ≤ wnum (keyW.getD k []) ∧ wnum (keyW.getD k []) ≤ 1000000000) ∧ ∀ j : Nat, j < 17 → keyW.getD k [] = keyW.getD j [] → k = j := by decide +kernel
theorem kwd_iff {w : List Int} {k : Nat} (hk : k < 17) : keyW.getD k [] = w ↔ kwd w = some k := by
  constructor
  · intro h
    obtain ⟨b, hb⟩ := fstP_ex (p := fun k => decide (keyW.getD k [] = w)) (n := 17) (a := 0) (k := k) (Nat.zero_le _) (by omega) (by simpa using h)
    obtain ⟨b1, b2⟩ := kwd_lt hb
    have := (key_wn k hk).2 b b1 (by rw [h, b2])
    rw [this]; exact hb
  · intro h; exact (kwd_lt h).2
/-- the letters' run -/
theorem run_letters {F n i : Nat} (hF : 1000000 ≤ F) {I J : MI} {B : Nat → Int} (h : TpM I B n) (hi : i ≤ n) : iter (fun s : Int × Int => f_M_cut_L85 F (i : Int) s.1 s.2 I J) F (0, 0) = some (((rn (soP 1) B n i - i : Nat) : Int), wnum (lst B i (min (rn (soP 1) B n i - i) 8))) := by
  have hn := h.1
  obtain ⟨a1, a2, a3, a4⟩ := rn_spec (p := soP 1) (B := B) (n := n) _ i rfl
  have a2' := a2 hi
  refine iter_eq (e := (((rn (soP 1) B n i - i : Nat) : Int), wnum (lst B i (min (rn (soP 1) B n i - i) 8)))) (fun q => ∃ c : Nat, i + c ≤ rn (soP 1) B n i ∧ q.1 = (c : Int) ∧ q.2 = wnum (lst B i (min c 8))) (fun q => n - q.1.toNat) ?_ (by dsimp only; omega) ⟨0, by omega, rfl, rfl⟩
  rintro ⟨x, y⟩ ⟨c, h1, h2, h3⟩
  dsimp only at h2 h3 ⊢
  subst h2
  have e0 : w32 ((i : Int) + (c : Int)) = ((i + c : Nat) : Int) := by rw [w32i (by omega) (by omega)]; omega
  unfold f_M_cut_L85
  rw [e0, byteM h, Option.bind_some, isLetterM, Option.bind_some]
  by_cases hc : i + c = rn (soP 1) B n i
  · have : soB (if i + c < n then B (i + c) else 0) ≠ 1 := by
      by_cases g : i + c < n
      · rw [if_pos g]
        rcases a4 with q | q
        · omega
        · rw [← hc] at q
          simpa [soP] using q
      · rw [if_neg g]; decide
    rw [if_neg this]
    refine wpo_g rfl (wpo_s ?_)
    show ((c : Int), y) = _
    rw [h3, ← hc, show i + c - i = c by omega]
  · have hlt : i + c < rn (soP 1) B n i := by omega
    have hl : soB (B (i + c)) = 1 := by simpa [soP] using a3 (i + c) (by omega) hlt
    rw [if_pos (show i + c < n by omega), if_pos hl]
    refine wpo_n (by decide) (wpo_i (fun hc8 => wpo_s ?_) (fun hc8 => ?_))
    · rw [w32i (by omega) (by omega)]
      refine ⟨⟨c + 1, by omega, by dsimp only; omega, ?_⟩, by dsimp only; omega⟩
      dsimp only
      rw [h3, show min (c + 1) 8 = min c 8 by omega]
    · have hlt2 : ltrs (lst B i (min c 8)) := lst_ltrs (fun k h1 h2 => by simpa [soP] using a3 k h1 (by omega))
      have hb := wnum_le (d := 7) hlt2 (by rw [lst_len]; omega)
      have hnn := wnum_nn hlt2
      have h27 : (27 : Int) ^ 7 = 10460353203 := by decide
      rw [Option.bind_some, h3, M_app1 ⟨hnn, by omega⟩ (soB_1.mp hl), Option.bind_some, w32i (by omega) (by omega)]
      refine wpo_s ⟨⟨c + 1, by omega, by dsimp only; omega, ?_⟩, by dsimp only; omega⟩
      dsimp only
      rw [show min (c + 1) 8 = min c 8 + 1 by omega]
      show _ = wnum (lst B i (min c 8) ++ [B (i + min c 8)])
      rw [wnum_snoc, show min c 8 = c by omega]
theorem run_digits {F n i : Nat} (hF : 1000000 ≤ F) {I J : MI} {B : Nat → Int} (h : TpM I B n) (hi : i ≤ n) : iter (fun s : Int × Int => f_M_cut_L208 F (i : Int) s.1 s.2 I J) F (0, 0) = some (((rn (soP 2) B n i - i : Nat) : Int), numB B i (min (rn (soP 2) B n i - i) 4)) := by
  have hn := h.1
  obtain ⟨a1, a2, a3, a4⟩ := rn_spec (p := soP 2) (B := B) (n := n) _ i rfl
  have a2' := a2 hi
  refine iter_eq (e := (((rn (soP 2) B n i - i : Nat) : Int), numB B i (min (rn (soP 2) B n i - i) 4))) (fun q => ∃ c : Nat, i + c ≤ rn (soP 2) B n i ∧ q.1 = (c : Int) ∧ q.2 = numB B i (min c 4)) (fun q => n - q.1.toNat) ?_ (by dsimp only; omega) ⟨0, by omega, rfl, rfl⟩
  rintro ⟨x, y⟩ ⟨c, h1, h2, h3⟩
  dsimp only at h2 h3 ⊢
  subst h2
  have e0 : w32 ((i : Int) + (c : Int)) = ((i + c : Nat) : Int) := by rw [w32i (by omega) (by omega)]; omega
  unfold f_M_cut_L208
  rw [e0, byteM h, Option.bind_some, isDigitM, Option.bind_some]
  by_cases hc : i + c = rn (soP 2) B n i
  · have : soB (if i + c < n then B (i + c) else 0) ≠ 2 := by
      by_cases g : i + c < n
      · rw [if_pos g]
        rcases a4 with q | q
        · omega
        · rw [← hc] at q
          simpa [soP] using q
      · rw [if_neg g]; decide
    rw [if_neg this]
    refine wpo_g rfl (wpo_s ?_)
    show ((c : Int), y) = _
    rw [h3, ← hc, show i + c - i = c by omega]
  · have hlt : i + c < rn (soP 2) B n i := by omega
    have hl : soB (B (i + c)) = 2 := by simpa [soP] using a3 (i + c) (by omega) hlt
    have hd := soB_2.mp hl
    rw [if_pos (show i + c < n by omega), if_pos hl]
    refine wpo_n (by decide) (wpo_i (fun hc8 => wpo_s ?_) (fun hc8 => ?_))
    · rw [w32i (by omega) (by omega)]
      refine ⟨⟨c + 1, by omega, by dsimp only; omega, ?_⟩, by dsimp only; omega⟩
      dsimp only
      rw [h3, show min (c + 1) 4 = min c 4 by omega]
    · have nb := numB_bd (B := B) (i := i) (d := c) (fun k h1 h2 => soB_2.mp (by simpa [soP] using a3 k h1 (by omega)))
      have p4 : (10 : Int) ^ c ≤ 10 ^ 4 := by
        have : c = 0 ∨ c = 1 ∨ c = 2 ∨ c = 3 := by omega
        rcases this with rfl | rfl | rfl | rfl <;> decide
      have ec : min c 4 = c := by omega
      rw [ec] at h3
      rw [Option.bind_some, h3, w32i (x := 10 * numB B i c) (by omega) (by omega), w32i (x := 10 * numB B i c + B (i + c)) (by omega) (by omega), w32i (x := 10 * numB B i c + B (i + c) - 48) (by omega) (by omega), w32i (by omega) (by omega)]
      refine wpo_s ⟨⟨c + 1, by omega, by dsimp only; omega, ?_⟩, by dsimp only; omega⟩
      dsimp only
      rw [show min (c + 1) 4 = c + 1 by omega]
      rfl
/-- which word -/
theorem which_word {F : Nat} (hF : 1000000 ≤ F) {x1 x3 kind : Int} {w : List Int} {I J : MI} (hJ : KeyQ J) (hw : ltrs w) (hl : w.length ≤ 7) : iter (fun s : Int × Int => f_M_cut_L146 F x1 x3 (wnum w) s.1 s.2 I J) F (kind, 0) = some (match kwd w with | some k => 20 + (k : Int) | none => kind) := by
  have hb := wnum_le (d := 7) hw hl
  have hnn := wnum_nn hw
  have h27 : (27 : Int) ^ 7 = 10460353203 := by decide
  refine iter_eq (F := F) (s := (kind, (0 : Int))) (e := (match kwd w with | some k => 20 + (k : Int) | none => kind)) (fun q : Int × Int => ∃ j : Nat, j ≤ 17 ∧ q.2 = (j : Int) ∧ q.1 = (match kwd w with | some k => if k < j then 20 + (k : Int) else kind | none => kind)) (fun q : Int × Int => 17 - q.2.toNat) ?_ (by dsimp only; omega) ⟨0, by omega, rfl, by dsimp only; cases kwd w <;> rfl⟩
  rintro ⟨x, y⟩ ⟨j, h1, h2, h3⟩
  dsimp only at h2 h3 ⊢
  subst h2
  unfold f_M_cut_L146
  refine wpo_i (fun hc => wpo_s ?_) (fun hc => wpo_g (by clear h3; omega) ?_)
  · show x = _
    rw [h3]
    cases hk : kwd w with
    | none => rfl
    | some k =>
      have := (kwd_lt hk).1
      dsimp only
      rw [if_pos (by clear h3; omega)]
  have hj : j < 17 := by clear h3; omega
  obtain ⟨⟨q1, q2⟩, _⟩ := key_wn j hj
  have hce := cmp64_eq (x := wnum (keyW.getD j [])) (y := wnum w) (by clear h3; omega) (by clear h3; omega)
  have hki := kwd_iff (w := w) hj
  have hws : wnum (keyW.getD j []) = wnum w ↔ keyW.getD j [] = w := ⟨fun h => wnum_inj (fun a ha => (ch_key j hj).2.2 a ha) hw h, fun h => by rw [h]⟩
  rw [Int.toNat_natCast, hJ j hj, w32i (x := (j : Int) + 1) (by clear h3; omega) (by clear h3; omega)]
  refine wpo_i (fun hc2 => wpo_s ⟨⟨j + 1, by clear h3; omega, by clear h3; dsimp only; omega, ?_⟩, by clear h3; dsimp only; omega⟩) (fun hc2 => wpo_s ⟨⟨j + 1, by clear h3; omega, by clear h3; dsimp only; omega, ?_⟩, by clear h3; dsimp only; omega⟩)
  · dsimp only
    rw [h3]
    cases hk : kwd w with
    | none => rfl
    | some k =>
      dsimp only
      have : k ≠ j := fun e => hc2 (hce.mpr (hws.mpr (hki.mpr (by rw [hk, e]))))
      by_cases g : k < j
      · rw [if_pos g, if_pos (by clear h3; omega)]
      · rw [if_neg g, if_neg (by clear h3; omega)]
  · dsimp only
    have e : kwd w = some j := by
      by_cases g : cmp64 (wnum (keyW.getD j [])) (wnum w) = 0
      · exact hki.mp (hws.mp (hce.mp g))
      · exact absurd g hc2
    rw [e, w32i (by clear h3; omega) (by clear h3; omega)]
    dsimp only
    rw [if_pos (by clear h3; omega)]
theorem signM {F k i : Nat} {c d : Int} {I J : MI} (h : I 296 10 = (k : Int)) (hk : k < 403) (hc : 0 ≤ c ∧ c ≤ 255) : f_M_sign F (i : Int) c d I J = some (1, up2 (up2 (up2 (up2 I 299 k (mkK (if c = 59 ∨ c = 61 ∨ c = 43 ∨ c = 45 ∨ c = 42 ∨ c = 47 ∨ c = 60 ∨ c = 40 ∨ c = 41 then c else 303))) 300 k (i : Int)) 301 k 0) 296 10 ((k : Int) + 1), up2 J 302 k 0) := by
  have last : ∀ v : Int, f_M_sign_b95 F (i : Int) v I J = some (1, up2 (up2 (up2 (up2 I 299 k v) 300 k (i : Int)) 301 k 0) 296 10 ((k : Int) + 1), up2 J 302 k 0) := fun v => by
    unfold f_M_sign_b95
    rw [tokenM h hk, Option.bind_some]
  have b85 : ∀ v : Int, f_M_sign_b85 F (i : Int) c v I J = f_M_sign_b95 F (i : Int) (if c = 60 then 13 else v) I J := fun v => by
    unfold f_M_sign_b85
    by_cases e : c = 60
    · rw [if_neg (fun z => z e), if_pos e]
    · rw [if_pos e, if_neg e]
  have b75 : ∀ v : Int, f_M_sign_b75 F (i : Int) c v I J = f_M_sign_b85 F (i : Int) c (if c = 47 then 15 else v) I J := fun v => by
    unfold f_M_sign_b75
    by_cases e : c = 47
    · rw [if_neg (fun z => z e), if_pos e]
    · rw [if_pos e, if_neg e]
  have b65 : ∀ v : Int, f_M_sign_b65 F (i : Int) c v I J = f_M_sign_b75 F (i : Int) c (if c = 42 then 10 else v) I J := fun v => by
    unfold f_M_sign_b65
    by_cases e : c = 42
    · rw [if_neg (fun z => z e), if_pos e]
    · rw [if_pos e, if_neg e]
  have b55 : ∀ v : Int, f_M_sign_b55 F (i : Int) c v I J = f_M_sign_b65 F (i : Int) c (if c = 45 then 9 else v) I J := fun v => by
    unfold f_M_sign_b55
    by_cases e : c = 45
    · rw [if_neg (fun z => z e), if_pos e]
    · rw [if_pos e, if_neg e]
  have b43 : ∀ v : Int, f_M_sign_b43 F (i : Int) c v I J = f_M_sign_b55 F (i : Int) c (if c = 43 then 8 else v) I J := fun v => by
    unfold f_M_sign_b43
    by_cases e : c = 43
    · rw [if_neg (fun z => z e), if_pos e]
    · rw [if_pos e, if_neg e]
  have e0 : f_M_sign F (i : Int) c d I J = f_M_sign_b43 F (i : Int) c (if c = 59 then 4 else if c = 61 then 5 else if c = 40 then 6 else if c = 41 then 7 else 3) I J := by
    unfold f_M_sign
    by_cases e1 : c = 59
    · rw [if_neg (fun z => z e1), if_pos e1]
    rw [if_pos e1, if_neg e1]
    by_cases e2 : c = 61
    · rw [if_neg (fun z => z e2), if_pos e2]
    rw [if_pos e2, if_neg e2]
    by_cases e3 : c = 40
    · rw [if_neg (fun z => z e3), if_pos e3]
    rw [if_pos e3, if_neg e3]
    by_cases e4 : c = 41
    · rw [if_neg (fun z => z e4), if_pos e4]
    rw [if_pos e4, if_neg e4]
  have tab : ∀ c : Nat, c < 256 → (if (c : Int) = 60 then 13 else if (c : Int) = 47 then 15 else if (c : Int) = 42 then 10 else if (c : Int) = 45 then 9 else if (c : Int) = 43 then 8 else if (c : Int) = 59 then 4 else if (c : Int) = 61 then 5 else if (c : Int) = 40 then 6 else if (c : Int) = 41 then 7 else 3) = mkK (if (c : Int) = 59 ∨ (c : Int) = 61 ∨ (c : Int) = 43 ∨ (c : Int) = 45 ∨ (c : Int) = 42 ∨ (c : Int) = 47 ∨ (c : Int) = 60 ∨ (c : Int) = 40 ∨ (c : Int) = 41 then (c : Int) else 303) := by decide +kernel
  have tb := tab c.toNat (by omega)
  rw [show ((c.toNat : Nat) : Int) = c by omega] at tb
  rw [e0, b43, b55, b65, b75, b85, last, tb]
theorem cutM {F n : Nat} (hF : 1000000 ≤ F) {I J : MI} {B : Nat → Int} (h : TpM I B n) (hJ : KeyQ J) (h10 : I 296 10 = 0) : ∃ (I' J' : MI) (nt : Nat), (((iter (fun s : Int × MI × MI => f_M_cut_L7 F s.1 s.2.1 s.2.2) F (0, I, J)) = some (.inl (I', J')) ∧ nt ≤ 400 ∧ I' 296 10 = (nt : Int) ∧ n ≤ tokS B n nt) ∨ ((iter (fun s : Int × MI × MI => f_M_cut_L7 F s.1 s.2.1 s.2.2) F (0, I, J)) = some (.inr (I', J')) ∧ nt = 401)) ∧ NTk B n nt ∧ SMk I' J' B n nt ∧ (∀ a, a ≠ 296 → a ≠ 299 → a ≠ 300 → a ≠ 301 → I' a = I a) ∧ (∀ k, k ≠ 10 → I' 296 k = I 296 k) ∧ ∀ a, a ≠ 302 → J' a = J a := by
  have hn := h.1
  have key := wpo_iter (step := fun s : Int × MI × MI => f_M_cut_L7 F s.1 s.2.1 s.2.2) (Q := fun e => ∃ (I' J' : MI) (nt : Nat), ((e = .inl (I', J') ∧ nt ≤ 400 ∧ I' 296 10 = (nt : Int) ∧ n ≤ tokS B n nt) ∨ (e = .inr (I', J') ∧ nt = 401)) ∧ NTk B n nt ∧ SMk I' J' B n nt ∧ (∀ a, a ≠ 296 → a ≠ 299 → a ≠ 300 → a ≠ 301 → I' a = I a) ∧ (∀ k, k ≠ 10 → I' 296 k = I 296 k) ∧ ∀ a, a ≠ 302 → J' a = J a) (fun s => ∃ k i : Nat, k ≤ 401 ∧ i ≤ n ∧ s.1 = (i : Int) ∧ rn (soP 0) B n i = tokS B n k ∧ s.2.1 296 10 = (k : Int) ∧ SMk s.2.1 s.2.2 B n k ∧ (∀ a, a ≠ 296 → a ≠ 299 → a ≠ 300 → a ≠ 301 → s.2.1 a = I a) ∧ (∀ k, k ≠ 10 → s.2.1 296 k = I 296 k) ∧ ∀ a, a ≠ 302 → s.2.2 a = J a) (fun s => n - s.1.toNat) ?_ (F := F) (s := ((0 : Int), I, J)) (by dsimp only; omega) ⟨0, 0, by omega, by omega, rfl, rfl, h10, fun j hj => absurd hj (by omega), fun _ _ _ _ _ => rfl, fun _ _ => rfl, fun _ _ => rfl⟩
  · obtain ⟨e, e1, I', J', nt, q1, q2⟩ := key
    refine ⟨I', J', nt, ?_, q2⟩
    rw [e1]
    rcases q1 with ⟨a, b⟩ | ⟨a, b⟩
    · exact Or.inl ⟨by rw [a], b⟩
    · exact Or.inr ⟨by rw [a], b⟩
  rintro ⟨x, M, K⟩ ⟨k, i, p1, p2, p3, p4, p5, p6, p7, p8, p9⟩
  dsimp only at p3 p5 p6 p7 p8 p9 ⊢
  subst p3
  have hT : TpM M B n := tpm_congr h (p8 4 (by decide)) (p7 298 (by decide) (by decide) (by decide) (by decide))
  have hK : KeyQ K := fun j hj => by rw [p9 303 (by decide)]; exact hJ j hj
  unfold f_M_cut_L7
  rw [p5]
  refine wpo_i (fun hc => wpo_s ?_) (fun hc => ?_)
  · have : k = 401 := by omega
    subst this
    exact ⟨M, K, 401, Or.inr ⟨rfl, rfl⟩, ⟨by omega, fun j hj => (p6 j hj).1, Or.inl rfl⟩, p6, p7, p8, p9⟩
  have hk : k ≤ 400 := by omega
  rw [byteM hT, Option.bind_some, hT.2.1]
  refine wpo_i (fun hc2 => ?_) (fun hc2 => wpo_s ?_)
  · have hi : i < n := by omega
    rw [if_pos hi]
    obtain ⟨bb1, bb2⟩ := h.2.2.2 i hi
    have ew1 : w32 ((i : Int) + 1) = (i : Int) + 1 := w32i (by omega) (by omega)
    -- a blank
    have blank : soB (B i) = 0 → ((∃ k' i' : Nat, k' ≤ 401 ∧ i' ≤ n ∧ (i : Int) + 1 = (i' : Int) ∧ rn (soP 0) B n i' = tokS B n k' ∧ M 296 10 = (k' : Int) ∧ SMk M K B n k' ∧ (∀ a, a ≠ 296 → a ≠ 299 → a ≠ 300 → a ≠ 301 → M a = I a) ∧ (∀ k, k ≠ 10 → M 296 k = I 296 k) ∧ ∀ a, a ≠ 302 → K a = J a) ∧ n - ((i : Int) + 1).toNat < n - ((i : Int)).toNat) := fun hb => by
      refine ⟨⟨k, i + 1, p1, by omega, by omega, ?_, p5, p6, p7, p8, p9⟩, by omega⟩
      rw [← rn_go hi (by simp [soP, hb])]; exact p4
    have hb0 : ∀ c : Int, (c = 9 ∨ c = 10 ∨ c = 13 ∨ c = 32) → soB c = 0 := fun c hc => by unfold soB; rw [if_pos hc]
    rw [ew1]
    refine wpo_i (fun h9 => wpo_s (blank (hb0 _ (Or.inl h9)))) (fun h9 => wpo_i (fun h10' => wpo_s (blank (hb0 _ (Or.inr (Or.inl h10'))))) (fun h10' => wpo_i (fun h13 => wpo_s (blank (hb0 _ (Or.inr (Or.inr (Or.inl h13)))))) (fun h13 => ?_)))
    refine wpo_i (fun h32 => ?_) (fun h32 => wpo_s (blank (hb0 _ (Or.inr (Or.inr (Or.inr (by omega)))))))
    clear blank
    have hnb : soB (B i) ≠ 0 := by
      unfold soB
      rw [if_neg (by omega)]
      split
      · decide
      · split <;> decide
    have hsi : tokS B n k = i := by rw [← p4, rn_stop (Or.inr (by simpa [soP] using hnb))]
    obtain ⟨t1, t2⟩ := tokE_bd (B := B) hi
    have hsort := tok_sort (B := B) hi
    have hrn : soB (B i) ≠ 3 → rn (soP (soB (B i))) B n i = tokE B n i := fun g => by unfold tokE; rw [if_neg g]
    -- a token has been put
    have put : ∀ (a c d : Int), a = mkK (kdB B i (tokE B n i)) → (a = 2 → c = Vt B n k) → (a = 1 → d = wnum (Wt B n k)) → ∀ (i2 : Int), i2 = ((tokE B n i : Nat) : Int) → ((∃ k' i' : Nat, k' ≤ 401 ∧ i' ≤ n ∧ i2 = (i' : Int) ∧ rn (soP 0) B n i' = tokS B n k' ∧ up2 (up2 (up2 (up2 M 299 k a) 300 k (i : Int)) 301 k c) 296 10 ((k : Int) + 1) 296 10 = (k' : Int) ∧ SMk (up2 (up2 (up2 (up2 M 299 k a) 300 k (i : Int)) 301 k c) 296 10 ((k : Int) + 1)) (up2 K 302 k d) B n k' ∧ (∀ x, x ≠ 296 → x ≠ 299 → x ≠ 300 → x ≠ 301 → up2 (up2 (up2 (up2 M 299 k a) 300 k (i : Int)) 301 k c) 296 10 ((k : Int) + 1) x = I x) ∧ (∀ y, y ≠ 10 → up2 (up2 (up2 (up2 M 299 k a) 300 k (i : Int)) 301 k c) 296 10 ((k : Int) + 1) 296 y = I 296 y) ∧ ∀ x, x ≠ 302 → up2 K 302 k d x = J x) ∧ n - i2.toNat < n - ((i : Int)).toNat) := fun a c d ha hc hd i2 hi2 => by
      have hps := smk_push (k := k) (I := M) (J := K) (a := a) (c := c) (d := d) p6 (by rw [hsi]; exact hi) (by rw [hsi]; exact ha) hc hd
      rw [hsi] at hps
      refine ⟨⟨k + 1, tokE B n i, by omega, t2, hi2, ?_, by rw [up2_same]; omega, hps, fun x b1 b2 b3 b4 => by rw [up2_off b1, up2_off b4, up2_off b3, up2_off b2]; exact p7 x b1 b2 b3 b4, fun y hy => by rw [up2_k hy, up2_r (by decide), up2_r (by decide), up2_r (by decide)]; exact p8 y hy, fun x hx => by rw [up2_off hx]; exact p9 x hx⟩, by omega⟩
      show _ = rn (soP 0) B n (tokE B n (tokS B n k))
      rw [hsi]
    rw [isLetterM, Option.bind_some]
    by_cases g1 : soB (B i) = 1
    · rw [if_pos g1]
      refine wpo_n (by decide) ?_
      have hr := hrn (by omega)
      rw [g1] at hr
      rw [run_letters hF hT (by omega), Option.bind_some, hr]
      dsimp only
      have hlt : ltrs (lst B i (tokE B n i - i)) := lst_ltrs (fun j h1 h2 => by rw [hsort j h1 (by omega)]; exact g1)
      have hkd : kdB B i (tokE B n i) = (match kwd (lst B i (tokE B n i - i)) with | some k => 256 + (k : Int) | none => if tokE B n i - i ≤ 8 then 300 else 303) := by
        unfold kdB
        rw [if_pos g1]
        cases kwd (lst B i (tokE B n i - i)) <;> rfl
      have hwt : Wt B n k = lst B i (tokE B n i - i) := by unfold Wt; rw [hsi]
      have nolong : 6 < tokE B n i - i → kwd (lst B i (tokE B n i - i)) = none := fun hl => by
        cases hkw : kwd (lst B i (tokE B n i - i)) with
        | none => rfl
        | some j =>
          obtain ⟨c1, c2⟩ := kwd_lt hkw
          have c3 := (ch_key j c1).1
          rw [c2, lst_len] at c3
          omega
      have ei2 : w32 ((i : Int) + ((tokE B n i - i : Nat) : Int)) = ((tokE B n i : Nat) : Int) := by rw [w32i (by omega) (by omega)]; omega
      have fin : ∀ v : Int, v = mkK (kdB B i (tokE B n i)) → (v = 1 → tokE B n i - i ≤ 8) → wpo (f_M_cut_b179in7 F (i : Int) ((tokE B n i - i : Nat) : Int) (wnum (lst B i (min (tokE B n i - i) 8))) v M K) (fun r => Sum.elim (fun e => ∃ (I' J' : MI) (nt : Nat), ((e = .inl (I', J') ∧ nt ≤ 400 ∧ I' 296 10 = (nt : Int) ∧ n ≤ tokS B n nt) ∨ (e = .inr (I', J') ∧ nt = 401)) ∧ NTk B n nt ∧ SMk I' J' B n nt ∧ (∀ a, a ≠ 296 → a ≠ 299 → a ≠ 300 → a ≠ 301 → I' a = I a) ∧ (∀ k, k ≠ 10 → I' 296 k = I 296 k) ∧ ∀ a, a ≠ 302 → J' a = J a) (fun s' : Int × MI × MI => (∃ k i : Nat, k ≤ 401 ∧ i ≤ n ∧ s'.1 = (i : Int) ∧ rn (soP 0) B n i = tokS B n k ∧ s'.2.1 296 10 = (k : Int) ∧ SMk s'.2.1 s'.2.2 B n k ∧ (∀ a, a ≠ 296 → a ≠ 299 → a ≠ 300 → a ≠ 301 → s'.2.1 a = I a) ∧ (∀ k, k ≠ 10 → s'.2.1 296 k = I 296 k) ∧ ∀ a, a ≠ 302 → s'.2.2 a = J a) ∧ n - s'.1.toNat < n - ((i : Int)).toNat) r) := fun v hv h1 => by
        unfold f_M_cut_b179in7
        rw [tokenM p5 (by omega), Option.bind_some, ei2]
        exact wpo_s (put v 0 _ hv (fun e => by
          exfalso
          rw [hv, hkd] at e
          revert e
          cases hkw : kwd (lst B i (tokE B n i - i)) with
          | none =>
            dsimp only
            split <;> decide
          | some j =>
            have := (kwd_lt hkw).1
            dsimp only
            rw [mk_word (x := 256 + (j : Int)) (by omega) (by omega)]
            omega) (fun e => by rw [hwt, show min (tokE B n i - i) 8 = tokE B n i - i by have := h1 e; omega]) _ rfl)
      have fin2 : ∀ v0 : Int, v0 = (if tokE B n i - i ≤ 8 then 1 else 3) → wpo (f_M_cut_b135in7 F (i : Int) ((tokE B n i - i : Nat) : Int) (wnum (lst B i (min (tokE B n i - i) 8))) v0 M K) (fun r => Sum.elim (fun e => ∃ (I' J' : MI) (nt : Nat), ((e = .inl (I', J') ∧ nt ≤ 400 ∧ I' 296 10 = (nt : Int) ∧ n ≤ tokS B n nt) ∨ (e = .inr (I', J') ∧ nt = 401)) ∧ NTk B n nt ∧ SMk I' J' B n nt ∧ (∀ a, a ≠ 296 → a ≠ 299 → a ≠ 300 → a ≠ 301 → I' a = I a) ∧ (∀ k, k ≠ 10 → I' 296 k = I 296 k) ∧ ∀ a, a ≠ 302 → J' a = J a) (fun s' : Int × MI × MI => (∃ k i : Nat, k ≤ 401 ∧ i ≤ n ∧ s'.1 = (i : Int) ∧ rn (soP 0) B n i = tokS B n k ∧ s'.2.1 296 10 = (k : Int) ∧ SMk s'.2.1 s'.2.2 B n k ∧ (∀ a, a ≠ 296 → a ≠ 299 → a ≠ 300 → a ≠ 301 → s'.2.1 a = I a) ∧ (∀ k, k ≠ 10 → s'.2.1 296 k = I 296 k) ∧ ∀ a, a ≠ 302 → s'.2.2 a = J a) ∧ n - s'.1.toNat < n - ((i : Int)).toNat) r) := fun v0 hv0 => by
        unfold f_M_cut_b135in7
        refine wpo_i (fun h7 => fin v0 ?_ (fun e => ?_)) (fun h7 => ?_)
        · rw [hkd, nolong (by omega), hv0]
          dsimp only
          split <;> decide
        · rw [hv0] at e
          by_cases g : tokE B n i - i ≤ 8
          · exact g
          · rw [if_neg g] at e; omega
        · have em : min (tokE B n i - i) 8 = tokE B n i - i := by omega
          have ww := which_word (F := F) (x1 := (i : Int)) (x3 := ((tokE B n i - i : Nat) : Int)) (kind := v0) (I := M) hF hK hlt (by rw [lst_len]; omega)
          rw [em] at fin ⊢
          rw [ww, Option.bind_some]
          refine fin _ ?_ (fun _ => by omega)
          rw [hkd, hv0, if_pos (by omega)]
          cases hkw : kwd (lst B i (tokE B n i - i)) with
          | none =>
            dsimp only
            rw [if_pos (by omega)]; decide
          | some j =>
            have := (kwd_lt hkw).1
            dsimp only
            rw [mk_word (x := 256 + (j : Int)) (by omega) (by omega)]
            show (20 : Int) + (j : Int) = 256 + (j : Int) - 236
            omega
      refine wpo_i (fun h8 => fin2 1 (by rw [if_pos (by omega)])) (fun h8 => fin2 3 (by rw [if_neg (by omega)]))
    · rw [if_neg g1]
      refine wpo_g rfl ?_
      rw [isDigitM, Option.bind_some]
      by_cases g2 : soB (B i) = 2
      · rw [if_pos g2]
        refine wpo_n (by decide) ?_
        have hr := hrn (by omega)
        rw [g2] at hr
        rw [run_digits hF hT (by omega), Option.bind_some, hr]
        dsimp only
        have hkd : kdB B i (tokE B n i) = if tokE B n i - i ≤ 4 then 301 else 303 := by unfold kdB; rw [if_neg g1, if_pos g2]
        have hvt : Vt B n k = numB B i (tokE B n i - i) := by unfold Vt; rw [hsi]
        have ei2 : w32 ((i : Int) + ((tokE B n i - i : Nat) : Int)) = ((tokE B n i : Nat) : Int) := by rw [w32i (by omega) (by omega)]; omega
        unfold f_M_cut_b261in7
        refine wpo_i (fun h4 => ?_) (fun h4 => ?_)
        · rw [tokenM p5 (by omega), Option.bind_some, ei2]
          exact wpo_s (put 2 _ 0 (by rw [hkd, if_pos (by omega)]; decide) (fun _ => by rw [hvt, show min (tokE B n i - i) 4 = tokE B n i - i by omega]) (fun e => absurd e (by decide)) _ rfl)
        · rw [tokenM p5 (by omega), Option.bind_some, ei2]
          exact wpo_s (put 3 _ 0 (by rw [hkd, if_neg (by omega)]; decide) (fun e => absurd e (by decide)) (fun e => absurd e (by decide)) _ rfl)
      · rw [if_neg g2]
        refine wpo_g rfl ?_
        have h3 : soB (B i) = 3 := by
          have : soB (B i) = 0 ∨ soB (B i) = 1 ∨ soB (B i) = 2 ∨ soB (B i) = 3 := by
            unfold soB
            split
            · exact Or.inl rfl
            · split
              · exact Or.inr (Or.inl rfl)
              · split
                · exact Or.inr (Or.inr (Or.inl rfl))
                · exact Or.inr (Or.inr (Or.inr rfl))
          omega
        have hte : tokE B n i = i + 1 := by unfold tokE; rw [if_pos h3]
        have hkd : kdB B i (tokE B n i) = if B i = 59 ∨ B i = 61 ∨ B i = 43 ∨ B i = 45 ∨ B i = 42 ∨ B i = 47 ∨ B i = 60 ∨ B i = 40 ∨ B i = 41 then B i else 303 := by unfold kdB; rw [if_neg g1, if_neg g2]
        have hv1 : ∀ x : Int, x = kdB B i (tokE B n i) → mkK x ≠ 1 ∧ mkK x ≠ 2 := fun x hx => by
          rw [hkd] at hx
          by_cases g : B i = 59 ∨ B i = 61 ∨ B i = 43 ∨ B i = 45 ∨ B i = 42 ∨ B i = 47 ∨ B i = 60 ∨ B i = 40 ∨ B i = 41
          · rw [if_pos g] at hx
            rcases g with g | g | g | g | g | g | g | g | g <;> (rw [hx, g]; decide)
          · rw [if_neg g] at hx
            rw [hx]; decide
        have hb1 : f_M_byteAt F ((i : Int) + 1) M K = some (if i + 1 < n then B (i + 1) else 0) := byteM (k := i + 1) hT
        rw [hb1, Option.bind_some, signM p5 (by omega) ⟨bb1, bb2⟩, Option.bind_some]
        dsimp only
        rw [ew1]
        rw [← hkd]
        exact wpo_s (put _ 0 0 rfl (fun e => absurd e (hv1 _ rfl).2) (fun e => absurd e (hv1 _ rfl).1) _ (by rw [hte]; omega))
  · have hni : n ≤ i := by omega
    have hsn : n ≤ tokS B n k := by rw [← p4, rn_stop (Or.inl hni)]; exact hni
    exact ⟨M, K, k, Or.inl ⟨rfl, hk, p5, hsn⟩, ⟨by omega, fun j hj => (p6 j hj).1, Or.inr hsn⟩, p6, p7, p8, p9⟩
