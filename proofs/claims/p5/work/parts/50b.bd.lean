/-! what the facts of a book speak of: texts, tokens, names, a book's run (before the facts) -/
def isB (c : Int) : Prop := c = 32 ∨ c = 10
/-- behind the blanks -/
def Sk (b : Int → Int) (i j : Int) : Prop := i ≤ j ∧ (∀ k, i ≤ k → k < j → isB (b k)) ∧ ¬ isB (b j)
def isL (c : Int) : Prop := 97 ≤ c ∧ c ≤ 122
def isD (c : Int) : Prop := 48 ≤ c ∧ c ≤ 57
def isLD (c : Int) : Prop := isL c ∨ isD c
def Rn (b : Int → Int) (i j : Int) : Prop := i ≤ j ∧ (∀ k, i ≤ k → k < j → isLD (b k)) ∧ ¬ isLD (b j)
def rrL (b : Int → Int) (i : Int) : Nat → Int
  | 0 => 0
  | m + 1 => if 97 ≤ b (i + m) ∧ b (i + m) ≤ 122 then rrL b i m + 1 else rrL b i m
/-- the bytes of the texts -/
def ztx (i : Nat) : List Int := match i with
  | 10 => [112, 108, 97, 99, 101, 32, 32, 32, 109, 97, 114, 107, 32, 32, 32, 32, 116, 104, 105, 110, 103, 32, 32, 32, 112, 101, 114, 115, 111, 110, 32, 32, 102, 105, 110, 101, 32, 32, 32, 32, 109, 105, 116, 101, 32, 32, 32, 32, 119, 97, 103, 101, 32, 32, 32, 32, 102, 97, 115, 116, 32, 32, 32, 32, 105, 115, 32, 32, 32, 32, 32, 32, 107, 110, 111, 119, 115, 32, 32, 32, 102, 111, 114, 101, 105, 103, 110, 32]
  | 11 => [103, 111, 101, 115, 32, 32, 32, 32, 97, 115, 107, 115, 32, 32, 32, 32, 110, 97, 109, 101, 115, 32, 32, 32, 112, 111, 105, 110, 116, 115, 32, 32, 112, 117, 116, 115, 32, 32, 32, 32, 108, 101, 97, 114, 110, 115, 32, 32, 100, 97, 121, 32, 32, 32, 32, 32]
  | 12 => [111, 114, 32, 32, 32, 32, 32, 32, 97, 110, 100, 32, 32, 32, 32, 32, 110, 111, 116, 32, 32, 32, 32, 32, 99, 97, 114, 114, 105, 101, 100, 32, 108, 111, 110, 101, 32, 32, 32, 32, 104, 97, 115, 32, 32, 32, 32, 32, 97, 116, 32, 32, 32, 32, 32, 32, 119, 105, 116, 104, 32, 32, 32, 32, 109, 97, 114, 107, 115, 32, 32, 32, 110, 97, 109, 101, 100, 32, 32, 32, 110, 117, 109, 98, 101, 114, 32, 32]
  | _ => []
/-- a word of the texts is spelled there -/
def SpA (b : Int → Int) (jt : Nat) (tn f i n : Int) : Prop := 0 ≤ f ∧ f + n < tn ∧ (ztx jt).getD (f + n).toNat 0 = 32 ∧ ∀ k, 0 ≤ k → k < n → (ztx jt).getD (f + k).toNat 0 = b (i + k)
def Sp29 (b : Int → Int) (i n w : Int) : Prop := (0 ≤ w ∧ w < 11 ∧ SpA b 10 88 (w * 8) i n) ∨ (11 ≤ w ∧ w < 18 ∧ SpA b 11 56 ((w - 11) * 8) i n) ∨ (18 ≤ w ∧ w < 29 ∧ SpA b 12 88 ((w - 18) * 8) i n)
def zlshl (a b : Int) : Int := (Int64.ofInt a <<< ((Int32.ofInt b).toInt64 &&& 63)).toInt
def rrK (b : Int → Int) (i : Int) : Nat → Int
  | 0 => 0
  | m + 1 => if 97 ≤ b (i + m) ∧ b (i + m) ≤ 122 then zlshl (rrK b i m) 5 + (b (i + m) - 97 + 1) else rrK b i m
def rrN (b : Int → Int) (i : Int) : Nat → Int
  | 0 => 0
  | m + 1 => if 97 ≤ b (i + m) ∧ b (i + m) ≤ 122 then rrN b i m else rrN b i m * 10 + (b (i + m) - 48)
/-- kind and value of a run -/
def RunT (b : Int → Int) (i : Int) (m : Nat) (kd val : Int) : Prop :=
  (rrL b i m = m ∧ m ≤ 7 ∧ ((∃ w, 0 ≤ w ∧ w < 29 ∧ Sp29 b i m w ∧ kd = 2 ∧ val = w) ∨ ((∀ w, ¬ Sp29 b i m w) ∧ kd = 1 ∧ val = rrK b i m))) ∨ (¬ (rrL b i m = m ∧ m ≤ 7) ∧ rrL b i m = 0 ∧ m ≤ 3 ∧ kd = 3 ∧ val = rrN b i m) ∨ (¬ (rrL b i m = m ∧ m ≤ 7) ∧ ¬ (rrL b i m = 0 ∧ m ≤ 3) ∧ kd = 4)
def isS (c : Int) : Prop := c = 59 ∨ c = 60 ∨ c = 61 ∨ c = 62 ∨ c = 40 ∨ c = 41
/-- the token that begins there -/
def Tk (b : Int → Int) (i j kd val : Int) : Prop := (isLD (b i) ∧ ∃ m : Nat, j = i + m ∧ Rn b i j ∧ RunT b i m kd val) ∨ (¬ isLD (b i) ∧ j = i + 1 ∧ ((isS (b i) ∧ kd = b i) ∨ (¬ isS (b i) ∧ kd = 4)))
/-- the token that comes behind a place: kind, where, value, where the next begins -/
def Tok (b : Int → Int) (n lim i kd st val e : Int) : Prop := ∃ j, Sk b i j ∧ ((n > lim ∧ lim ≤ j ∧ kd = 4 ∧ st = lim) ∨ (¬ (n > lim ∧ lim ≤ j) ∧ n ≤ j ∧ kd = 0 ∧ st = n) ∨ (¬ (n > lim ∧ lim ≤ j) ∧ j < n ∧ st = j ∧ Tk b j e kd val))
/-- the tokens of a text -/
def OpenT (b : Int → Int) (n lim : Int) (k : Nat) (P K S V : Nat → Int) : Prop := P 0 = 0 ∧ (∀ j, j ≤ k → Tok b n lim (P j) (K j) (S j) (V j) (P (j + 1))) ∧ (∀ j, j < k → ¬ K j = 0 ∧ ¬ K j = 4) ∧ (K k = 0 ∨ K k = 4) ∧ k ≤ 940 ∧ ∀ j, j ≤ k → 0 ≤ P j ∧ P j ≤ n
/-- the byte there, below 0 where there is none -/
def tb (B : Nat → Int) (n i : Int) : Int := if 0 ≤ i ∧ i < n then B i.toNat % 256 else -1
def bText (B : Nat → Int) (n : Int) (k : Nat) (P K S V : Nat → Int) : Prop := (0 ≤ n ∧ n ≤ 940) ∧ OpenT (tb B n) n 400 k P K S V
def b107 (B K S V : Nat → Int) (n c4 : Int) : Prop := ∃ (k : Nat) (P : Nat → Int), bText B n k P K S V ∧ c4 = (k : Int) + 1
def cint (cu : CUt) (κ j : Nat) : Int := match cu κ j with
  | some (.int x) => x.toInt
  | _ => 0
def cB (cu : CUt) : Nat → Int := fun j => if j < 940 then cint cu 26 j else 0
def cK (cu : CUt) (κ : Nat) : Nat → Int := fun j => if j < 941 then cint cu κ j else 0
/-- a long of a cell -/
def clong (cu : CUt) (κ j : Nat) : Int := match cu κ j with
  | some (.long x) => x.toInt
  | _ => 0
def cV (cu : CUt) : Nat → Int := fun j => if j < 941 then clong cu 6 j else 0
def f107 (cu : CUt) (n : Int) : Prop := b107 (cB cu) (cK cu 4) (cK cu 5) (cV cu) n (cint cu 3 4) ∧ cint cu 3 5 = 0 ∧ cint cu 3 6 = cint cu 4 0 ∧ cint cu 3 7 = cint cu 5 0 ∧ clong cu 3 8 = clong cu 6 0 ∧ cint cu 3 9 = 0
/-- counts and names of the reference and of the class -/
def RK (SS NR CN NM : Nat → Int) : Prop := (∀ s, s < 4 → SS s = CN s) ∧ (∀ (s i : Nat), s < 4 → (i : Int) < CN s → NR (bs s - 28 + i) = wd (NM (s * 10 + i)) ∧ 0 ≤ NM (s * 10 + i) ∧ NM (s * 10 + i) < 34359738368) ∧ ∀ q, zin64 (NR q)
def bCity (SS NR CN NM : Nat → Int) (x : Int) : Prop := RK SS NR CN NM ∧ INV CN NM x
def nmF (K V : Nat → Int) (lo hi : Int) (idx : Nat) : Int := if K idx = 3 then (if lo ≤ V idx ∧ V idx ≤ hi then 0 else 2) else 1
/-- the fault if a name of that sort is wanted there; 0 without one -/
def tdF (K V CN NM : Nat → Int) (s idx : Nat) : Int := if K idx = 1 then (if lkS CN NM s (V idx) = -1 then 3 else 0) else 1
/-- of which sort what stands behind a verb is -/
def bSt (w : Int) : Nat := if w = 11 then 0 else if w = 12 ∨ w = 16 then 3 else 2
/-- the marks of one asking -/
def bMk (K V CN NM : Nat → Int) : Nat → Nat → Nat → Int × Nat
  | 0, _, _ => (99, 0)
  | t + 1, s, i => if tdF K V CN NM 1 i = 0 then (if s.testBit (lkS CN NM 1 (V i)).toNat = true then (3, i) else if K (i + 1) = 1 then bMk K V CN NM t (s ||| 2 ^ (lkS CN NM 1 (V i)).toNat) (i + 1) else (0, i + 1)) else (tdF K V CN NM 1 i, i)
def bLine (K V CN NM : Nat → Int) (t n i : Nat) : Int × Nat := if K i = 2 ∧ V i = 17 then (if 40 ≤ n then (4, i) else if nmF K V 1 60 (i + 1) = 0 then (0, i + 2) else (nmF K V 1 60 (i + 1), i + 1))
  else if tdF K V CN NM 3 i = 0 then (if 40 ≤ n then (4, i) else if K (i + 1) = 2 ∧ 11 ≤ V (i + 1) ∧ V (i + 1) ≤ 16 then (if tdF K V CN NM (bSt (V (i + 1))) (i + 2) = 0 then (if V (i + 1) = 12 then bMk K V CN NM t 0 (i + 3) else (0, i + 3)) else (tdF K V CN NM (bSt (V (i + 1))) (i + 2), i + 2)) else (1, i + 1))
  else (tdF K V CN NM 3 i, i)
/-- the whole text: fault, where -/
def bRun (K V CN NM : Nat → Int) : Nat → Nat → Nat → Int × Nat
  | 0, _, _ => (99, 0)
  | t + 1, n, i => if K i = 0 then (0, i) else if (bLine K V CN NM t n i).1 = 0 then (if K (bLine K V CN NM t n i).2 = 59 then bRun K V CN NM t (n + 1) ((bLine K V CN NM t n i).2 + 1) else (1, (bLine K V CN NM t n i).2)) else bLine K V CN NM t n i
def b108 (B SS NR : Nat → Int) (f n : Int) : Prop := ∃ (k : Nat) (P K S V CN NM : Nat → Int) (x : Int) (R : Int × Nat) (t0 : Nat), bText B n k P K S V ∧ bCity SS NR CN NM x ∧ (∀ T, bRun K V CN NM (T + t0) 0 0 = R) ∧ ¬ R.1 = 99 ∧ R.1 = f
/-- the words that are no names, as the reference has them, by the class's numbers -/
def RC (w : Nat) : Int := ([482854658917, 1835102827, 499967946343, 123581014175598, 1718185573, 1835627621, 2002872165, 1717662580, 26995, 461414299507, 28832984742848366, 1735353715, 1634954099, 474080961907, 123623812527219, 1886745715, 119182682386035, 6578553, 28530, 6385252, 7237492, 27973166868030820, 1819242085, 6840691, 24948, 2003399784, 469786323827, 474080961892, 121450625394034] : List Int).getD w 0
def tokM (kd val : Int) (F : Nat → Int) : Prop := (kd = 0 ∧ F 11 = 0) ∨ (kd = 4 ∧ F 11 = 4) ∨ (kd = 1 ∧ F 11 = 1 ∧ F 17 = wd val ∧ (∀ w, w < 29 → ¬ F 17 = RC w) ∧ 0 ≤ val ∧ val < 34359738368) ∨ (kd = 2 ∧ F 11 = 1 ∧ F 17 = RC val.toNat ∧ 0 ≤ val ∧ val < 29) ∨ (kd = 3 ∧ F 11 = 2 ∧ F 14 = val ∧ 0 ≤ val ∧ val < 1000) ∨ (4 < kd ∧ kd < 63 ∧ F 11 = 3 ∧ F 14 = kd)
/-- the reference stands at that token -/
def rAt (P K S V F : Nat → Int) (j : Nat) : Prop := F 12 = S j ∧ tokM (K j) (V j) F ∧ (¬ K j = 0 → ¬ K j = 4 → F 4 = P (j + 1))
def b109 (B SS NR F : Nat → Int) (n f t : Int) : Prop := ∃ (k : Nat) (P K S V CN NM : Nat → Int) (x : Int) (R : Int × Nat) (t0 i j : Nat), bText B n k P K S V ∧ bCity SS NR CN NM x ∧ rAt P K S V F j ∧ j ≤ k ∧ t = (i : Int) ∧ i ≤ 40 ∧ (∀ T, bRun K V CN NM (T + t0) i j = R) ∧ ¬ R.1 = 99 ∧ R.1 = f
def cS (cu : CUt) : Nat → Int := fun s => if s < 4 then cint cu 27 s else 0
def cN (cu : CUt) : Nat → Int := fun q => if q < 56 then clong cu 30 q else 0
def cR (cu : CUt) : Nat → Int := fun j => if j = 17 then clong cu 25 17 else if j = 4 ∨ j = 11 ∨ j = 12 ∨ j = 14 then cint cu 25 j else 0
def f109 (cu : CUt) (f t : Int) : Prop := cint cu 25 15 = 0 ∧ cint cu 25 5 = 400 ∧ b109 (cB cu) (cS cu) (cN cu) (cR cu) (cint cu 25 3) f t
def b110 (B SS NR F : Nat → Int) (n f t : Int) : Prop := ∃ (k : Nat) (P K S V CN NM : Nat → Int) (x : Int) (R : Int × Nat) (t0 i j : Nat), bText B n k P K S V ∧ bCity SS NR CN NM x ∧ rAt P K S V F j ∧ j ≤ k ∧ t = (i : Int) ∧ i < 40 ∧ (∀ T, (if K j = 59 then bRun K V CN NM (T + t0) (i + 1) (j + 1) else (1, j)) = R) ∧ ¬ R.1 = 99 ∧ R.1 = f
def f110 (cu : CUt) (f t : Int) : Prop := cint cu 25 15 = 0 ∧ cint cu 25 5 = 400 ∧ b110 (cB cu) (cS cu) (cN cu) (cR cu) (cint cu 25 3) f t
section BF1
variable {cu cu' : CUt}
theorem cint_eqx {κ j : Nat} (h : cu' κ j = cu κ j) : cint cu' κ j = cint cu κ j := by unfold cint; rw [h]
theorem clong_eq {κ j : Nat} (h : cu' κ j = cu κ j) : clong cu' κ j = clong cu κ j := by unfold clong; rw [h]
theorem cB_eq (h : ∀ j, j < 940 → cu' 26 j = cu 26 j) : cB cu' = cB cu := by
  funext j
  unfold cB
  split
  · rename_i q; exact cint_eqx (h j q)
  · rfl
theorem cS_eq (h : ∀ j, j < 4 → cu' 27 j = cu 27 j) : cS cu' = cS cu := by
  funext j
  unfold cS
  split
  · rename_i q; exact cint_eqx (h j q)
  · rfl
theorem cN_eq (h : ∀ j, j < 56 → cu' 30 j = cu 30 j) : cN cu' = cN cu := by
  funext j
  unfold cN
  split
  · rename_i q; exact clong_eq (h j q)
  · rfl
theorem cK_eq {κ : Nat} (h : ∀ j, j < 941 → cu' κ j = cu κ j) : cK cu' κ = cK cu κ := by
  funext j
  unfold cK
  split
  · rename_i q; exact cint_eqx (h j q)
  · rfl
theorem cV_eq (h : ∀ j, j < 941 → cu' 6 j = cu 6 j) : cV cu' = cV cu := by
  funext j
  unfold cV
  split
  · rename_i q; exact clong_eq (h j q)
  · rfl
theorem cR_eq (h : ∀ j, j = 17 ∨ j = 4 ∨ j = 11 ∨ j = 12 ∨ j = 14 → cu' 25 j = cu 25 j) : cR cu' = cR cu := by
  funext j
  unfold cR
  split
  · exact clong_eq (h 17 (Or.inl rfl))
  · split
    · rename_i q; exact cint_eqx (h j (Or.inr q))
    · rfl
end BF1
