/-! what the facts say (their numbers: NOTES.md, 4 b) -/
/-- a LINE of the class's book: verb, actor, object -/
def rowOK (v a o : Int) : Prop := (v = 11 ∧ 0 ≤ a ∧ a ≤ 5 ∧ 0 ≤ o ∧ o ≤ 3) ∨ (v = 12 ∧ 0 ≤ a ∧ a ≤ 5 ∧ 0 ≤ o ∧ o ≤ 5) ∨ (13 ≤ v ∧ v ≤ 15 ∧ 0 ≤ a ∧ a ≤ 5 ∧ 0 ≤ o ∧ o ≤ 7) ∨ (v = 16 ∧ 0 ≤ a ∧ a ≤ 5 ∧ 0 ≤ o ∧ o ≤ 5) ∨ (v = 17 ∧ -1 ≤ a ∧ a ≤ 5 ∧ 1 ≤ o ∧ o ≤ 60)
/-- a line of the reference's: what, who, whom -/
def rdOK (v a o : Int) : Prop := (v = 0 ∧ 0 ≤ a ∧ a ≤ 5 ∧ 0 ≤ o ∧ o ≤ 3) ∨ (v = 1 ∧ 0 ≤ a ∧ a ≤ 5 ∧ 0 ≤ o ∧ o ≤ 5) ∨ (2 ≤ v ∧ v ≤ 4 ∧ 0 ≤ a ∧ a ≤ 5 ∧ 0 ≤ o ∧ o ≤ 7) ∨ (v = 5 ∧ 0 ≤ a ∧ a ≤ 5 ∧ 0 ≤ o ∧ o ≤ 5) ∨ (v = 6 ∧ 1 ≤ a ∧ a ≤ 60)
def isJoin (v : Int) : Bool := decide (v = 21) || decide (v = 22)
/-- the depth behind so many codes of a reverse row -/
def rdep (f : Nat → Int) : Nat → Option Int
  | 0 => some 0
  | i + 1 => (match rdep f i with
    | some d => if decide (f i = 20) = true then (if decide (1 ≤ d) = true then some d else none) else if isJoin (f i) = true then (if decide (2 ≤ d) = true then some (d - 1) else none) else some (d + 1)
    | none => none)
/-- so many joins -/
def njoin (f : Nat → Int) : Nat → Int
  | 0 => 0
  | i + 1 => njoin f i + (if isJoin (f i) = true then 1 else 0)
/-- what lies at a place, of so many things: bits -/
def lyP (f : Nat → Int) (l : Int) : Nat → Nat
  | 0 => 0
  | t + 1 => lyP f l t ||| (if (decide (f (54 + t) ≤ 0) && decide (f (46 + t) = l)) = true then 2 ^ t else 0)
/-- what of it fits -/
def ftP (f : Nat → Int) (l m : Int) : Nat → Nat
  | 0 => lyP f l (f 2).toNat
  | t + 1 => if (Int32.ofInt (f (16 + t)) &&& Int32.ofInt m) = Int32.ofInt m then ftP f l m t else ftP f l m t &&& (1023 ^^^ 2 ^ t)
def cbP (f : Nat → Int) (q : Int) : Nat → Nat
  | 0 => 0
  | t + 1 => cbP f q t ||| (if decide (f (54 + t) = q + 1) = true then 2 ^ t else 0)
/-- the words that are no names, as the reference has them -/
def RVk (k : Nat) : Int := ([482854658917, 1835102827, 499967946343, 26995, 123581014175598, 28832984742848366, 461414299507, 1718185573, 1835627621, 2002872165, 1717662580, 1735353715, 1634954099, 474080961907, 123623812527219, 1886745715, 119182682386035, 6578553, 28530, 6385252, 7237492, 27973166868030820, 1819242085, 6840691, 24948, 2003399784, 469786323827, 474080961892, 121450625394034] : List Int).getD k 0
/-- the bytes that five numbers give -/
def fby (zs : List Int) (i : Nat) : Int := ((Int32.ofInt (zs.getD (i / 4) 0) >>> (Int32.ofInt (24 - 8 * ((i % 4 : Nat) : Int)) &&& 31)).toInt8.toInt32).toInt
/-- what count() answers by the reference's cells -/
def cntR (cu : CUt) (a : Int) : Int := if a = 8 then cint cu 25 2 else if 0 ≤ a ∧ a ≤ 7 then cint cu 27 a.toNat else -1
/-- a city whose counts are these -/
def cGood (cu : CUt) (qc : Nat) (g : Nat → Int) (b : Nat → Option Value) : Prop := ∃ (qn qm : Nat) (NM : Nat → Int) (x : Int), cu (ky qc 51) 0 = some (.ref qn) ∧ cu (ky qc 51) 1 = some (.ref qm) ∧ (∀ s : Nat, s < 8 → ∃ y : Int32, cu (ky qn 52) s = some (.int y) ∧ y.toInt = g s) ∧ (∀ k : Nat, k < 40 → cu (ky qm 53) k = some (.long (Int64.ofInt (NM k)))) ∧ INV g NM x ∧ ∀ s i : Nat, s < 4 → (i : Int) < g s → (0 ≤ NM (s * 10 + i) ∧ NM (s * 10 + i) < 34359738368) ∧ b (bs s - 28 + i) = some (.long (Int64.ofInt (wd (NM (s * 10 + i)))))
/-- so many scenes of the history from a place on, but for one place, have this city -/
def hGo (cu : CUt) (qc : Nat) (f s t : Int) : Prop := ∀ i : Nat, (i : Int) < s → (f + i) % 9 ≠ t → ∃ qh : Nat, cu 8 ((f + i) % 9).toNat = some (.ref qh) ∧ cu (ky qh 64) 0 = some (.ref qc)
def FPX (id : Nat) (cu : CUt) (zs : List Int) : Prop := match id with
  | 0 => ∃ x y, zs = [x, y] ∧ x ≤ y
  | 1 => ∃ n, zs = [n] ∧ ∀ j : Nat, (j : Int) < n → rowOK (cint cu 10 j) (cint cu 11 j) (cint cu 12 j)
  | 2 => ∃ i : Nat, zs = [(i : Int), (i : Int) + 1] ∧ rowOK (cint cu 10 i) (cint cu 11 i) (cint cu 12 i)
  | 3 => ∃ n, zs = [n] ∧ ∀ j : Nat, (j : Int) < n → 0 ≤ cint cu 2 j ∧ cint cu 2 j ≤ 7
  | 5 => ∃ n, zs = [n] ∧ ∀ j : Nat, (j : Int) < n → 0 ≤ cint cu 26 j ∧ cint cu 26 j ≤ 7
  | 16 => ∃ a b : Int32, zs = [a.toInt, b.toInt, (o_op 16 a b).toInt]
  | 17 => ∃ a b : Int32, zs = [a.toInt, b.toInt, (o_op 17 a b).toInt]
  | 18 => ∃ a b : Int32, zs = [a.toInt, b.toInt, (o_op 18 a b).toInt]
  | 19 => ∃ a b : Int32, zs = [a.toInt, b.toInt, (o_op 19 a b).toInt]
  | 23 => ∃ a b : Int32, zs = [a.toInt, b.toInt, (o_op 23 a b).toInt]
  | 24 => ∃ a b : Int32, zs = [a.toInt, b.toInt, (o_op 24 a b).toInt]
  | 25 => ∃ a b : Int32, zs = [a.toInt, b.toInt, (o_op 25 a b).toInt]
  | 26 => ∃ a b : Int32, zs = [a.toInt, b.toInt, (o_op 26 a b).toInt]
  | 30 => zs = [] ∧ (cint cu 27 3 ≤ 0 ∨ 1 ≤ cint cu 27 0)
  | 31 => zs = [] ∧ (cint cu 41 3 ≤ 0 ∨ 1 ≤ cint cu 41 0)
  | 32 => zs = [] ∧ (cint cu 41 272 ≤ 0 ∨ 1 ≤ cint cu 41 269)
  | 33 => zs = [] ∧ (cint cu 28 3 ≤ 0 ∨ 1 ≤ cint cu 28 0)
  | 34 => zs = [] ∧ ∃ d, (cint cu 41 88).toNat ≤ 60 ∧ rdep (fun j => cint cu 41 (89 + 3 * j)) (cint cu 41 88).toNat = some d
  | 35 => zs = [] ∧ ∃ d, (cint cu 41 357).toNat ≤ 60 ∧ rdep (fun j => cint cu 41 (358 + 3 * j)) (cint cu 41 357).toNat = some d
  | 36 => ∃ i : Nat, zs = [(i : Int)] ∧ ∀ j : Nat, j < i → cint cu 28 j = 0
  | 37 => ∃ i : Nat, zs = [(i : Int)] ∧ ∀ j : Nat, j < i → cint cu 27 j = (if j < 43 then cint cu 28 j else 0)
  | 38 => ∃ i : Nat, zs = [(i : Int)] ∧ ∀ j : Nat, j < i → cint cu 27 j = cint cu 41 j
  | 39 => ∃ i : Nat, zs = [(i : Int), (i : Int) + 269] ∧ ∀ j : Nat, j < i → cint cu 27 j = cint cu 41 (269 + j)
  | 42 => ∃ l, zs = [l, (lyP (cint cu 27) l (cint cu 27 2).toNat : Int)] ∧ (cint cu 27 2).toNat ≤ 8
  | 43 => ∃ l m, zs = [l, m, (ftP (cint cu 27) l m (cint cu 27 2).toNat : Int)] ∧ (cint cu 27 2).toNat ≤ 8
  | 44 => ∃ q, zs = [q, (cbP (cint cu 27) q (cint cu 27 2).toNat : Int)] ∧ (cint cu 27 2).toNat ≤ 8
  | 45 => ∃ (l : Int) (t : Nat), zs = [l, (lyP (cint cu 27) l t : Int), (t : Int)] ∧ t ≤ 8
  | 46 => ∃ (l m : Int) (t : Nat), zs = [l, m, (ftP (cint cu 27) l m t : Int), (t : Int)] ∧ t ≤ 8 ∧ (cint cu 27 2).toNat ≤ 8
  | 47 => ∃ (q : Int) (t : Nat), zs = [q, (cbP (cint cu 27) q t : Int), (t : Int)] ∧ t ≤ 8
  | 48 => ∃ n v z : Int, zs = [n, v, z] ∧ n + v ≤ z
  | 60 => ∃ k : Nat, zs = [(k : Int), 4 * (k : Int)] ∧ ∀ j : Nat, j < k → rdOK (cint cu 29 (4 * j)) (cint cu 29 (4 * j + 1)) (cint cu 29 (4 * j + 2))
  | 70 => ∃ (k : Nat) (d : Int), zs = [(k : Int), 3 * (k : Int), d] ∧ rdep (fun j => cint cu 29 (3 * j)) k = some d
  | 71 => ∃ t : Nat, zs = [(t : Int), njoin (cint cu 39) t]
  | 72 => ∃ c t o w, zs = [c, t, o, w] ∧ c + t + w ≤ 2 * o
  | 73 => ∃ (i : Nat) (d : Int), zs = [(i : Int), d] ∧ i ≤ 60 ∧ rdep (fun j => cint cu 27 (89 + 3 * j)) i = some d
  | 74 => zs = [] ∧ ∃ d, (cint cu 27 88).toNat ≤ 60 ∧ rdep (fun j => cint cu 27 (89 + 3 * j)) (cint cu 27 88).toNat = some d
  | 75 => ∃ i : Nat, zs = [(i : Int), (i : Int) + 89] ∧ ∀ j : Nat, j < i → cint cu 27 (89 + j) = cint cu 29 j
  | 76 => ∃ t : Nat, zs = [(t : Int)] ∧ (t = 0 ∨ isJoin (cint cu 39 (t - 1)) = false)
  | 77 => zs = [] ∧ cint cu 1 1 = cint cu 25 2
  | 78 => zs = [] ∧ (cu 21 0 = some .null ↔ cint cu 43 0 = 0)
  | 79 => zs = [] ∧ (cu 21 1 = some .null ↔ cint cu 43 1 = 0)
  | 80 => zs = [] ∧ ∀ j : Nat, j < 940 → cint cu 2 j = cint cu 26 j
  | 81 => zs = [] ∧ ∀ j : Nat, j < 29 → cu 31 j = some (.long (Int64.ofInt (RVk j)))
  | 84 => zs.length = 5 ∧ ∀ j : Nat, j < 940 → cint cu 2 j = (if cint cu 25 2 + 20 ≤ 940 ∧ cint cu 25 2 ≤ (j : Int) ∧ (j : Int) < cint cu 25 2 + 20 then fby zs ((j : Int) - cint cu 25 2).toNat else cint cu 26 j)
  | 86 => ∃ a r : Int, zs = [a, r] ∧ r = cntR cu a
  | 90 => zs = [] ∧ ∃ qc : Nat, cu 44 0 = some (.ref qc) ∧ cGood cu qc (fun s => cint cu 27 s) (fun k => cu 30 k)
  | 91 => zs = [] ∧ ∃ qc : Nat, cu 44 0 = some (.ref qc) ∧ hGo cu qc (cint cu 7 1) (cint cu 7 2) (-1)
  | 92 => zs = [] ∧ ∃ qc : Nat, cu 44 0 = some (.ref qc) ∧ hGo cu qc (cint cu 7 1) (cint cu 7 2 + 1) (-1)
  | 93 => ∃ (qc : Nat) (f s : Int), zs = [(qc : Int), f, s] ∧ hGo cu qc f s (-1)
  | 94 => zs = [] ∧ (cu 21 0 = some .null ∨ ∃ q qc : Nat, cu 21 0 = some (.ref q) ∧ cu (ky q 71) 0 = some (.ref qc) ∧ cGood cu qc (fun s => cint cu 41 s) (fun k => cu 42 k))
  | 95 => zs = [] ∧ (cu 21 1 = some .null ∨ ∃ q qc : Nat, cu 21 1 = some (.ref q) ∧ cu (ky q 78) 0 = some (.ref qc) ∧ cGood cu qc (fun s => cint cu 41 (269 + s)) (fun k => cu 42 (28 + k)))
  | 98 => ∃ (qc : Nat) (f s t : Int), zs = [(qc : Int), f, s, t, t + 1] ∧ hGo cu qc f s t
  | 100 => ∃ f i : Int, zs = [f, i, (f + i) % 9]
  | 101 => ∃ qc : Nat, zs = [(qc : Int)] ∧ cGood cu qc (fun s => cint cu 27 s) (fun k => cu 30 k)
  | 102 => zs = [] ∧ ∃ q qc : Nat, cu 21 0 = some (.ref q) ∧ cu (ky q 71) 0 = some (.ref qc) ∧ cu 44 0 = some (.ref qc)
  | 103 => zs = [] ∧ ∃ q qc : Nat, cu 21 1 = some (.ref q) ∧ cu (ky q 78) 0 = some (.ref qc) ∧ cu 44 0 = some (.ref qc)
  | 104 => ∃ i : Nat, zs = [(i : Int)] ∧ i ≤ 28 ∧ ∀ k : Nat, k < i → cu 30 k = cu 42 k
  | 105 => ∃ i : Nat, zs = [(i : Int)] ∧ i ≤ 28 ∧ ∀ k : Nat, k < i → cu 30 k = cu 42 (28 + k)
  | 106 => zs = [] ∧ cint cu 0 14 = cint cu 25 15
  | 107 => ∃ n, zs = [n] ∧ f107 cu n
  | 108 => ∃ n f, zs = [n, f] ∧ b108 (cB cu) (cS cu) (cN cu) f n
  | 109 => ∃ f t, zs = [f, t] ∧ f109 cu f t
  | 110 => ∃ f t, zs = [f, t] ∧ f110 cu f t
  | _ => False
/-- which places they speak of -/
def sux (i : Nat) : List SUt := match i with
  | 1 => [(10, .inl 0, .inr 0), (11, .inl 0, .inr 0), (12, .inl 0, .inr 0)]
  | 2 => [(10, .inr 0, .inr 1), (11, .inr 0, .inr 1), (12, .inr 0, .inr 1)]
  | 3 => [(2, .inl 0, .inr 0)]
  | 5 => [(26, .inl 0, .inr 0)]
  | 30 => [(27, .inl 0, .inl 4)]
  | 31 => [(41, .inl 0, .inl 4)]
  | 32 => [(41, .inl 269, .inl 273)]
  | 33 => [(28, .inl 0, .inl 1), (28, .inl 3, .inl 4)]
  | 34 => [(41, .inl 88, .inl 269)]
  | 35 => [(41, .inl 357, .inl 538)]
  | 36 => [(28, .inl 0, .inr 0)]
  | 37 => [(27, .inl 0, .inr 0), (28, .inl 0, .inl 43)]
  | 38 => [(27, .inl 0, .inr 0), (41, .inl 0, .inr 0)]
  | 39 => [(27, .inl 0, .inr 0), (41, .inl 269, .inr 1)]
  | 42 => [(27, .inl 0, .inl 88)]
  | 43 => [(27, .inl 0, .inl 88)]
  | 44 => [(27, .inl 0, .inl 88)]
  | 45 => [(27, .inl 0, .inl 88)]
  | 46 => [(27, .inl 0, .inl 88)]
  | 47 => [(27, .inl 0, .inl 88)]
  | 60 => [(29, .inl 0, .inr 1)]
  | 70 => [(29, .inl 0, .inr 1)]
  | 71 => [(39, .inl 0, .inr 0)]
  | 73 => [(27, .inl 88, .inl 269)]
  | 74 => [(27, .inl 88, .inl 269)]
  | 75 => [(27, .inl 89, .inr 1), (29, .inl 0, .inr 0)]
  | 76 => [(39, .inl 0, .inr 0)]
  | 77 => [(1, .inl 1, .inl 2), (25, .inl 2, .inl 3)]
  | 78 => [(21, .inl 0, .inl 1), (43, .inl 0, .inl 1)]
  | 79 => [(21, .inl 1, .inl 2), (43, .inl 1, .inl 2)]
  | 80 => [(2, .inl 0, .inl 940), (26, .inl 0, .inl 940)]
  | 81 => [(31, .inl 0, .inl 29)]
  | 84 => [(2, .inl 0, .inl 940), (26, .inl 0, .inl 940), (25, .inl 2, .inl 3)]
  | 86 => [(25, .inl 2, .inl 3), (27, .inl 0, .inl 8)]
  | 90 => [(44, .inl 0, .inl 1), (51, .inl 0, .inl 2), (52, .inl 0, .inl 8), (53, .inl 0, .inl 40), (27, .inl 0, .inl 8), (30, .inl 0, .inl 28)]
  | 91 => [(44, .inl 0, .inl 1), (7, .inl 1, .inl 3), (8, .inl 0, .inl 9), (64, .inl 0, .inl 1)]
  | 92 => [(44, .inl 0, .inl 1), (7, .inl 1, .inl 3), (8, .inl 0, .inl 9), (64, .inl 0, .inl 1)]
  | 93 => [(8, .inl 0, .inl 9), (64, .inl 0, .inl 1)]
  | 94 => [(21, .inl 0, .inl 1), (71, .inl 0, .inl 1), (51, .inl 0, .inl 2), (52, .inl 0, .inl 8), (53, .inl 0, .inl 40), (41, .inl 0, .inl 8), (42, .inl 0, .inl 28)]
  | 95 => [(21, .inl 1, .inl 2), (78, .inl 0, .inl 1), (51, .inl 0, .inl 2), (52, .inl 0, .inl 8), (53, .inl 0, .inl 40), (41, .inl 269, .inl 277), (42, .inl 28, .inl 56)]
  | 98 => [(8, .inl 0, .inr 3), (8, .inr 4, .inl 9), (64, .inl 0, .inl 1)]
  | 101 => [(51, .inl 0, .inl 2), (52, .inl 0, .inl 8), (53, .inl 0, .inl 40), (27, .inl 0, .inl 8), (30, .inl 0, .inl 28)]
  | 102 => [(21, .inl 0, .inl 1), (71, .inl 0, .inl 1), (44, .inl 0, .inl 1)]
  | 103 => [(21, .inl 1, .inl 2), (78, .inl 0, .inl 1), (44, .inl 0, .inl 1)]
  | 104 => [(30, .inl 0, .inl 28), (42, .inl 0, .inl 28)]
  | 105 => [(30, .inl 0, .inl 28), (42, .inl 28, .inl 56)]
  | 106 => [(0, .inl 14, .inl 15), (25, .inl 15, .inl 16)]
  | 107 => [(26, .inl 0, .inl 940), (3, .inl 4, .inl 10), (4, .inl 0, .inl 941), (5, .inl 0, .inl 941), (6, .inl 0, .inl 941)]
  | 108 => [(26, .inl 0, .inl 940), (27, .inl 0, .inl 4), (30, .inl 0, .inl 56)]
  | 109 => [(26, .inl 0, .inl 940), (27, .inl 0, .inl 4), (30, .inl 0, .inl 56), (25, .inl 3, .inl 6), (25, .inl 11, .inl 13), (25, .inl 14, .inl 16), (25, .inl 17, .inl 18)]
  | 110 => [(26, .inl 0, .inl 940), (27, .inl 0, .inl 4), (30, .inl 0, .inl 56), (25, .inl 3, .inl 6), (25, .inl 11, .inl 13), (25, .inl 14, .inl 16), (25, .inl 17, .inl 18)]
  | _ => []
def SUX : List (List SUt) := (List.range 111).map sux
theorem FPX0 : FP0 FPX := fun _ _ => Iff.rfl
theorem FPXn : FPnum FPX := by
  intro id h cu zs
  rcases h with rfl | rfl | rfl | rfl | rfl | rfl | rfl | rfl <;> exact Iff.rfl
section FPX1
variable {cu cu' : CUt}
theorem cint_eq {κ j : Nat} (h : cu' κ j = cu κ j) : cint cu' κ j = cint cu κ j := by unfold cint; rw [h]
theorem rdep_congr {f g : Nat → Int} : ∀ {k : Nat}, (∀ j, j < k → f j = g j) → rdep f k = rdep g k := by
  intro k
  induction k with
  | zero => intro _; rfl
  | succ k ih =>
    intro h
    simp only [rdep]
    rw [ih (fun j hj => h j (by omega)), h k (by omega)]
theorem njoin_congr {f g : Nat → Int} : ∀ {k : Nat}, (∀ j, j < k → f j = g j) → njoin f k = njoin g k := by
  intro k
  induction k with
  | zero => intro _; rfl
  | succ k ih =>
    intro h
    simp only [njoin]
    rw [ih (fun j hj => h j (by omega)), h k (by omega)]
theorem lyP_congr {f g : Nat → Int} {l : Int} : ∀ {k : Nat}, k ≤ 8 → (∀ j, j < 88 → f j = g j) → lyP f l k = lyP g l k := by
  intro k
  induction k with
  | zero => intro _ _; rfl
  | succ k ih =>
    intro hk h
    simp only [lyP]
    rw [ih (by omega) h, h (54 + k) (by omega), h (46 + k) (by omega)]
theorem ftP_congr {f g : Nat → Int} {l m : Int} : ∀ {k : Nat}, k ≤ 8 → (f 2).toNat ≤ 8 → (∀ j, j < 88 → f j = g j) → ftP f l m k = ftP g l m k := by
  intro k
  induction k with
  | zero =>
    intro _ h2 h
    simp only [ftP]
    rw [lyP_congr h2 h, h 2 (by omega)]
  | succ k ih =>
    intro hk h2 h
    simp only [ftP]
    rw [ih (by omega) h2 h, h (16 + k) (by omega)]
theorem cbP_congr {f g : Nat → Int} {q : Int} : ∀ {k : Nat}, k ≤ 8 → (∀ j, j < 88 → f j = g j) → cbP f q k = cbP g q k := by
  intro k
  induction k with
  | zero => intro _ _; rfl
  | succ k ih =>
    intro hk h
    simp only [cbP]
    rw [ih (by omega) h, h (54 + k) (by omega)]
theorem hGo_tr {qc : Nat} {f s t : Int} (h8 : ∀ j : Nat, j < 9 → (j : Int) ≠ t → cu' 8 j = cu 8 j) (h64 : ∀ (q : Nat) (v : Value), cu (ky q 64) 0 = some v → cu' (ky q 64) 0 = some v) (h : hGo cu qc f s t) : hGo cu' qc f s t := by
  intro i hi ht
  obtain ⟨qh, h1, h2⟩ := h i hi ht
  exact ⟨qh, by rw [h8 _ (by omega) (by omega)]; exact h1, h64 _ _ h2⟩
theorem INV_congr {g g' NM : Nat → Int} {x : Int} (h : ∀ s, s < 4 → g s = g' s) (hI : INV g NM x) : INV g' NM x := by
  have hl : ∀ (s : Nat) (k : Int), s < 4 → lkS g' NM s k = lkS g NM s k := fun s k hs => by unfold lkS; rw [h s hs]
  obtain ⟨h0, h1, h2, h3, h4, h5, h6⟩ := hI
  refine ⟨by rw [← h 0 (by omega)]; exact h0, by rw [← h 1 (by omega)]; exact h1, by rw [← h 2 (by omega)]; exact h2, by rw [← h 3 (by omega)]; exact h3, h4, fun s t key hs ht a b => ?_, h6⟩
  rw [hl s key hs] at a
  rw [hl t key ht] at b
  exact h5 s t key hs ht a b
theorem bs_lt {g NM : Nat → Int} {x : Int} {s i : Nat} (hI : INV g NM x) (hs : s < 4) (hi : (i : Int) < g s) : bs s - 28 + i < 28 := by
  obtain ⟨h0, h1, h2, h3, -⟩ := hI
  rcases (show s = 0 ∨ s = 1 ∨ s = 2 ∨ s = 3 by omega) with rfl | rfl | rfl | rfl
  · have e9 : bs 0 = 28 := by decide
    rw [e9]; omega
  · have e9 : bs 1 = 32 := by decide
    rw [e9]; omega
  · have e9 : bs 2 = 42 := by decide
    rw [e9]; omega
  · have e9 : bs 3 = 50 := by decide
    rw [e9]; omega
theorem cGood_tr {qc : Nat} {g g' : Nat → Int} {b b' : Nat → Option Value} (h51 : ∀ (j : Nat), j < 2 → ∀ (q : Nat) (v : Value), cu (ky q 51) j = some v → cu' (ky q 51) j = some v) (h52 : ∀ (j : Nat), j < 8 → ∀ (q : Nat) (v : Value), cu (ky q 52) j = some v → cu' (ky q 52) j = some v) (h53 : ∀ (j : Nat), j < 40 → ∀ (q : Nat) (v : Value), cu (ky q 53) j = some v → cu' (ky q 53) j = some v)
    (hg : ∀ s, s < 8 → g' s = g s) (hb : ∀ k, k < 28 → b' k = b k) (h : cGood cu qc g b) : cGood cu' qc g' b' := by
  obtain ⟨qn, qm, NM, x, a1, a2, a3, a4, a5, a6⟩ := h
  refine ⟨qn, qm, NM, x, h51 0 (by omega) _ _ a1, h51 1 (by omega) _ _ a2, fun s hs => ?_, fun k hk => h53 k hk _ _ (a4 k hk), INV_congr (fun s hs => (hg s (by omega)).symm) a5, fun s i hs hi => ?_⟩
  · obtain ⟨y, y1, y2⟩ := a3 s hs
    exact ⟨y, h52 s hs _ _ y1, by rw [hg s hs]; exact y2⟩
  · rw [hg s (by omega)] at hi
    obtain ⟨c1, c2⟩ := a6 s i hs hi
    exact ⟨c1, by rw [hb _ (bs_lt a5 hs hi)]; exact c2⟩
end FPX1
set_option maxHeartbeats 2000000 in
theorem FPX_ok {ks : List KD} {u : Nat} (hu9 : 51 ≤ u) : FPOK (ks, u, SUX) FPX := by
  intro id L cu cu' zs hL hs0 hF
  have hs : ∀ s ∈ L, s.1 < u → ∀ (lo hi : Int) (j : Nat), z_sb zs s.2.1 = some lo → z_sb zs s.2.2 = some hi → lo ≤ j → (j : Int) < hi → cu' s.1 j = cu s.1 j := fun s h1 h2 lo hi j h3 h4 h5 h6 => (hs0 s h1 lo hi j h3 h4 h5 h6).1 h2
  have hk : ∀ s ∈ L, ∀ (lo hi : Int) (j : Nat), z_sb zs s.2.1 = some lo → z_sb zs s.2.2 = some hi → lo ≤ j → (j : Int) < hi → ∀ (q : Nat) (v : Value), cu (ky q s.1) j = some v → cu' (ky q s.1) j = some v := fun s h1 lo hi j h3 h4 h5 h6 => (hs0 s h1 lo hi j h3 h4 h5 h6).2
  have hid : id < 111 := by
    have := (List.getElem?_eq_some_iff.mp hL).1
    simpa [SUX] using this
  have hL2 : L = sux id := by
    have h1 : SUX[id]? = some L := hL
    unfold SUX at h1
    rw [List.getElem?_map, List.getElem?_range hid] at h1
    exact (Option.some.inj h1).symm
  unfold FPX at hF ⊢
  split at hF
  · exact hF
  · obtain ⟨n, rfl, h⟩ := hF
    subst hL2
    refine ⟨n, rfl, fun j hj => ?_⟩
    rw [cint_eq (hs (10, .inl 0, .inr 0) (by simp [sux]) (Nat.lt_of_lt_of_le (by decide) hu9) 0 n j rfl rfl (by omega) hj), cint_eq (hs (11, .inl 0, .inr 0) (by simp [sux]) (Nat.lt_of_lt_of_le (by decide) hu9) 0 n j rfl rfl (by omega) hj), cint_eq (hs (12, .inl 0, .inr 0) (by simp [sux]) (Nat.lt_of_lt_of_le (by decide) hu9) 0 n j rfl rfl (by omega) hj)]
    exact h j hj
  · obtain ⟨i, rfl, h⟩ := hF
    subst hL2
    refine ⟨i, rfl, ?_⟩
    rw [cint_eq (hs (10, .inr 0, .inr 1) (by simp [sux]) (Nat.lt_of_lt_of_le (by decide) hu9) i (i + 1) i rfl rfl (by omega) (by omega)), cint_eq (hs (11, .inr 0, .inr 1) (by simp [sux]) (Nat.lt_of_lt_of_le (by decide) hu9) i (i + 1) i rfl rfl (by omega) (by omega)), cint_eq (hs (12, .inr 0, .inr 1) (by simp [sux]) (Nat.lt_of_lt_of_le (by decide) hu9) i (i + 1) i rfl rfl (by omega) (by omega))]
    exact h
  · obtain ⟨n, rfl, h⟩ := hF
    subst hL2
    refine ⟨n, rfl, fun j hj => ?_⟩
    rw [cint_eq (hs (2, .inl 0, .inr 0) (by simp [sux]) (Nat.lt_of_lt_of_le (by decide) hu9) 0 n j rfl rfl (by omega) hj)]
    exact h j hj
  · obtain ⟨n, rfl, h⟩ := hF
    subst hL2
    refine ⟨n, rfl, fun j hj => ?_⟩
    rw [cint_eq (hs (26, .inl 0, .inr 0) (by simp [sux]) (Nat.lt_of_lt_of_le (by decide) hu9) 0 n j rfl rfl (by omega) hj)]
    exact h j hj
  · exact hF
  · exact hF
  · exact hF
  · exact hF
  · exact hF
  · exact hF
  · exact hF
  · exact hF
  · obtain ⟨rfl, h⟩ := hF
    subst hL2
    refine ⟨rfl, ?_⟩
    rw [cint_eq (hs (27, .inl 0, .inl 4) (by simp [sux]) (Nat.lt_of_lt_of_le (by decide) hu9) 0 4 3 rfl rfl (by omega) (by omega)), cint_eq (hs (27, .inl 0, .inl 4) (by simp [sux]) (Nat.lt_of_lt_of_le (by decide) hu9) 0 4 0 rfl rfl (by omega) (by omega))]
    exact h
  · obtain ⟨rfl, h⟩ := hF
    subst hL2
    refine ⟨rfl, ?_⟩
    rw [cint_eq (hs (41, .inl 0, .inl 4) (by simp [sux]) (Nat.lt_of_lt_of_le (by decide) hu9) 0 4 3 rfl rfl (by omega) (by omega)), cint_eq (hs (41, .inl 0, .inl 4) (by simp [sux]) (Nat.lt_of_lt_of_le (by decide) hu9) 0 4 0 rfl rfl (by omega) (by omega))]
    exact h
  · obtain ⟨rfl, h⟩ := hF
    subst hL2
    refine ⟨rfl, ?_⟩
    rw [cint_eq (hs (41, .inl 269, .inl 273) (by simp [sux]) (Nat.lt_of_lt_of_le (by decide) hu9) 269 273 272 rfl rfl (by omega) (by omega)), cint_eq (hs (41, .inl 269, .inl 273) (by simp [sux]) (Nat.lt_of_lt_of_le (by decide) hu9) 269 273 269 rfl rfl (by omega) (by omega))]
    exact h
  · obtain ⟨rfl, h⟩ := hF
    subst hL2
    refine ⟨rfl, ?_⟩
    rw [cint_eq (hs (28, .inl 3, .inl 4) (by simp [sux]) (Nat.lt_of_lt_of_le (by decide) hu9) 3 4 3 rfl rfl (by omega) (by omega)), cint_eq (hs (28, .inl 0, .inl 1) (by simp [sux]) (Nat.lt_of_lt_of_le (by decide) hu9) 0 1 0 rfl rfl (by omega) (by omega))]
    exact h
  · obtain ⟨rfl, d, h1, h⟩ := hF
    subst hL2
    have hc : ∀ i, 88 ≤ i → i < 269 → cint cu' 41 i = cint cu 41 i := fun i h9 hi => cint_eq (hs (41, .inl 88, .inl 269) (by simp [sux]) (Nat.lt_of_lt_of_le (by decide) hu9) 88 269 i rfl rfl (by omega) (by omega))
    refine ⟨rfl, d, by rw [hc 88 (by omega) (by omega)]; exact h1, ?_⟩
    rw [hc 88 (by omega) (by omega), ← h]
    exact rdep_congr (fun j hj => hc _ (by omega) (by omega))
  · obtain ⟨rfl, d, h1, h⟩ := hF
    subst hL2
    have hc : ∀ i, 357 ≤ i → i < 538 → cint cu' 41 i = cint cu 41 i := fun i h9 hi => cint_eq (hs (41, .inl 357, .inl 538) (by simp [sux]) (Nat.lt_of_lt_of_le (by decide) hu9) 357 538 i rfl rfl (by omega) (by omega))
    refine ⟨rfl, d, by rw [hc 357 (by omega) (by omega)]; exact h1, ?_⟩
    rw [hc 357 (by omega) (by omega), ← h]
    exact rdep_congr (fun j hj => hc _ (by omega) (by omega))
  · obtain ⟨i, rfl, h⟩ := hF
    subst hL2
    refine ⟨i, rfl, fun j hj => ?_⟩
    rw [cint_eq (hs (28, .inl 0, .inr 0) (by simp [sux]) (Nat.lt_of_lt_of_le (by decide) hu9) 0 (i : Int) j rfl rfl (by omega) (by omega))]
    exact h j hj
  · obtain ⟨i, rfl, h⟩ := hF
    subst hL2
    refine ⟨i, rfl, fun j hj => ?_⟩
    rw [cint_eq (hs (27, .inl 0, .inr 0) (by simp [sux]) (Nat.lt_of_lt_of_le (by decide) hu9) 0 (i : Int) j rfl rfl (by omega) (by omega)), h j hj]
    split
    · rename_i h43
      rw [cint_eq (hs (28, .inl 0, .inl 43) (by simp [sux]) (Nat.lt_of_lt_of_le (by decide) hu9) 0 43 j rfl rfl (by omega) (by omega))]
    · rfl
  · obtain ⟨i, rfl, h⟩ := hF
    subst hL2
    refine ⟨i, rfl, fun j hj => ?_⟩
    rw [cint_eq (hs (27, .inl 0, .inr 0) (by simp [sux]) (Nat.lt_of_lt_of_le (by decide) hu9) 0 (i : Int) j rfl rfl (by omega) (by omega)), cint_eq (hs (41, .inl 0, .inr 0) (by simp [sux]) (Nat.lt_of_lt_of_le (by decide) hu9) 0 (i : Int) j rfl rfl (by omega) (by omega))]
    exact h j hj
  · obtain ⟨i, rfl, h⟩ := hF
    subst hL2
    refine ⟨i, rfl, fun j hj => ?_⟩
    rw [cint_eq (hs (27, .inl 0, .inr 0) (by simp [sux]) (Nat.lt_of_lt_of_le (by decide) hu9) 0 (i : Int) j rfl rfl (by omega) (by omega)), cint_eq (hs (41, .inl 269, .inr 1) (by simp [sux]) (Nat.lt_of_lt_of_le (by decide) hu9) 269 ((i : Int) + 269) (269 + j) rfl rfl (by omega) (by omega))]
    exact h j hj
  · obtain ⟨l, e1, h⟩ := hF
    subst hL2
    have hc : ∀ j, j < 88 → cint cu' 27 j = cint cu 27 j := fun j hj => cint_eq (hs (27, .inl 0, .inl 88) (by simp [sux]) (Nat.lt_of_lt_of_le (by decide) hu9) 0 88 j rfl rfl (by omega) (by omega))
    refine ⟨l, ?_, by rw [hc 2 (by omega)]; exact h⟩
    rw [hc 2 (by omega), lyP_congr h hc]
    exact e1
  · obtain ⟨l, m, e1, h⟩ := hF
    subst hL2
    have hc : ∀ j, j < 88 → cint cu' 27 j = cint cu 27 j := fun j hj => cint_eq (hs (27, .inl 0, .inl 88) (by simp [sux]) (Nat.lt_of_lt_of_le (by decide) hu9) 0 88 j rfl rfl (by omega) (by omega))
    refine ⟨l, m, ?_, by rw [hc 2 (by omega)]; exact h⟩
    rw [hc 2 (by omega), ftP_congr h (by rw [hc 2 (by omega)]; exact h) hc]
    exact e1
  · obtain ⟨q, e1, h⟩ := hF
    subst hL2
    have hc : ∀ j, j < 88 → cint cu' 27 j = cint cu 27 j := fun j hj => cint_eq (hs (27, .inl 0, .inl 88) (by simp [sux]) (Nat.lt_of_lt_of_le (by decide) hu9) 0 88 j rfl rfl (by omega) (by omega))
    refine ⟨q, ?_, by rw [hc 2 (by omega)]; exact h⟩
    rw [hc 2 (by omega), cbP_congr h hc]
    exact e1
  · obtain ⟨l, t, e1, h⟩ := hF
    subst hL2
    have hc : ∀ j, j < 88 → cint cu' 27 j = cint cu 27 j := fun j hj => cint_eq (hs (27, .inl 0, .inl 88) (by simp [sux]) (Nat.lt_of_lt_of_le (by decide) hu9) 0 88 j rfl rfl (by omega) (by omega))
    exact ⟨l, t, by rw [lyP_congr h hc]; exact e1, h⟩
  · obtain ⟨l, m, t, e1, h, h2⟩ := hF
    subst hL2
    have hc : ∀ j, j < 88 → cint cu' 27 j = cint cu 27 j := fun j hj => cint_eq (hs (27, .inl 0, .inl 88) (by simp [sux]) (Nat.lt_of_lt_of_le (by decide) hu9) 0 88 j rfl rfl (by omega) (by omega))
    exact ⟨l, m, t, by rw [ftP_congr h (by rw [hc 2 (by omega)]; exact h2) hc]; exact e1, h, by rw [hc 2 (by omega)]; exact h2⟩
  · obtain ⟨q, t, e1, h⟩ := hF
    subst hL2
    have hc : ∀ j, j < 88 → cint cu' 27 j = cint cu 27 j := fun j hj => cint_eq (hs (27, .inl 0, .inl 88) (by simp [sux]) (Nat.lt_of_lt_of_le (by decide) hu9) 0 88 j rfl rfl (by omega) (by omega))
    exact ⟨q, t, by rw [cbP_congr h hc]; exact e1, h⟩
  · exact hF
  · obtain ⟨k, rfl, h⟩ := hF
    subst hL2
    refine ⟨k, rfl, fun j hj => ?_⟩
    have hc : ∀ i, i < 4 * k → cint cu' 29 i = cint cu 29 i := fun i hi => cint_eq (hs (29, .inl 0, .inr 1) (by simp [sux]) (Nat.lt_of_lt_of_le (by decide) hu9) 0 (4 * (k : Int)) i rfl rfl (by omega) (by omega))
    rw [hc (4 * j) (by omega), hc (4 * j + 1) (by omega), hc (4 * j + 2) (by omega)]
    exact h j hj
  · obtain ⟨k, d, rfl, h⟩ := hF
    subst hL2
    refine ⟨k, d, rfl, ?_⟩
    rw [← h]
    exact rdep_congr (fun j hj => cint_eq (hs (29, .inl 0, .inr 1) (by simp [sux]) (Nat.lt_of_lt_of_le (by decide) hu9) 0 (3 * (k : Int)) (3 * j) rfl rfl (by omega) (by omega)))
  · obtain ⟨t, rfl⟩ := hF
    subst hL2
    exact ⟨t, by rw [njoin_congr (fun j hj => cint_eq (hs (39, .inl 0, .inr 0) (by simp [sux]) (Nat.lt_of_lt_of_le (by decide) hu9) 0 (t : Int) j rfl rfl (by omega) (by omega)))]⟩
  · exact hF
  · obtain ⟨i, d, rfl, h1, h⟩ := hF
    subst hL2
    refine ⟨i, d, rfl, h1, ?_⟩
    rw [← h]
    exact rdep_congr (fun j hj => cint_eq (hs (27, .inl 88, .inl 269) (by simp [sux]) (Nat.lt_of_lt_of_le (by decide) hu9) 88 269 (89 + 3 * j) rfl rfl (by omega) (by omega)))
  · obtain ⟨rfl, d, h1, h⟩ := hF
    subst hL2
    have e1 : cint cu' 27 88 = cint cu 27 88 := cint_eq (hs (27, .inl 88, .inl 269) (by simp [sux]) (Nat.lt_of_lt_of_le (by decide) hu9) 88 269 88 rfl rfl (by omega) (by omega))
    refine ⟨rfl, d, by rw [e1]; exact h1, ?_⟩
    rw [e1, ← h]
    exact rdep_congr (fun j hj => cint_eq (hs (27, .inl 88, .inl 269) (by simp [sux]) (Nat.lt_of_lt_of_le (by decide) hu9) 88 269 (89 + 3 * j) rfl rfl (by omega) (by omega)))
  · obtain ⟨i, rfl, h⟩ := hF
    subst hL2
    refine ⟨i, rfl, fun j hj => ?_⟩
    rw [cint_eq (hs (27, .inl 89, .inr 1) (by simp [sux]) (Nat.lt_of_lt_of_le (by decide) hu9) 89 ((i : Int) + 89) (89 + j) rfl rfl (by omega) (by omega)), cint_eq (hs (29, .inl 0, .inr 0) (by simp [sux]) (Nat.lt_of_lt_of_le (by decide) hu9) 0 (i : Int) j rfl rfl (by omega) (by omega))]
    exact h j hj
  · obtain ⟨t, rfl, h⟩ := hF
    subst hL2
    refine ⟨t, rfl, ?_⟩
    rcases h with h | h
    · exact Or.inl h
    · by_cases ht : t = 0
      · exact Or.inl ht
      · right
        rw [cint_eq (hs (39, .inl 0, .inr 0) (by simp [sux]) (Nat.lt_of_lt_of_le (by decide) hu9) 0 (t : Int) (t - 1) rfl rfl (by omega) (by omega))]
        exact h
  · obtain ⟨rfl, h⟩ := hF
    subst hL2
    refine ⟨rfl, ?_⟩
    rw [cint_eq (hs (1, .inl 1, .inl 2) (by simp [sux]) (Nat.lt_of_lt_of_le (by decide) hu9) 1 2 1 rfl rfl (by omega) (by omega)), cint_eq (hs (25, .inl 2, .inl 3) (by simp [sux]) (Nat.lt_of_lt_of_le (by decide) hu9) 2 3 2 rfl rfl (by omega) (by omega))]
    exact h
  · obtain ⟨rfl, h⟩ := hF
    subst hL2
    refine ⟨rfl, ?_⟩
    rw [cint_eq (hs (43, .inl 0, .inl 1) (by simp [sux]) (Nat.lt_of_lt_of_le (by decide) hu9) 0 1 0 rfl rfl (by omega) (by omega)), hs (21, .inl 0, .inl 1) (by simp [sux]) (Nat.lt_of_lt_of_le (by decide) hu9) 0 1 0 rfl rfl (by omega) (by omega)]
    exact h
  · obtain ⟨rfl, h⟩ := hF
    subst hL2
    refine ⟨rfl, ?_⟩
    rw [cint_eq (hs (43, .inl 1, .inl 2) (by simp [sux]) (Nat.lt_of_lt_of_le (by decide) hu9) 1 2 1 rfl rfl (by omega) (by omega)), hs (21, .inl 1, .inl 2) (by simp [sux]) (Nat.lt_of_lt_of_le (by decide) hu9) 1 2 1 rfl rfl (by omega) (by omega)]
    exact h
  · obtain ⟨rfl, h⟩ := hF
    subst hL2
    refine ⟨rfl, fun j hj => ?_⟩
    rw [cint_eq (hs (2, .inl 0, .inl 940) (by simp [sux]) (Nat.lt_of_lt_of_le (by decide) hu9) 0 940 j rfl rfl (by omega) (by omega)), cint_eq (hs (26, .inl 0, .inl 940) (by simp [sux]) (Nat.lt_of_lt_of_le (by decide) hu9) 0 940 j rfl rfl (by omega) (by omega))]
    exact h j hj
  · obtain ⟨rfl, h⟩ := hF
    subst hL2
    refine ⟨rfl, fun j hj => ?_⟩
    rw [hs (31, .inl 0, .inl 29) (by simp [sux]) (Nat.lt_of_lt_of_le (by decide) hu9) 0 29 j rfl rfl (by omega) (by omega)]
    exact h j hj
  · obtain ⟨h5, h⟩ := hF
    subst hL2
    refine ⟨h5, fun j hj => ?_⟩
    rw [cint_eq (hs (2, .inl 0, .inl 940) (by simp [sux]) (Nat.lt_of_lt_of_le (by decide) hu9) 0 940 j rfl rfl (by omega) (by omega)), cint_eq (hs (26, .inl 0, .inl 940) (by simp [sux]) (Nat.lt_of_lt_of_le (by decide) hu9) 0 940 j rfl rfl (by omega) (by omega)), cint_eq (hs (25, .inl 2, .inl 3) (by simp [sux]) (Nat.lt_of_lt_of_le (by decide) hu9) 2 3 2 rfl rfl (by omega) (by omega))]
    exact h j hj
  · obtain ⟨a, r, rfl, h⟩ := hF
    subst hL2
    refine ⟨a, r, rfl, ?_⟩
    rw [h]
    unfold cntR
    rw [cint_eq (hs (25, .inl 2, .inl 3) (by simp [sux]) (Nat.lt_of_lt_of_le (by decide) hu9) 2 3 2 rfl rfl (by omega) (by omega))]
    split
    · rfl
    · split
      · rw [cint_eq (hs (27, .inl 0, .inl 8) (by simp [sux]) (Nat.lt_of_lt_of_le (by decide) hu9) 0 8 a.toNat rfl rfl (by omega) (by omega))]
      · rfl
  · obtain ⟨rfl, qc, h1, h⟩ := hF
    subst hL2
    exact ⟨rfl, qc, by rw [hs (44, .inl 0, .inl 1) (by simp [sux]) (Nat.lt_of_lt_of_le (by decide) hu9) 0 1 0 rfl rfl (by omega) (by omega)]; exact h1, cGood_tr (fun j hj q v h9 => hk (51, .inl 0, .inl 2) (by simp [sux]) 0 2 j rfl rfl (by omega) (by omega) q v h9) (fun j hj q v h9 => hk (52, .inl 0, .inl 8) (by simp [sux]) 0 8 j rfl rfl (by omega) (by omega) q v h9) (fun j hj q v h9 => hk (53, .inl 0, .inl 40) (by simp [sux]) 0 40 j rfl rfl (by omega) (by omega) q v h9) (fun s hs8 => cint_eq (hs (27, .inl 0, .inl 8) (by simp [sux]) (Nat.lt_of_lt_of_le (by decide) hu9) 0 8 s rfl rfl (by omega) (by omega))) (fun k hk9 => hs (30, .inl 0, .inl 28) (by simp [sux]) (Nat.lt_of_lt_of_le (by decide) hu9) 0 28 k rfl rfl (by omega) (by omega)) h⟩
  · obtain ⟨rfl, qc, h1, h⟩ := hF
    subst hL2
    have e1 : cint cu' 7 1 = cint cu 7 1 := cint_eq (hs (7, .inl 1, .inl 3) (by simp [sux]) (Nat.lt_of_lt_of_le (by decide) hu9) 1 3 1 rfl rfl (by omega) (by omega))
    have e2 : cint cu' 7 2 = cint cu 7 2 := cint_eq (hs (7, .inl 1, .inl 3) (by simp [sux]) (Nat.lt_of_lt_of_le (by decide) hu9) 1 3 2 rfl rfl (by omega) (by omega))
    refine ⟨rfl, qc, by rw [hs (44, .inl 0, .inl 1) (by simp [sux]) (Nat.lt_of_lt_of_le (by decide) hu9) 0 1 0 rfl rfl (by omega) (by omega)]; exact h1, ?_⟩
    rw [e1, e2]
    exact hGo_tr (fun j hj _ => hs (8, .inl 0, .inl 9) (by simp [sux]) (Nat.lt_of_lt_of_le (by decide) hu9) 0 9 j rfl rfl (by omega) (by omega)) (fun q v h9 => hk (64, .inl 0, .inl 1) (by simp [sux]) 0 1 0 rfl rfl (by omega) (by omega) q v h9) h
  · obtain ⟨rfl, qc, h1, h⟩ := hF
    subst hL2
    have e1 : cint cu' 7 1 = cint cu 7 1 := cint_eq (hs (7, .inl 1, .inl 3) (by simp [sux]) (Nat.lt_of_lt_of_le (by decide) hu9) 1 3 1 rfl rfl (by omega) (by omega))
    have e2 : cint cu' 7 2 = cint cu 7 2 := cint_eq (hs (7, .inl 1, .inl 3) (by simp [sux]) (Nat.lt_of_lt_of_le (by decide) hu9) 1 3 2 rfl rfl (by omega) (by omega))
    refine ⟨rfl, qc, by rw [hs (44, .inl 0, .inl 1) (by simp [sux]) (Nat.lt_of_lt_of_le (by decide) hu9) 0 1 0 rfl rfl (by omega) (by omega)]; exact h1, ?_⟩
    rw [e1, e2]
    exact hGo_tr (fun j hj _ => hs (8, .inl 0, .inl 9) (by simp [sux]) (Nat.lt_of_lt_of_le (by decide) hu9) 0 9 j rfl rfl (by omega) (by omega)) (fun q v h9 => hk (64, .inl 0, .inl 1) (by simp [sux]) 0 1 0 rfl rfl (by omega) (by omega) q v h9) h
  · obtain ⟨qc, f, s, rfl, h⟩ := hF
    subst hL2
    exact ⟨qc, f, s, rfl, hGo_tr (fun j hj _ => hs (8, .inl 0, .inl 9) (by simp [sux]) (Nat.lt_of_lt_of_le (by decide) hu9) 0 9 j rfl rfl (by omega) (by omega)) (fun q v h9 => hk (64, .inl 0, .inl 1) (by simp [sux]) 0 1 0 rfl rfl (by omega) (by omega) q v h9) h⟩
  · obtain ⟨rfl, h⟩ := hF
    subst hL2
    have e1 : cu' 21 0 = cu 21 0 := hs (21, .inl 0, .inl 1) (by simp [sux]) (Nat.lt_of_lt_of_le (by decide) hu9) 0 1 0 rfl rfl (by omega) (by omega)
    refine ⟨rfl, ?_⟩
    rw [e1]
    rcases h with h | ⟨q, qc, h1, h2, h⟩
    · exact Or.inl h
    · exact Or.inr ⟨q, qc, h1, hk (71, .inl 0, .inl 1) (by simp [sux]) 0 1 0 rfl rfl (by omega) (by omega) q _ h2, cGood_tr (fun j hj q v h9 => hk (51, .inl 0, .inl 2) (by simp [sux]) 0 2 j rfl rfl (by omega) (by omega) q v h9) (fun j hj q v h9 => hk (52, .inl 0, .inl 8) (by simp [sux]) 0 8 j rfl rfl (by omega) (by omega) q v h9) (fun j hj q v h9 => hk (53, .inl 0, .inl 40) (by simp [sux]) 0 40 j rfl rfl (by omega) (by omega) q v h9) (fun s hs8 => cint_eq (hs (41, .inl 0, .inl 8) (by simp [sux]) (Nat.lt_of_lt_of_le (by decide) hu9) 0 8 s rfl rfl (by omega) (by omega))) (fun k hk9 => hs (42, .inl 0, .inl 28) (by simp [sux]) (Nat.lt_of_lt_of_le (by decide) hu9) 0 28 k rfl rfl (by omega) (by omega)) h⟩
  · obtain ⟨rfl, h⟩ := hF
    subst hL2
    have e1 : cu' 21 1 = cu 21 1 := hs (21, .inl 1, .inl 2) (by simp [sux]) (Nat.lt_of_lt_of_le (by decide) hu9) 1 2 1 rfl rfl (by omega) (by omega)
    refine ⟨rfl, ?_⟩
    rw [e1]
    rcases h with h | ⟨q, qc, h1, h2, h⟩
    · exact Or.inl h
    · exact Or.inr ⟨q, qc, h1, hk (78, .inl 0, .inl 1) (by simp [sux]) 0 1 0 rfl rfl (by omega) (by omega) q _ h2, cGood_tr (fun j hj q v h9 => hk (51, .inl 0, .inl 2) (by simp [sux]) 0 2 j rfl rfl (by omega) (by omega) q v h9) (fun j hj q v h9 => hk (52, .inl 0, .inl 8) (by simp [sux]) 0 8 j rfl rfl (by omega) (by omega) q v h9) (fun j hj q v h9 => hk (53, .inl 0, .inl 40) (by simp [sux]) 0 40 j rfl rfl (by omega) (by omega) q v h9) (fun s hs8 => cint_eq (hs (41, .inl 269, .inl 277) (by simp [sux]) (Nat.lt_of_lt_of_le (by decide) hu9) 269 277 (269 + s) rfl rfl (by omega) (by omega))) (fun k hk9 => hs (42, .inl 28, .inl 56) (by simp [sux]) (Nat.lt_of_lt_of_le (by decide) hu9) 28 56 (28 + k) rfl rfl (by omega) (by omega)) h⟩
  · obtain ⟨qc, f, s, x, rfl, h⟩ := hF
    subst hL2
    refine ⟨qc, f, s, x, rfl, hGo_tr (fun j hj hne => ?_) (fun q v h9 => hk (64, .inl 0, .inl 1) (by simp [sux]) 0 1 0 rfl rfl (by omega) (by omega) q v h9) h⟩
    by_cases hlt : (j : Int) < x
    · exact hs (8, .inl 0, .inr 3) (by simp [sux]) (Nat.lt_of_lt_of_le (by decide) hu9) 0 x j rfl rfl (by omega) hlt
    · exact hs (8, .inr 4, .inl 9) (by simp [sux]) (Nat.lt_of_lt_of_le (by decide) hu9) (x + 1) 9 j rfl rfl (by omega) (by omega)
  · exact hF
  · obtain ⟨qc, rfl, h⟩ := hF
    subst hL2
    exact ⟨qc, rfl, cGood_tr (fun j hj q v h9 => hk (51, .inl 0, .inl 2) (by simp [sux]) 0 2 j rfl rfl (by omega) (by omega) q v h9) (fun j hj q v h9 => hk (52, .inl 0, .inl 8) (by simp [sux]) 0 8 j rfl rfl (by omega) (by omega) q v h9) (fun j hj q v h9 => hk (53, .inl 0, .inl 40) (by simp [sux]) 0 40 j rfl rfl (by omega) (by omega) q v h9) (fun s hs8 => cint_eq (hs (27, .inl 0, .inl 8) (by simp [sux]) (Nat.lt_of_lt_of_le (by decide) hu9) 0 8 s rfl rfl (by omega) (by omega))) (fun k hk9 => hs (30, .inl 0, .inl 28) (by simp [sux]) (Nat.lt_of_lt_of_le (by decide) hu9) 0 28 k rfl rfl (by omega) (by omega)) h⟩
  · obtain ⟨rfl, q, qc, h1, h2, h3⟩ := hF
    subst hL2
    exact ⟨rfl, q, qc, by rw [hs (21, .inl 0, .inl 1) (by simp [sux]) (Nat.lt_of_lt_of_le (by decide) hu9) 0 1 0 rfl rfl (by omega) (by omega)]; exact h1, hk (71, .inl 0, .inl 1) (by simp [sux]) 0 1 0 rfl rfl (by omega) (by omega) q _ h2, by rw [hs (44, .inl 0, .inl 1) (by simp [sux]) (Nat.lt_of_lt_of_le (by decide) hu9) 0 1 0 rfl rfl (by omega) (by omega)]; exact h3⟩
  · obtain ⟨rfl, q, qc, h1, h2, h3⟩ := hF
    subst hL2
    exact ⟨rfl, q, qc, by rw [hs (21, .inl 1, .inl 2) (by simp [sux]) (Nat.lt_of_lt_of_le (by decide) hu9) 1 2 1 rfl rfl (by omega) (by omega)]; exact h1, hk (78, .inl 0, .inl 1) (by simp [sux]) 0 1 0 rfl rfl (by omega) (by omega) q _ h2, by rw [hs (44, .inl 0, .inl 1) (by simp [sux]) (Nat.lt_of_lt_of_le (by decide) hu9) 0 1 0 rfl rfl (by omega) (by omega)]; exact h3⟩
  · obtain ⟨i, rfl, h9, h⟩ := hF
    subst hL2
    refine ⟨i, rfl, h9, fun k hk9 => ?_⟩
    rw [hs (30, .inl 0, .inl 28) (by simp [sux]) (Nat.lt_of_lt_of_le (by decide) hu9) 0 28 k rfl rfl (by omega) (by omega), hs (42, .inl 0, .inl 28) (by simp [sux]) (Nat.lt_of_lt_of_le (by decide) hu9) 0 28 k rfl rfl (by omega) (by omega)]
    exact h k hk9
  · obtain ⟨i, rfl, h9, h⟩ := hF
    subst hL2
    refine ⟨i, rfl, h9, fun k hk9 => ?_⟩
    rw [hs (30, .inl 0, .inl 28) (by simp [sux]) (Nat.lt_of_lt_of_le (by decide) hu9) 0 28 k rfl rfl (by omega) (by omega), hs (42, .inl 28, .inl 56) (by simp [sux]) (Nat.lt_of_lt_of_le (by decide) hu9) 28 56 (28 + k) rfl rfl (by omega) (by omega)]
    exact h k hk9
  · obtain ⟨rfl, h⟩ := hF
    subst hL2
    refine ⟨rfl, ?_⟩
    rw [cint_eq (hs (0, .inl 14, .inl 15) (by simp [sux]) (Nat.lt_of_lt_of_le (by decide) hu9) 14 15 14 rfl rfl (by omega) (by omega)), cint_eq (hs (25, .inl 15, .inl 16) (by simp [sux]) (Nat.lt_of_lt_of_le (by decide) hu9) 15 16 15 rfl rfl (by omega) (by omega))]
    exact h
  · obtain ⟨n, rfl, h⟩ := hF
    subst hL2
    have a26 : ∀ j : Nat, 0 ≤ j → j < 940 → cu' 26 j = cu 26 j := fun j h1 h2 => hs (26, .inl 0, .inl 940) (by simp [sux]) (Nat.lt_of_lt_of_le (by decide) hu9) 0 940 j rfl rfl (by omega) (by omega)
    have a3 : ∀ j : Nat, 4 ≤ j → j < 10 → cu' 3 j = cu 3 j := fun j h1 h2 => hs (3, .inl 4, .inl 10) (by simp [sux]) (Nat.lt_of_lt_of_le (by decide) hu9) 4 10 j rfl rfl (by omega) (by omega)
    have a4 : ∀ j : Nat, 0 ≤ j → j < 941 → cu' 4 j = cu 4 j := fun j h1 h2 => hs (4, .inl 0, .inl 941) (by simp [sux]) (Nat.lt_of_lt_of_le (by decide) hu9) 0 941 j rfl rfl (by omega) (by omega)
    have a5 : ∀ j : Nat, 0 ≤ j → j < 941 → cu' 5 j = cu 5 j := fun j h1 h2 => hs (5, .inl 0, .inl 941) (by simp [sux]) (Nat.lt_of_lt_of_le (by decide) hu9) 0 941 j rfl rfl (by omega) (by omega)
    have a6 : ∀ j : Nat, 0 ≤ j → j < 941 → cu' 6 j = cu 6 j := fun j h1 h2 => hs (6, .inl 0, .inl 941) (by simp [sux]) (Nat.lt_of_lt_of_le (by decide) hu9) 0 941 j rfl rfl (by omega) (by omega)
    refine ⟨n, rfl, ?_⟩
    unfold f107 at h ⊢
    rw [cB_eq (fun j hj => a26 j (by omega) hj), cK_eq (κ := 4) (fun j hj => a4 j (by omega) hj), cK_eq (κ := 5) (fun j hj => a5 j (by omega) hj), cV_eq (fun j hj => a6 j (by omega) hj), cint_eqx (a3 4 (by omega) (by omega)), cint_eqx (a3 5 (by omega) (by omega)), cint_eqx (a3 6 (by omega) (by omega)), cint_eqx (a4 0 (by omega) (by omega)), cint_eqx (a3 7 (by omega) (by omega)), cint_eqx (a5 0 (by omega) (by omega)), clong_eq (a3 8 (by omega) (by omega)), clong_eq (a6 0 (by omega) (by omega)), cint_eqx (a3 9 (by omega) (by omega))]
    exact h
  · obtain ⟨n, f, rfl, h⟩ := hF
    subst hL2
    have a26 : ∀ j : Nat, 0 ≤ j → j < 940 → cu' 26 j = cu 26 j := fun j h1 h2 => hs (26, .inl 0, .inl 940) (by simp [sux]) (Nat.lt_of_lt_of_le (by decide) hu9) 0 940 j rfl rfl (by omega) (by omega)
    have a27 : ∀ j : Nat, 0 ≤ j → j < 4 → cu' 27 j = cu 27 j := fun j h1 h2 => hs (27, .inl 0, .inl 4) (by simp [sux]) (Nat.lt_of_lt_of_le (by decide) hu9) 0 4 j rfl rfl (by omega) (by omega)
    have a30 : ∀ j : Nat, 0 ≤ j → j < 56 → cu' 30 j = cu 30 j := fun j h1 h2 => hs (30, .inl 0, .inl 56) (by simp [sux]) (Nat.lt_of_lt_of_le (by decide) hu9) 0 56 j rfl rfl (by omega) (by omega)
    refine ⟨n, f, rfl, ?_⟩
    rw [cB_eq (fun j hj => a26 j (by omega) hj), cS_eq (fun j hj => a27 j (by omega) hj), cN_eq (fun j hj => a30 j (by omega) hj)]
    exact h
  · obtain ⟨f, t, rfl, h⟩ := hF
    subst hL2
    have a26 : ∀ j : Nat, 0 ≤ j → j < 940 → cu' 26 j = cu 26 j := fun j h1 h2 => hs (26, .inl 0, .inl 940) (by simp [sux]) (Nat.lt_of_lt_of_le (by decide) hu9) 0 940 j rfl rfl (by omega) (by omega)
    have a27 : ∀ j : Nat, 0 ≤ j → j < 4 → cu' 27 j = cu 27 j := fun j h1 h2 => hs (27, .inl 0, .inl 4) (by simp [sux]) (Nat.lt_of_lt_of_le (by decide) hu9) 0 4 j rfl rfl (by omega) (by omega)
    have a30 : ∀ j : Nat, 0 ≤ j → j < 56 → cu' 30 j = cu 30 j := fun j h1 h2 => hs (30, .inl 0, .inl 56) (by simp [sux]) (Nat.lt_of_lt_of_le (by decide) hu9) 0 56 j rfl rfl (by omega) (by omega)
    have b3 : ∀ j : Nat, 3 ≤ j → j < 6 → cu' 25 j = cu 25 j := fun j h1 h2 => hs (25, .inl 3, .inl 6) (by simp [sux]) (Nat.lt_of_lt_of_le (by decide) hu9) 3 6 j rfl rfl (by omega) (by omega)
    have b11 : ∀ j : Nat, 11 ≤ j → j < 13 → cu' 25 j = cu 25 j := fun j h1 h2 => hs (25, .inl 11, .inl 13) (by simp [sux]) (Nat.lt_of_lt_of_le (by decide) hu9) 11 13 j rfl rfl (by omega) (by omega)
    have b14 : ∀ j : Nat, 14 ≤ j → j < 16 → cu' 25 j = cu 25 j := fun j h1 h2 => hs (25, .inl 14, .inl 16) (by simp [sux]) (Nat.lt_of_lt_of_le (by decide) hu9) 14 16 j rfl rfl (by omega) (by omega)
    have b17 : ∀ j : Nat, 17 ≤ j → j < 18 → cu' 25 j = cu 25 j := fun j h1 h2 => hs (25, .inl 17, .inl 18) (by simp [sux]) (Nat.lt_of_lt_of_le (by decide) hu9) 17 18 j rfl rfl (by omega) (by omega)
    refine ⟨f, t, rfl, ?_⟩
    unfold f109 at h ⊢
    rw [cint_eqx (b14 15 (by omega) (by omega)), cint_eqx (b3 5 (by omega) (by omega)), cint_eqx (b3 3 (by omega) (by omega)), cB_eq (fun j hj => a26 j (by omega) hj), cS_eq (fun j hj => a27 j (by omega) hj), cN_eq (fun j hj => a30 j (by omega) hj), cR_eq (fun j hj => by
      rcases hj with rfl | rfl | rfl | rfl | rfl
      · exact b17 17 (by omega) (by omega)
      · exact b3 4 (by omega) (by omega)
      · exact b11 11 (by omega) (by omega)
      · exact b11 12 (by omega) (by omega)
      · exact b14 14 (by omega) (by omega))]
    exact h
  · obtain ⟨f, t, rfl, h⟩ := hF
    subst hL2
    have a26 : ∀ j : Nat, 0 ≤ j → j < 940 → cu' 26 j = cu 26 j := fun j h1 h2 => hs (26, .inl 0, .inl 940) (by simp [sux]) (Nat.lt_of_lt_of_le (by decide) hu9) 0 940 j rfl rfl (by omega) (by omega)
    have a27 : ∀ j : Nat, 0 ≤ j → j < 4 → cu' 27 j = cu 27 j := fun j h1 h2 => hs (27, .inl 0, .inl 4) (by simp [sux]) (Nat.lt_of_lt_of_le (by decide) hu9) 0 4 j rfl rfl (by omega) (by omega)
    have a30 : ∀ j : Nat, 0 ≤ j → j < 56 → cu' 30 j = cu 30 j := fun j h1 h2 => hs (30, .inl 0, .inl 56) (by simp [sux]) (Nat.lt_of_lt_of_le (by decide) hu9) 0 56 j rfl rfl (by omega) (by omega)
    have b3 : ∀ j : Nat, 3 ≤ j → j < 6 → cu' 25 j = cu 25 j := fun j h1 h2 => hs (25, .inl 3, .inl 6) (by simp [sux]) (Nat.lt_of_lt_of_le (by decide) hu9) 3 6 j rfl rfl (by omega) (by omega)
    have b11 : ∀ j : Nat, 11 ≤ j → j < 13 → cu' 25 j = cu 25 j := fun j h1 h2 => hs (25, .inl 11, .inl 13) (by simp [sux]) (Nat.lt_of_lt_of_le (by decide) hu9) 11 13 j rfl rfl (by omega) (by omega)
    have b14 : ∀ j : Nat, 14 ≤ j → j < 16 → cu' 25 j = cu 25 j := fun j h1 h2 => hs (25, .inl 14, .inl 16) (by simp [sux]) (Nat.lt_of_lt_of_le (by decide) hu9) 14 16 j rfl rfl (by omega) (by omega)
    have b17 : ∀ j : Nat, 17 ≤ j → j < 18 → cu' 25 j = cu 25 j := fun j h1 h2 => hs (25, .inl 17, .inl 18) (by simp [sux]) (Nat.lt_of_lt_of_le (by decide) hu9) 17 18 j rfl rfl (by omega) (by omega)
    refine ⟨f, t, rfl, ?_⟩
    unfold f110 at h ⊢
    rw [cint_eqx (b14 15 (by omega) (by omega)), cint_eqx (b3 5 (by omega) (by omega)), cint_eqx (b3 3 (by omega) (by omega)), cB_eq (fun j hj => a26 j (by omega) hj), cS_eq (fun j hj => a27 j (by omega) hj), cN_eq (fun j hj => a30 j (by omega) hj), cR_eq (fun j hj => by
      rcases hj with rfl | rfl | rfl | rfl | rfl
      · exact b17 17 (by omega) (by omega)
      · exact b3 4 (by omega) (by omega)
      · exact b11 11 (by omega) (by omega)
      · exact b11 12 (by omega) (by omega)
      · exact b14 14 (by omega) (by omega))]
    exact h
  · exact hF.elim
