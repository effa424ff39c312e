/-! bytes that are fed: both sides (written by wip/p4/g17.py) -/
def zushr (a b : Int) : Int := ((Int32.ofInt a).toUInt32 >>> ((Int32.ofInt b).toUInt32 &&& Int32.toUInt32 31)).toInt32.toInt
def znar (z : Int) : Int := (vp_nar .byte (Int32.ofInt z)).toInt
/-- a byte of a number, and four of them behind a row -/
def yby (v s : Int) : Int := znar (zbyt (zshr v s))
def fou (B : Nat → Int) (n v : Int) : Nat → Int := zup (zup (zup (zup B n.toNat (yby v 24)) (n + 1).toNat (yby v 16)) (n + 1 + 1).toNat (yby v 8)) (n + 1 + 1 + 1).toNat (yby v 0)
def fed (B : Nat → Int) (n a b c d e : Int) : Nat → Int := fou (fou (fou (fou (fou B n a) (n + 4) b) (n + 4 + 4) c) (n + 4 + 4 + 4) d) (n + 4 + 4 + 4 + 4) e
theorem yu24 (v : Int) : zbyt (zushr v 24) = zbyt (zshr v 24) := by
  unfold zbyt zushr zshr
  rw [z_oT, z_oT, show (Int32.ofInt 24).toUInt32 &&& Int32.toUInt32 31 = 24 by decide, show Int32.ofInt 24 &&& 31 = 24 by decide, yb24]
theorem yu16 (v : Int) : zbyt (zushr v 16) = zbyt (zshr v 16) := by
  unfold zbyt zushr zshr
  rw [z_oT, z_oT, show (Int32.ofInt 16).toUInt32 &&& Int32.toUInt32 31 = 16 by decide, show Int32.ofInt 16 &&& 31 = 16 by decide, yb16]
theorem yu8 (v : Int) : zbyt (zushr v 8) = zbyt (zshr v 8) := by
  unfold zbyt zushr zshr
  rw [z_oT, z_oT, show (Int32.ofInt 8).toUInt32 &&& Int32.toUInt32 31 = 8 by decide, show Int32.ofInt 8 &&& 31 = 8 by decide, yb8]
theorem yu0 (v : Int) : zbyt (zushr v 0) = zbyt (zshr v 0) := by
  unfold zbyt zushr zshr
  rw [z_oT, z_oT, show (Int32.ofInt 0).toUInt32 &&& Int32.toUInt32 31 = 0 by decide, show Int32.ofInt 0 &&& 31 = 0 by decide, yb0]
section ZB8
variable {P : List MT} {RT : List (List (Nat × RES))} {OW : List String} {EW : EWt} {D : va_G} {cy : Nat → ClassId} {r : va_W} {ex : Nat → Nat} {M : MT} {own : String}
variable {p : Program} {l : Launch} {e : Env} {R : Room} {s : State} {m : MethodId} {args : Array Value} {below : List Frame} {meth : Method} {c : Code} {A : Nat → Prop} {Q : State → Prop} {rm : RMt} {cb sb N K : Nat} {pc : Nat} {lv : List (Nat × ZV)} {st : List ZV} {Y : ZW}
theorem zg_ushr (X : Cx OW EW D cy ex M own p R s m args meth c A rm cb sb) {a b : Int} (hat : x_at (mT M) pc = some (.iushr, 1)) (k : ZG D cy r M p l e R s m args below meth c A Q N K (pc + 1, lv, .inl (zushr a b) :: st, Y)) : ZG D cy r M p l e R s m args below meth c A Q N K (pc, lv, .inl b :: .inl a :: st, Y) := by
  intro H locs ls a1 a2 a3 a4
  exact lv_iushr X.1 X.2.1 (x_dec X hat) (z_oT _).symm (k H locs ls a1 a2 a3 a4)
theorem zg_bast (X : Cx OW EW D cy ex M own p R s m args meth c A rm cb sb) (i : Nat) {q n : Nat} {f : Nat → Int} {j z : Int} (hat : x_at (mT M) pc = some (.bastore, 1)) (hw : Y[i]? = some (q, .inr (.inl (1, n, f)))) (hj : zidx j n) (k : ZG D cy r M p l e R s m args below meth c A Q N K (pc + 1, lv, st, Y.set i (q, .inr (.inl (1, n, zup f j.toNat (znar z)))))) : ZG D cy r M p l e R s m args below meth c A Q N K (pc, lv, .inl z :: .inl j :: .inr (.inr (some q)) :: st, Y) := by
  have hd := x_dec X hat
  obtain ⟨x1, x2, x3, x4, x5, x6, x7, x8, x9, x10, x11⟩ := X
  intro H locs ls a1 a2 a3 a4
  refine va_bast x1 x2 x7.1 a2 a3 a4 i 1 (zw_at hw) (atys_at cy 1 (by decide)) (z_vin hj) hd (fun H1 locs1 g1 g2 g3 => ?_)
  have e9 : upd (rI f) (Int32.ofInt j).toNatClampNeg (vp_nar .byte (Int32.ofInt z)) = rI (zup f j.toNat (znar z)) := by
    rw [z_tn hj.1 hj.2.2, ← z_upI]
    unfold znar
    rw [z_oT]
  have hset := zw_set (cy := cy) (r := r) (q' := q) (e' := (.inr (.inl (1, n, zup f j.toNat (znar z))) : ZE)) hw
  simp only [ze] at hset
  rw [← e9] at hset
  have g1 : va_P D vwCl ((zw cy Y ++ r).set i (q, .inl (cy 1, n, .inl (upd (rI f) (Int32.ofInt j).toNatClampNeg (vp_nar .byte (Int32.ofInt z)))))) H1 := g1
  have g2 : va_D A ((zw cy Y ++ r).set i (q, .inl (cy 1, n, .inl (upd (rI f) (Int32.ofInt j).toNatClampNeg (vp_nar .byte (Int32.ofInt z)))))) := g2
  rw [hset] at g1 g2
  exact k H1 locs1 ls a1 g1 g2 g3
end ZB8
section ZC8
variable {xs : Nat → Int32} {D : va_G} {cy : Nat → ClassId} {l : Launch} {ex : Nat → Nat} {a b m : Nat → Nat} {F B K S V U A1 A2 A3 A4 A5 A6 SS HH NR RV : Nat → Int} {jd sc : ZV}
set_option maxRecDepth 4000 in
theorem zj_X9_append : PR2[286]? = some mt2_X9_append := rfl
set_option maxRecDepth 4000 in
theorem zm_append {z1 : Int} (hn : 0 ≤ F 0 ∧ F 0 + 4 ≤ 940) : ZMet (EWX xs) D cy l ex mt2_X9_append (0, 0, 0, 0) (tW a F B K S V) [zR (a 0), zI z1] (fun z Y => z = none ∧ Y = tW a (zup F 0 (F 0 + 4)) (fou B (F 0) z1) K S V) := by
  obtain ⟨mok, tok, ow⟩ := pok2.1 _ _ zj_X9_append
  refine met_ofz EWX_ok mok tok ow (Nat.le_of_ble_eq_true rfl) (fun r p0 e0 s0 m0 ar0 be0 me0 c0 A0 Q0 X hR => ?_)
  refine zg_blk pok2 X 3 [] (S' := (4, [(2, zI 24), (0, zR (a 0)), (1, zI z1)], [zI 24], (tW a F B K S V))) rfl trivial ?_
  refine zg_if X 53 rfl rfl (by unfold zin; omega) (fun g1 => ?_) (fun g1 => ?_)
  · exact absurd (show (24 : Int) < (0 : Int) from g1) (by decide)
  · simp only [x_ncd] at g1
    refine zg_blk pok2 X 2 [0] (S' := (11, [(2, zI 24), (0, zR (a 0)), (1, zI z1)], [zI (F 0)], (tW a F B K S V))) rfl ⟨rfl, trivial⟩ ?_
    refine zg_if X 47 rfl rfl (by unfold zin; omega) (fun g2 => ?_) (fun g2 => ?_)
    · simp only [x_cnd] at g2
      exfalso
      omega
    · simp only [x_ncd] at g2
      refine zg_blk pok2 X 3 [0] (S' := (21, [(2, zI 24), (0, zR (a 0)), (1, zI z1)], [zI 940, zI (F 0)], (tW a F B K S V))) rfl ⟨rfl, trivial⟩ ?_
      refine zg_icmp X 47 rfl rfl (by unfold zin; omega) (by unfold zin; omega) (fun g3 => ?_) (fun g3 => ?_)
      · simp only [x_cnd] at g3
        exfalso
        omega
      · simp only [x_ncd] at g3
        refine zg_blk pok2 X 6 [0, 0] (S' := (34, [(2, zI 24), (0, zR (a 0)), (1, zI z1)], [zI 24, zI z1, zI (F 0), zR (a 1)], (tW a F B K S V))) rfl ⟨rfl, rfl, trivial⟩ ?_
        refine zg_ushr X rfl ?_
        refine zg_blk pok2 X 1 [] (S' := (36, [(2, zI 24), (0, zR (a 0)), (1, zI z1)], [zI (zbyt (zushr z1 24)), zI (F 0), zR (a 1)], (tW a F B K S V))) rfl trivial ?_
        refine zg_bast X 1 rfl rfl (show zidx (F 0) 940 from by unfold zidx; omega) ?_
        refine zg_cv (S2 := (37, [(2, zI 24), (0, zR (a 0)), (1, zI z1)], [], (tW a F (zup B ((F 0).toNat) (znar (zbyt (zushr z1 24)))) K S V))) rfl ?_
        refine zg_blk pok2 X 9 [0, 0] (S' := (4, [(2, zI 16), (0, zR (a 0)), (1, zI z1)], [zI 16], (tW a (zup F 0 ((F 0) + 1)) (zup B ((F 0).toNat) (znar (zbyt (zushr z1 24)))) K S V))) rfl ⟨rfl, rfl, rfl, rfl, trivial⟩ ?_
        refine zg_if X 53 rfl rfl (by unfold zin; omega) (fun g4 => ?_) (fun g4 => ?_)
        · exact absurd (show (16 : Int) < (0 : Int) from g4) (by decide)
        · simp only [x_ncd] at g4
          refine zg_blk pok2 X 2 [0] (S' := (11, [(2, zI 16), (0, zR (a 0)), (1, zI z1)], [zI ((F 0) + 1)], (tW a (zup F 0 ((F 0) + 1)) (zup B ((F 0).toNat) (znar (zbyt (zushr z1 24)))) K S V))) rfl ⟨rfl, trivial⟩ ?_
          refine zg_if X 47 rfl rfl (by unfold zin; omega) (fun g5 => ?_) (fun g5 => ?_)
          · simp only [x_cnd] at g5
            exfalso
            omega
          · simp only [x_ncd] at g5
            refine zg_blk pok2 X 3 [0] (S' := (21, [(2, zI 16), (0, zR (a 0)), (1, zI z1)], [zI 940, zI ((F 0) + 1)], (tW a (zup F 0 ((F 0) + 1)) (zup B ((F 0).toNat) (znar (zbyt (zushr z1 24)))) K S V))) rfl ⟨rfl, trivial⟩ ?_
            refine zg_icmp X 47 rfl rfl (by unfold zin; omega) (by unfold zin; omega) (fun g6 => ?_) (fun g6 => ?_)
            · simp only [x_cnd] at g6
              exfalso
              omega
            · simp only [x_ncd] at g6
              refine zg_blk pok2 X 6 [0, 0] (S' := (34, [(2, zI 16), (0, zR (a 0)), (1, zI z1)], [zI 16, zI z1, zI ((F 0) + 1), zR (a 1)], (tW a (zup F 0 ((F 0) + 1)) (zup B ((F 0).toNat) (znar (zbyt (zushr z1 24)))) K S V))) rfl ⟨rfl, rfl, trivial⟩ ?_
              refine zg_ushr X rfl ?_
              refine zg_blk pok2 X 1 [] (S' := (36, [(2, zI 16), (0, zR (a 0)), (1, zI z1)], [zI (zbyt (zushr z1 16)), zI ((F 0) + 1), zR (a 1)], (tW a (zup F 0 ((F 0) + 1)) (zup B ((F 0).toNat) (znar (zbyt (zushr z1 24)))) K S V))) rfl trivial ?_
              refine zg_bast X 1 rfl rfl (show zidx ((F 0) + 1) 940 from by unfold zidx; omega) ?_
              refine zg_cv (S2 := (37, [(2, zI 16), (0, zR (a 0)), (1, zI z1)], [], (tW a (zup F 0 ((F 0) + 1)) (zup (zup B ((F 0).toNat) (znar (zbyt (zushr z1 24)))) (((F 0) + 1).toNat) (znar (zbyt (zushr z1 16)))) K S V))) rfl ?_
              refine zg_blk pok2 X 9 [0, 0] (S' := (4, [(2, zI 8), (0, zR (a 0)), (1, zI z1)], [zI 8], (tW a (zup F 0 (((F 0) + 1) + 1)) (zup (zup B ((F 0).toNat) (znar (zbyt (zushr z1 24)))) (((F 0) + 1).toNat) (znar (zbyt (zushr z1 16)))) K S V))) rfl ⟨rfl, rfl, rfl, rfl, trivial⟩ ?_
              refine zg_if X 53 rfl rfl (by unfold zin; omega) (fun g7 => ?_) (fun g7 => ?_)
              · exact absurd (show (8 : Int) < (0 : Int) from g7) (by decide)
              · simp only [x_ncd] at g7
                refine zg_blk pok2 X 2 [0] (S' := (11, [(2, zI 8), (0, zR (a 0)), (1, zI z1)], [zI (((F 0) + 1) + 1)], (tW a (zup F 0 (((F 0) + 1) + 1)) (zup (zup B ((F 0).toNat) (znar (zbyt (zushr z1 24)))) (((F 0) + 1).toNat) (znar (zbyt (zushr z1 16)))) K S V))) rfl ⟨rfl, trivial⟩ ?_
                refine zg_if X 47 rfl rfl (by unfold zin; omega) (fun g8 => ?_) (fun g8 => ?_)
                · simp only [x_cnd] at g8
                  exfalso
                  omega
                · simp only [x_ncd] at g8
                  refine zg_blk pok2 X 3 [0] (S' := (21, [(2, zI 8), (0, zR (a 0)), (1, zI z1)], [zI 940, zI (((F 0) + 1) + 1)], (tW a (zup F 0 (((F 0) + 1) + 1)) (zup (zup B ((F 0).toNat) (znar (zbyt (zushr z1 24)))) (((F 0) + 1).toNat) (znar (zbyt (zushr z1 16)))) K S V))) rfl ⟨rfl, trivial⟩ ?_
                  refine zg_icmp X 47 rfl rfl (by unfold zin; omega) (by unfold zin; omega) (fun g9 => ?_) (fun g9 => ?_)
                  · simp only [x_cnd] at g9
                    exfalso
                    omega
                  · simp only [x_ncd] at g9
                    refine zg_blk pok2 X 6 [0, 0] (S' := (34, [(2, zI 8), (0, zR (a 0)), (1, zI z1)], [zI 8, zI z1, zI (((F 0) + 1) + 1), zR (a 1)], (tW a (zup F 0 (((F 0) + 1) + 1)) (zup (zup B ((F 0).toNat) (znar (zbyt (zushr z1 24)))) (((F 0) + 1).toNat) (znar (zbyt (zushr z1 16)))) K S V))) rfl ⟨rfl, rfl, trivial⟩ ?_
                    refine zg_ushr X rfl ?_
                    refine zg_blk pok2 X 1 [] (S' := (36, [(2, zI 8), (0, zR (a 0)), (1, zI z1)], [zI (zbyt (zushr z1 8)), zI (((F 0) + 1) + 1), zR (a 1)], (tW a (zup F 0 (((F 0) + 1) + 1)) (zup (zup B ((F 0).toNat) (znar (zbyt (zushr z1 24)))) (((F 0) + 1).toNat) (znar (zbyt (zushr z1 16)))) K S V))) rfl trivial ?_
                    refine zg_bast X 1 rfl rfl (show zidx (((F 0) + 1) + 1) 940 from by unfold zidx; omega) ?_
                    refine zg_cv (S2 := (37, [(2, zI 8), (0, zR (a 0)), (1, zI z1)], [], (tW a (zup F 0 (((F 0) + 1) + 1)) (zup (zup (zup B ((F 0).toNat) (znar (zbyt (zushr z1 24)))) (((F 0) + 1).toNat) (znar (zbyt (zushr z1 16)))) ((((F 0) + 1) + 1).toNat) (znar (zbyt (zushr z1 8)))) K S V))) rfl ?_
                    refine zg_blk pok2 X 9 [0, 0] (S' := (4, [(2, zI 0), (0, zR (a 0)), (1, zI z1)], [zI 0], (tW a (zup F 0 ((((F 0) + 1) + 1) + 1)) (zup (zup (zup B ((F 0).toNat) (znar (zbyt (zushr z1 24)))) (((F 0) + 1).toNat) (znar (zbyt (zushr z1 16)))) ((((F 0) + 1) + 1).toNat) (znar (zbyt (zushr z1 8)))) K S V))) rfl ⟨rfl, rfl, rfl, rfl, trivial⟩ ?_
                    refine zg_if X 53 rfl rfl (by unfold zin; omega) (fun g10 => ?_) (fun g10 => ?_)
                    · exact absurd (show (0 : Int) < (0 : Int) from g10) (by decide)
                    · simp only [x_ncd] at g10
                      refine zg_blk pok2 X 2 [0] (S' := (11, [(2, zI 0), (0, zR (a 0)), (1, zI z1)], [zI ((((F 0) + 1) + 1) + 1)], (tW a (zup F 0 ((((F 0) + 1) + 1) + 1)) (zup (zup (zup B ((F 0).toNat) (znar (zbyt (zushr z1 24)))) (((F 0) + 1).toNat) (znar (zbyt (zushr z1 16)))) ((((F 0) + 1) + 1).toNat) (znar (zbyt (zushr z1 8)))) K S V))) rfl ⟨rfl, trivial⟩ ?_
                      refine zg_if X 47 rfl rfl (by unfold zin; omega) (fun g11 => ?_) (fun g11 => ?_)
                      · simp only [x_cnd] at g11
                        exfalso
                        omega
                      · simp only [x_ncd] at g11
                        refine zg_blk pok2 X 3 [0] (S' := (21, [(2, zI 0), (0, zR (a 0)), (1, zI z1)], [zI 940, zI ((((F 0) + 1) + 1) + 1)], (tW a (zup F 0 ((((F 0) + 1) + 1) + 1)) (zup (zup (zup B ((F 0).toNat) (znar (zbyt (zushr z1 24)))) (((F 0) + 1).toNat) (znar (zbyt (zushr z1 16)))) ((((F 0) + 1) + 1).toNat) (znar (zbyt (zushr z1 8)))) K S V))) rfl ⟨rfl, trivial⟩ ?_
                        refine zg_icmp X 47 rfl rfl (by unfold zin; omega) (by unfold zin; omega) (fun g12 => ?_) (fun g12 => ?_)
                        · simp only [x_cnd] at g12
                          exfalso
                          omega
                        · simp only [x_ncd] at g12
                          refine zg_blk pok2 X 6 [0, 0] (S' := (34, [(2, zI 0), (0, zR (a 0)), (1, zI z1)], [zI 0, zI z1, zI ((((F 0) + 1) + 1) + 1), zR (a 1)], (tW a (zup F 0 ((((F 0) + 1) + 1) + 1)) (zup (zup (zup B ((F 0).toNat) (znar (zbyt (zushr z1 24)))) (((F 0) + 1).toNat) (znar (zbyt (zushr z1 16)))) ((((F 0) + 1) + 1).toNat) (znar (zbyt (zushr z1 8)))) K S V))) rfl ⟨rfl, rfl, trivial⟩ ?_
                          refine zg_ushr X rfl ?_
                          refine zg_blk pok2 X 1 [] (S' := (36, [(2, zI 0), (0, zR (a 0)), (1, zI z1)], [zI (zbyt (zushr z1 0)), zI ((((F 0) + 1) + 1) + 1), zR (a 1)], (tW a (zup F 0 ((((F 0) + 1) + 1) + 1)) (zup (zup (zup B ((F 0).toNat) (znar (zbyt (zushr z1 24)))) (((F 0) + 1).toNat) (znar (zbyt (zushr z1 16)))) ((((F 0) + 1) + 1).toNat) (znar (zbyt (zushr z1 8)))) K S V))) rfl trivial ?_
                          refine zg_bast X 1 rfl rfl (show zidx ((((F 0) + 1) + 1) + 1) 940 from by unfold zidx; omega) ?_
                          refine zg_cv (S2 := (37, [(2, zI 0), (0, zR (a 0)), (1, zI z1)], [], (tW a (zup F 0 ((((F 0) + 1) + 1) + 1)) (zup (zup (zup (zup B ((F 0).toNat) (znar (zbyt (zushr z1 24)))) (((F 0) + 1).toNat) (znar (zbyt (zushr z1 16)))) ((((F 0) + 1) + 1).toNat) (znar (zbyt (zushr z1 8)))) (((((F 0) + 1) + 1) + 1).toNat) (znar (zbyt (zushr z1 0)))) K S V))) rfl ?_
                          refine zg_blk pok2 X 9 [0, 0] (S' := (4, [(2, zI (-8)), (0, zR (a 0)), (1, zI z1)], [zI (-8)], (tW a (zup F 0 (((((F 0) + 1) + 1) + 1) + 1)) (zup (zup (zup (zup B ((F 0).toNat) (znar (zbyt (zushr z1 24)))) (((F 0) + 1).toNat) (znar (zbyt (zushr z1 16)))) ((((F 0) + 1) + 1).toNat) (znar (zbyt (zushr z1 8)))) (((((F 0) + 1) + 1) + 1).toNat) (znar (zbyt (zushr z1 0)))) K S V))) rfl ⟨rfl, rfl, rfl, rfl, trivial⟩ ?_
                          refine zg_if X 53 rfl rfl (by unfold zin; omega) (fun g13 => ?_) (fun g13 => ?_)
                          · simp only [x_cnd] at g13
                            refine zg_retv X hR rfl rfl (by decide) (by decide) ?_
                            refine ⟨rfl, ?_⟩
                            rw [yu24, yu16, yu8, yu0, show F 0 + 1 + 1 + 1 + 1 = F 0 + 4 by omega]
                            rfl
                          · exact absurd (show (0 : Int) ≤ (-8 : Int) from g13) (by decide)
set_option maxRecDepth 4000 in
theorem zj_X12_four : PR2[119]? = some mt2_X12_four := rfl
set_option maxRecDepth 4000 in
theorem zr_four {z1 : Int} (hn : 0 ≤ F 2 ∧ F 2 + 4 ≤ 940) : ZMet (EWX xs) D cy l ex mt2_X12_four (0, 0, 0, 0) (rW m F B SS HH NR RV) [zR (m 0), zI z1] (fun z Y => z = none ∧ Y = rW m (zup F 2 (F 2 + 4)) (fou B (F 2) z1) SS HH NR RV) := by
  obtain ⟨mok, tok, ow⟩ := pok2.1 _ _ zj_X12_four
  refine met_ofz EWX_ok mok tok ow (Nat.le_of_ble_eq_true rfl) (fun r p0 e0 s0 m0 ar0 be0 me0 c0 A0 Q0 X hR => ?_)
  refine zg_blk pok2 X 3 [] (S' := (4, [(2, zI 24), (0, zR (m 0)), (1, zI z1)], [zI 24], (rW m F B SS HH NR RV))) rfl trivial ?_
  refine zg_if X 36 rfl rfl (by unfold zin; omega) (fun g1 => ?_) (fun g1 => ?_)
  · exact absurd (show (24 : Int) < (0 : Int) from g1) (by decide)
  · simp only [x_ncd] at g1
    refine zg_blk pok2 X 8 [0, 0] (S' := (19, [(2, zI 24), (0, zR (m 0)), (1, zI z1)], [zI (zbyt (zshr z1 24)), zI (F 2), zR (m 1)], (rW m F B SS HH NR RV))) rfl ⟨rfl, rfl, trivial⟩ ?_
    refine zg_bast X 1 rfl rfl (show zidx (F 2) 940 from by unfold zidx; omega) ?_
    refine zg_cv (S2 := (20, [(2, zI 24), (0, zR (m 0)), (1, zI z1)], [], (rW m F (zup B ((F 2).toNat) (znar (zbyt (zshr z1 24)))) SS HH NR RV))) rfl ?_
    refine zg_blk pok2 X 9 [0, 0] (S' := (4, [(2, zI 16), (0, zR (m 0)), (1, zI z1)], [zI 16], (rW m (zup F 2 ((F 2) + 1)) (zup B ((F 2).toNat) (znar (zbyt (zshr z1 24)))) SS HH NR RV))) rfl ⟨rfl, rfl, rfl, rfl, trivial⟩ ?_
    refine zg_if X 36 rfl rfl (by unfold zin; omega) (fun g2 => ?_) (fun g2 => ?_)
    · exact absurd (show (16 : Int) < (0 : Int) from g2) (by decide)
    · simp only [x_ncd] at g2
      refine zg_blk pok2 X 8 [0, 0] (S' := (19, [(2, zI 16), (0, zR (m 0)), (1, zI z1)], [zI (zbyt (zshr z1 16)), zI ((F 2) + 1), zR (m 1)], (rW m (zup F 2 ((F 2) + 1)) (zup B ((F 2).toNat) (znar (zbyt (zshr z1 24)))) SS HH NR RV))) rfl ⟨rfl, rfl, trivial⟩ ?_
      refine zg_bast X 1 rfl rfl (show zidx ((F 2) + 1) 940 from by unfold zidx; omega) ?_
      refine zg_cv (S2 := (20, [(2, zI 16), (0, zR (m 0)), (1, zI z1)], [], (rW m (zup F 2 ((F 2) + 1)) (zup (zup B ((F 2).toNat) (znar (zbyt (zshr z1 24)))) (((F 2) + 1).toNat) (znar (zbyt (zshr z1 16)))) SS HH NR RV))) rfl ?_
      refine zg_blk pok2 X 9 [0, 0] (S' := (4, [(2, zI 8), (0, zR (m 0)), (1, zI z1)], [zI 8], (rW m (zup F 2 (((F 2) + 1) + 1)) (zup (zup B ((F 2).toNat) (znar (zbyt (zshr z1 24)))) (((F 2) + 1).toNat) (znar (zbyt (zshr z1 16)))) SS HH NR RV))) rfl ⟨rfl, rfl, rfl, rfl, trivial⟩ ?_
      refine zg_if X 36 rfl rfl (by unfold zin; omega) (fun g3 => ?_) (fun g3 => ?_)
      · exact absurd (show (8 : Int) < (0 : Int) from g3) (by decide)
      · simp only [x_ncd] at g3
        refine zg_blk pok2 X 8 [0, 0] (S' := (19, [(2, zI 8), (0, zR (m 0)), (1, zI z1)], [zI (zbyt (zshr z1 8)), zI (((F 2) + 1) + 1), zR (m 1)], (rW m (zup F 2 (((F 2) + 1) + 1)) (zup (zup B ((F 2).toNat) (znar (zbyt (zshr z1 24)))) (((F 2) + 1).toNat) (znar (zbyt (zshr z1 16)))) SS HH NR RV))) rfl ⟨rfl, rfl, trivial⟩ ?_
        refine zg_bast X 1 rfl rfl (show zidx (((F 2) + 1) + 1) 940 from by unfold zidx; omega) ?_
        refine zg_cv (S2 := (20, [(2, zI 8), (0, zR (m 0)), (1, zI z1)], [], (rW m (zup F 2 (((F 2) + 1) + 1)) (zup (zup (zup B ((F 2).toNat) (znar (zbyt (zshr z1 24)))) (((F 2) + 1).toNat) (znar (zbyt (zshr z1 16)))) ((((F 2) + 1) + 1).toNat) (znar (zbyt (zshr z1 8)))) SS HH NR RV))) rfl ?_
        refine zg_blk pok2 X 9 [0, 0] (S' := (4, [(2, zI 0), (0, zR (m 0)), (1, zI z1)], [zI 0], (rW m (zup F 2 ((((F 2) + 1) + 1) + 1)) (zup (zup (zup B ((F 2).toNat) (znar (zbyt (zshr z1 24)))) (((F 2) + 1).toNat) (znar (zbyt (zshr z1 16)))) ((((F 2) + 1) + 1).toNat) (znar (zbyt (zshr z1 8)))) SS HH NR RV))) rfl ⟨rfl, rfl, rfl, rfl, trivial⟩ ?_
        refine zg_if X 36 rfl rfl (by unfold zin; omega) (fun g4 => ?_) (fun g4 => ?_)
        · exact absurd (show (0 : Int) < (0 : Int) from g4) (by decide)
        · simp only [x_ncd] at g4
          refine zg_blk pok2 X 8 [0, 0] (S' := (19, [(2, zI 0), (0, zR (m 0)), (1, zI z1)], [zI (zbyt (zshr z1 0)), zI ((((F 2) + 1) + 1) + 1), zR (m 1)], (rW m (zup F 2 ((((F 2) + 1) + 1) + 1)) (zup (zup (zup B ((F 2).toNat) (znar (zbyt (zshr z1 24)))) (((F 2) + 1).toNat) (znar (zbyt (zshr z1 16)))) ((((F 2) + 1) + 1).toNat) (znar (zbyt (zshr z1 8)))) SS HH NR RV))) rfl ⟨rfl, rfl, trivial⟩ ?_
          refine zg_bast X 1 rfl rfl (show zidx ((((F 2) + 1) + 1) + 1) 940 from by unfold zidx; omega) ?_
          refine zg_cv (S2 := (20, [(2, zI 0), (0, zR (m 0)), (1, zI z1)], [], (rW m (zup F 2 ((((F 2) + 1) + 1) + 1)) (zup (zup (zup (zup B ((F 2).toNat) (znar (zbyt (zshr z1 24)))) (((F 2) + 1).toNat) (znar (zbyt (zshr z1 16)))) ((((F 2) + 1) + 1).toNat) (znar (zbyt (zshr z1 8)))) (((((F 2) + 1) + 1) + 1).toNat) (znar (zbyt (zshr z1 0)))) SS HH NR RV))) rfl ?_
          refine zg_blk pok2 X 9 [0, 0] (S' := (4, [(2, zI (-8)), (0, zR (m 0)), (1, zI z1)], [zI (-8)], (rW m (zup F 2 (((((F 2) + 1) + 1) + 1) + 1)) (zup (zup (zup (zup B ((F 2).toNat) (znar (zbyt (zshr z1 24)))) (((F 2) + 1).toNat) (znar (zbyt (zshr z1 16)))) ((((F 2) + 1) + 1).toNat) (znar (zbyt (zshr z1 8)))) (((((F 2) + 1) + 1) + 1).toNat) (znar (zbyt (zshr z1 0)))) SS HH NR RV))) rfl ⟨rfl, rfl, rfl, rfl, trivial⟩ ?_
          refine zg_if X 36 rfl rfl (by unfold zin; omega) (fun g5 => ?_) (fun g5 => ?_)
          · simp only [x_cnd] at g5
            refine zg_retv X hR rfl rfl (by decide) (by decide) ?_
            refine ⟨rfl, ?_⟩
            rw [show F 2 + 1 + 1 + 1 + 1 = F 2 + 4 by omega]
            rfl
          · exact absurd (show (0 : Int) ≤ (-8 : Int) from g5) (by decide)
set_option maxRecDepth 4000 in
theorem zj_X11_feed : PR2[48]? = some mt2_X11_feed := rfl
set_option maxRecDepth 4000 in
theorem zm_feed {z1 z2 z3 z4 z5 : Int} (hn : 0 ≤ F 0 ∧ F 0 ≤ 940) : ZMet (EWX xs) D cy l ex mt2_X11_feed (1, 0, 0, 22) (tW a F B K S V ++ oW a b U jd sc A1 A2 A3 A4 A5 A6) [zR (b 0), zI z1, zI z2, zI z3, zI z4, zI z5] (fun z Y => ∃ F9 B9, Y = (tW a F9 B9 K S V ++ oW a b U jd sc A1 A2 A3 A4 A5 A6) ∧ B9 = (if F 0 + 20 ≤ 940 then fed B (F 0) z1 z2 z3 z4 z5 else B)) := by
  obtain ⟨mok, tok, ow⟩ := pok2.1 _ _ zj_X11_feed
  refine met_ofz EWX_ok mok tok ow (Nat.le_of_ble_eq_true rfl) (fun r p0 e0 s0 m0 ar0 be0 me0 c0 A0 Q0 X hR => ?_)
  refine zg_blk pok2 X 6 [6, 0] (S' := (13, [(0, zR (b 0)), (1, zI z1), (2, zI z2), (3, zI z3), (4, zI z4), (5, zI z5)], [zI 940, zI ((F 0) + 20)], ((tW a F B K S V) ++ (oW a b U jd sc A1 A2 A3 A4 A5 A6)))) rfl ⟨rfl, rfl, trivial⟩ ?_
  refine zg_icmp X 18 rfl rfl (by unfold zin; omega) (by unfold zin; omega) (fun g1 => ?_) (fun g1 => ?_)
  · simp only [x_cnd] at g1
    refine zg_blk pok2 X 3 [6] (S' := (23, [(0, zR (b 0)), (1, zI z1), (2, zI z2), (3, zI z3), (4, zI z4), (5, zI z5)], [zI z1, zR (a 0)], ((tW a F B K S V) ++ (oW a b U jd sc A1 A2 A3 A4 A5 A6)))) rfl ⟨rfl, trivial⟩ ?_
    refine zg_callV pok2 EWX_ok X 0 (vas := [zI z1]) (vr := []) (Y1 := (tW a F B K S V)) (Y2 := (oW a b U jd sc A1 A2 A3 A4 A5 A6)) rfl rfl (Or.inl rfl) zj_X9_append rfl rfl rfl rfl (Nat.le_of_ble_eq_true rfl) rfl (zm_append (F := F) (show 0 ≤ F 0 ∧ F 0 + 4 ≤ 940 by omega)) ⟨by decide, by decide, by decide, by decide⟩ (fun z9 Y9 hz => ?_)
    obtain ⟨rfl, rfl⟩ := hz
    refine zg_cv (S2 := (26, [(0, zR (b 0)), (1, zI z1), (2, zI z2), (3, zI z3), (4, zI z4), (5, zI z5)], [], ((tW a (zup F 0 ((F 0) + 4)) (fou B (F 0) z1) K S V) ++ (oW a b U jd sc A1 A2 A3 A4 A5 A6)))) rfl ?_
    refine zg_blk pok2 X 3 [6] (S' := (31, [(0, zR (b 0)), (1, zI z1), (2, zI z2), (3, zI z3), (4, zI z4), (5, zI z5)], [zI z2, zR (a 0)], ((tW a (zup F 0 ((F 0) + 4)) (fou B (F 0) z1) K S V) ++ (oW a b U jd sc A1 A2 A3 A4 A5 A6)))) rfl ⟨rfl, trivial⟩ ?_
    refine zg_callV pok2 EWX_ok X 0 (vas := [zI z2]) (vr := []) (Y1 := (tW a (zup F 0 ((F 0) + 4)) (fou B (F 0) z1) K S V)) (Y2 := (oW a b U jd sc A1 A2 A3 A4 A5 A6)) rfl rfl (Or.inl rfl) zj_X9_append rfl rfl rfl rfl (Nat.le_of_ble_eq_true rfl) rfl (zm_append (F := (zup F 0 ((F 0) + 4))) (show 0 ≤ (F 0) + 4 ∧ (F 0) + 4 + 4 ≤ 940 by omega)) ⟨by decide, by decide, by decide, by decide⟩ (fun z9 Y9 hz => ?_)
    obtain ⟨rfl, rfl⟩ := hz
    refine zg_cv (S2 := (34, [(0, zR (b 0)), (1, zI z1), (2, zI z2), (3, zI z3), (4, zI z4), (5, zI z5)], [], ((tW a (zup F 0 (((F 0) + 4) + 4)) (fou (fou B (F 0) z1) ((F 0) + 4) z2) K S V) ++ (oW a b U jd sc A1 A2 A3 A4 A5 A6)))) rfl ?_
    refine zg_blk pok2 X 3 [6] (S' := (39, [(0, zR (b 0)), (1, zI z1), (2, zI z2), (3, zI z3), (4, zI z4), (5, zI z5)], [zI z3, zR (a 0)], ((tW a (zup F 0 (((F 0) + 4) + 4)) (fou (fou B (F 0) z1) ((F 0) + 4) z2) K S V) ++ (oW a b U jd sc A1 A2 A3 A4 A5 A6)))) rfl ⟨rfl, trivial⟩ ?_
    refine zg_callV pok2 EWX_ok X 0 (vas := [zI z3]) (vr := []) (Y1 := (tW a (zup F 0 (((F 0) + 4) + 4)) (fou (fou B (F 0) z1) ((F 0) + 4) z2) K S V)) (Y2 := (oW a b U jd sc A1 A2 A3 A4 A5 A6)) rfl rfl (Or.inl rfl) zj_X9_append rfl rfl rfl rfl (Nat.le_of_ble_eq_true rfl) rfl (zm_append (F := (zup F 0 (((F 0) + 4) + 4))) (show 0 ≤ ((F 0) + 4) + 4 ∧ ((F 0) + 4) + 4 + 4 ≤ 940 by omega)) ⟨by decide, by decide, by decide, by decide⟩ (fun z9 Y9 hz => ?_)
    obtain ⟨rfl, rfl⟩ := hz
    refine zg_cv (S2 := (42, [(0, zR (b 0)), (1, zI z1), (2, zI z2), (3, zI z3), (4, zI z4), (5, zI z5)], [], ((tW a (zup F 0 ((((F 0) + 4) + 4) + 4)) (fou (fou (fou B (F 0) z1) ((F 0) + 4) z2) (((F 0) + 4) + 4) z3) K S V) ++ (oW a b U jd sc A1 A2 A3 A4 A5 A6)))) rfl ?_
    refine zg_blk pok2 X 3 [6] (S' := (48, [(0, zR (b 0)), (1, zI z1), (2, zI z2), (3, zI z3), (4, zI z4), (5, zI z5)], [zI z4, zR (a 0)], ((tW a (zup F 0 ((((F 0) + 4) + 4) + 4)) (fou (fou (fou B (F 0) z1) ((F 0) + 4) z2) (((F 0) + 4) + 4) z3) K S V) ++ (oW a b U jd sc A1 A2 A3 A4 A5 A6)))) rfl ⟨rfl, trivial⟩ ?_
    refine zg_callV pok2 EWX_ok X 0 (vas := [zI z4]) (vr := []) (Y1 := (tW a (zup F 0 ((((F 0) + 4) + 4) + 4)) (fou (fou (fou B (F 0) z1) ((F 0) + 4) z2) (((F 0) + 4) + 4) z3) K S V)) (Y2 := (oW a b U jd sc A1 A2 A3 A4 A5 A6)) rfl rfl (Or.inl rfl) zj_X9_append rfl rfl rfl rfl (Nat.le_of_ble_eq_true rfl) rfl (zm_append (F := (zup F 0 ((((F 0) + 4) + 4) + 4))) (show 0 ≤ (((F 0) + 4) + 4) + 4 ∧ (((F 0) + 4) + 4) + 4 + 4 ≤ 940 by omega)) ⟨by decide, by decide, by decide, by decide⟩ (fun z9 Y9 hz => ?_)
    obtain ⟨rfl, rfl⟩ := hz
    refine zg_cv (S2 := (51, [(0, zR (b 0)), (1, zI z1), (2, zI z2), (3, zI z3), (4, zI z4), (5, zI z5)], [], ((tW a (zup F 0 (((((F 0) + 4) + 4) + 4) + 4)) (fou (fou (fou (fou B (F 0) z1) ((F 0) + 4) z2) (((F 0) + 4) + 4) z3) ((((F 0) + 4) + 4) + 4) z4) K S V) ++ (oW a b U jd sc A1 A2 A3 A4 A5 A6)))) rfl ?_
    refine zg_blk pok2 X 3 [6] (S' := (57, [(0, zR (b 0)), (1, zI z1), (2, zI z2), (3, zI z3), (4, zI z4), (5, zI z5)], [zI z5, zR (a 0)], ((tW a (zup F 0 (((((F 0) + 4) + 4) + 4) + 4)) (fou (fou (fou (fou B (F 0) z1) ((F 0) + 4) z2) (((F 0) + 4) + 4) z3) ((((F 0) + 4) + 4) + 4) z4) K S V) ++ (oW a b U jd sc A1 A2 A3 A4 A5 A6)))) rfl ⟨rfl, trivial⟩ ?_
    refine zg_callV pok2 EWX_ok X 0 (vas := [zI z5]) (vr := []) (Y1 := (tW a (zup F 0 (((((F 0) + 4) + 4) + 4) + 4)) (fou (fou (fou (fou B (F 0) z1) ((F 0) + 4) z2) (((F 0) + 4) + 4) z3) ((((F 0) + 4) + 4) + 4) z4) K S V)) (Y2 := (oW a b U jd sc A1 A2 A3 A4 A5 A6)) rfl rfl (Or.inl rfl) zj_X9_append rfl rfl rfl rfl (Nat.le_of_ble_eq_true rfl) rfl (zm_append (F := (zup F 0 (((((F 0) + 4) + 4) + 4) + 4))) (show 0 ≤ ((((F 0) + 4) + 4) + 4) + 4 ∧ ((((F 0) + 4) + 4) + 4) + 4 + 4 ≤ 940 by omega)) ⟨by decide, by decide, by decide, by decide⟩ (fun z9 Y9 hz => ?_)
    obtain ⟨rfl, rfl⟩ := hz
    refine zg_cv (S2 := (60, [(0, zR (b 0)), (1, zI z1), (2, zI z2), (3, zI z3), (4, zI z4), (5, zI z5)], [], ((tW a (zup F 0 ((((((F 0) + 4) + 4) + 4) + 4) + 4)) (fou (fou (fou (fou (fou B (F 0) z1) ((F 0) + 4) z2) (((F 0) + 4) + 4) z3) ((((F 0) + 4) + 4) + 4) z4) (((((F 0) + 4) + 4) + 4) + 4) z5) K S V) ++ (oW a b U jd sc A1 A2 A3 A4 A5 A6)))) rfl ?_
    refine zg_blk pok2 X 3 [6, 0] (S' := (67, [(0, zR (b 0)), (1, zI z1), (2, zI z2), (3, zI z3), (4, zI z4), (5, zI z5)], [zI ((((((F 0) + 4) + 4) + 4) + 4) + 4)], ((tW a (zup F 0 ((((((F 0) + 4) + 4) + 4) + 4) + 4)) (fou (fou (fou (fou (fou B (F 0) z1) ((F 0) + 4) z2) (((F 0) + 4) + 4) z3) ((((F 0) + 4) + 4) + 4) z4) (((((F 0) + 4) + 4) + 4) + 4) z5) K S V) ++ (oW a b U jd sc A1 A2 A3 A4 A5 A6)))) rfl ⟨rfl, rfl, trivial⟩ ?_
    refine zg_reti X hR rfl rfl (by decide) (by decide) ?_
    refine ⟨_, _, rfl, ?_⟩
    first | rw [if_neg (by omega)] | (rw [if_pos (by omega)]; rfl)
  · simp only [x_ncd] at g1
    refine zg_blk pok2 X 1 [] (S' := (17, [(0, zR (b 0)), (1, zI z1), (2, zI z2), (3, zI z3), (4, zI z4), (5, zI z5)], [zI (-1)], ((tW a F B K S V) ++ (oW a b U jd sc A1 A2 A3 A4 A5 A6)))) rfl trivial ?_
    refine zg_reti X hR rfl rfl (by decide) (by decide) ?_
    refine ⟨_, _, rfl, ?_⟩
    first | rw [if_neg (by omega)] | (rw [if_pos (by omega)]; rfl)
set_option maxRecDepth 4000 in
theorem zj_X12_feed : PR2[114]? = some mt2_X12_feed := rfl
set_option maxRecDepth 4000 in
theorem zr_feed {z1 z2 z3 z4 z5 : Int} (hn : 0 ≤ F 2 ∧ F 2 ≤ 940) : ZMet (EWX xs) D cy l ex mt2_X12_feed (1, 0, 0, 22) (rW m F B SS HH NR RV) [zR (m 0), zI z1, zI z2, zI z3, zI z4, zI z5] (fun z Y => ∃ F9 B9, Y = (rW m F9 B9 SS HH NR RV) ∧ B9 = (if F 2 + 20 ≤ 940 then fed B (F 2) z1 z2 z3 z4 z5 else B)) := by
  obtain ⟨mok, tok, ow⟩ := pok2.1 _ _ zj_X12_feed
  refine met_ofz EWX_ok mok tok ow (Nat.le_of_ble_eq_true rfl) (fun r p0 e0 s0 m0 ar0 be0 me0 c0 A0 Q0 X hR => ?_)
  refine zg_blk pok2 X 8 [0, 0] (S' := (15, [(0, zR (m 0)), (1, zI z1), (2, zI z2), (3, zI z3), (4, zI z4), (5, zI z5)], [zI 940, zI ((F 2) + 20)], (rW m (zup F 0 0) B SS HH NR RV))) rfl ⟨rfl, rfl, rfl, rfl, trivial⟩ ?_
  refine zg_icmp X 20 rfl rfl (by unfold zin; omega) (by unfold zin; omega) (fun g1 => ?_) (fun g1 => ?_)
  · simp only [x_cnd] at g1
    refine zg_blk pok2 X 2 [] (S' := (22, [(0, zR (m 0)), (1, zI z1), (2, zI z2), (3, zI z3), (4, zI z4), (5, zI z5)], [zI z1, zR (m 0)], (rW m (zup F 0 0) B SS HH NR RV))) rfl trivial ?_
    refine zg_callV pok2 EWX_ok X 0 (vas := [zI z1]) (vr := []) (Y1 := (rW m (zup F 0 0) B SS HH NR RV)) (Y2 := []) rfl rfl (Or.inl rfl) zj_X12_four rfl rfl rfl rfl (Nat.le_of_ble_eq_true rfl) rfl (zr_four (F := (zup F 0 0)) (show 0 ≤ F 2 ∧ F 2 + 4 ≤ 940 by omega)) ⟨by decide, by decide, by decide, by decide⟩ (fun z9 Y9 hz => ?_)
    obtain ⟨rfl, rfl⟩ := hz
    refine zg_cv (S2 := (25, [(0, zR (m 0)), (1, zI z1), (2, zI z2), (3, zI z3), (4, zI z4), (5, zI z5)], [], (rW m (zup (zup F 0 0) 2 ((F 2) + 4)) (fou B (F 2) z1) SS HH NR RV))) rfl ?_
    refine zg_blk pok2 X 2 [] (S' := (27, [(0, zR (m 0)), (1, zI z1), (2, zI z2), (3, zI z3), (4, zI z4), (5, zI z5)], [zI z2, zR (m 0)], (rW m (zup (zup F 0 0) 2 ((F 2) + 4)) (fou B (F 2) z1) SS HH NR RV))) rfl trivial ?_
    refine zg_callV pok2 EWX_ok X 0 (vas := [zI z2]) (vr := []) (Y1 := (rW m (zup (zup F 0 0) 2 ((F 2) + 4)) (fou B (F 2) z1) SS HH NR RV)) (Y2 := []) rfl rfl (Or.inl rfl) zj_X12_four rfl rfl rfl rfl (Nat.le_of_ble_eq_true rfl) rfl (zr_four (F := (zup (zup F 0 0) 2 ((F 2) + 4))) (show 0 ≤ (F 2) + 4 ∧ (F 2) + 4 + 4 ≤ 940 by omega)) ⟨by decide, by decide, by decide, by decide⟩ (fun z9 Y9 hz => ?_)
    obtain ⟨rfl, rfl⟩ := hz
    refine zg_cv (S2 := (30, [(0, zR (m 0)), (1, zI z1), (2, zI z2), (3, zI z3), (4, zI z4), (5, zI z5)], [], (rW m (zup (zup F 0 0) 2 (((F 2) + 4) + 4)) (fou (fou B (F 2) z1) ((F 2) + 4) z2) SS HH NR RV))) rfl ?_
    refine zg_blk pok2 X 2 [] (S' := (32, [(0, zR (m 0)), (1, zI z1), (2, zI z2), (3, zI z3), (4, zI z4), (5, zI z5)], [zI z3, zR (m 0)], (rW m (zup (zup F 0 0) 2 (((F 2) + 4) + 4)) (fou (fou B (F 2) z1) ((F 2) + 4) z2) SS HH NR RV))) rfl trivial ?_
    refine zg_callV pok2 EWX_ok X 0 (vas := [zI z3]) (vr := []) (Y1 := (rW m (zup (zup F 0 0) 2 (((F 2) + 4) + 4)) (fou (fou B (F 2) z1) ((F 2) + 4) z2) SS HH NR RV)) (Y2 := []) rfl rfl (Or.inl rfl) zj_X12_four rfl rfl rfl rfl (Nat.le_of_ble_eq_true rfl) rfl (zr_four (F := (zup (zup F 0 0) 2 (((F 2) + 4) + 4))) (show 0 ≤ ((F 2) + 4) + 4 ∧ ((F 2) + 4) + 4 + 4 ≤ 940 by omega)) ⟨by decide, by decide, by decide, by decide⟩ (fun z9 Y9 hz => ?_)
    obtain ⟨rfl, rfl⟩ := hz
    refine zg_cv (S2 := (35, [(0, zR (m 0)), (1, zI z1), (2, zI z2), (3, zI z3), (4, zI z4), (5, zI z5)], [], (rW m (zup (zup F 0 0) 2 ((((F 2) + 4) + 4) + 4)) (fou (fou (fou B (F 2) z1) ((F 2) + 4) z2) (((F 2) + 4) + 4) z3) SS HH NR RV))) rfl ?_
    refine zg_blk pok2 X 2 [] (S' := (38, [(0, zR (m 0)), (1, zI z1), (2, zI z2), (3, zI z3), (4, zI z4), (5, zI z5)], [zI z4, zR (m 0)], (rW m (zup (zup F 0 0) 2 ((((F 2) + 4) + 4) + 4)) (fou (fou (fou B (F 2) z1) ((F 2) + 4) z2) (((F 2) + 4) + 4) z3) SS HH NR RV))) rfl trivial ?_
    refine zg_callV pok2 EWX_ok X 0 (vas := [zI z4]) (vr := []) (Y1 := (rW m (zup (zup F 0 0) 2 ((((F 2) + 4) + 4) + 4)) (fou (fou (fou B (F 2) z1) ((F 2) + 4) z2) (((F 2) + 4) + 4) z3) SS HH NR RV)) (Y2 := []) rfl rfl (Or.inl rfl) zj_X12_four rfl rfl rfl rfl (Nat.le_of_ble_eq_true rfl) rfl (zr_four (F := (zup (zup F 0 0) 2 ((((F 2) + 4) + 4) + 4))) (show 0 ≤ (((F 2) + 4) + 4) + 4 ∧ (((F 2) + 4) + 4) + 4 + 4 ≤ 940 by omega)) ⟨by decide, by decide, by decide, by decide⟩ (fun z9 Y9 hz => ?_)
    obtain ⟨rfl, rfl⟩ := hz
    refine zg_cv (S2 := (41, [(0, zR (m 0)), (1, zI z1), (2, zI z2), (3, zI z3), (4, zI z4), (5, zI z5)], [], (rW m (zup (zup F 0 0) 2 (((((F 2) + 4) + 4) + 4) + 4)) (fou (fou (fou (fou B (F 2) z1) ((F 2) + 4) z2) (((F 2) + 4) + 4) z3) ((((F 2) + 4) + 4) + 4) z4) SS HH NR RV))) rfl ?_
    refine zg_blk pok2 X 2 [] (S' := (44, [(0, zR (m 0)), (1, zI z1), (2, zI z2), (3, zI z3), (4, zI z4), (5, zI z5)], [zI z5, zR (m 0)], (rW m (zup (zup F 0 0) 2 (((((F 2) + 4) + 4) + 4) + 4)) (fou (fou (fou (fou B (F 2) z1) ((F 2) + 4) z2) (((F 2) + 4) + 4) z3) ((((F 2) + 4) + 4) + 4) z4) SS HH NR RV))) rfl trivial ?_
    refine zg_callV pok2 EWX_ok X 0 (vas := [zI z5]) (vr := []) (Y1 := (rW m (zup (zup F 0 0) 2 (((((F 2) + 4) + 4) + 4) + 4)) (fou (fou (fou (fou B (F 2) z1) ((F 2) + 4) z2) (((F 2) + 4) + 4) z3) ((((F 2) + 4) + 4) + 4) z4) SS HH NR RV)) (Y2 := []) rfl rfl (Or.inl rfl) zj_X12_four rfl rfl rfl rfl (Nat.le_of_ble_eq_true rfl) rfl (zr_four (F := (zup (zup F 0 0) 2 (((((F 2) + 4) + 4) + 4) + 4))) (show 0 ≤ ((((F 2) + 4) + 4) + 4) + 4 ∧ ((((F 2) + 4) + 4) + 4) + 4 + 4 ≤ 940 by omega)) ⟨by decide, by decide, by decide, by decide⟩ (fun z9 Y9 hz => ?_)
    obtain ⟨rfl, rfl⟩ := hz
    refine zg_cv (S2 := (47, [(0, zR (m 0)), (1, zI z1), (2, zI z2), (3, zI z3), (4, zI z4), (5, zI z5)], [], (rW m (zup (zup F 0 0) 2 ((((((F 2) + 4) + 4) + 4) + 4) + 4)) (fou (fou (fou (fou (fou B (F 2) z1) ((F 2) + 4) z2) (((F 2) + 4) + 4) z3) ((((F 2) + 4) + 4) + 4) z4) (((((F 2) + 4) + 4) + 4) + 4) z5) SS HH NR RV))) rfl ?_
    refine zg_blk pok2 X 2 [0] (S' := (51, [(0, zR (m 0)), (1, zI z1), (2, zI z2), (3, zI z3), (4, zI z4), (5, zI z5)], [zI ((((((F 2) + 4) + 4) + 4) + 4) + 4)], (rW m (zup (zup F 0 0) 2 ((((((F 2) + 4) + 4) + 4) + 4) + 4)) (fou (fou (fou (fou (fou B (F 2) z1) ((F 2) + 4) z2) (((F 2) + 4) + 4) z3) ((((F 2) + 4) + 4) + 4) z4) (((((F 2) + 4) + 4) + 4) + 4) z5) SS HH NR RV))) rfl ⟨rfl, trivial⟩ ?_
    refine zg_reti X hR rfl rfl (by decide) (by decide) ?_
    refine ⟨_, _, rfl, ?_⟩
    first | rw [if_neg (by omega)] | (rw [if_pos (by omega)]; rfl)
  · simp only [x_ncd] at g1
    refine zg_blk pok2 X 1 [] (S' := (19, [(0, zR (m 0)), (1, zI z1), (2, zI z2), (3, zI z3), (4, zI z4), (5, zI z5)], [zI (-1)], (rW m (zup F 0 0) B SS HH NR RV))) rfl trivial ?_
    refine zg_reti X hR rfl rfl (by decide) (by decide) ?_
    refine ⟨_, _, rfl, ?_⟩
    first | rw [if_neg (by omega)] | (rw [if_pos (by omega)]; rfl)
end ZC8
