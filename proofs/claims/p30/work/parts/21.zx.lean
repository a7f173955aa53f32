/-! runs of the abstract machine over intervals and symbols: an interpreter, its data -/
/-- a value: how (0 an int a + b * symbol s, 1 an int from a to b, 2 and 3 likewise longs, 4 the cell s, 6 nothing, 9 any) -/
abbrev zV : Type := Nat × Int × Int × Nat
/-- symbols and what they lie between, the newest first -/
abbrev zS : Type := List (Nat × Int × Int)
/-- what is known of the numbers of a place from .. to (a place: 128 * cell + field, 128 * cell + 127 an array's numbers) -/
abbrev zE : Type := Nat × Nat × Nat × zV
/-- a cell: its kind, its length, the cells it names, the cell that stands for all of these -/
abbrev zC : Type := Nat × Nat × List Nat × Nat
/-- how many cells and slots; the cells that have come -/
abbrev zK : Type := Nat × Nat × List (Nat × zC)
/-- an instruction by numbers: which, its operands -/
abbrev zI : Type := Nat × Nat × Int × List (Int × Int)
/-- a frame that waits: its depth, how many cells there were, method, block, what is left of it, locals, stack -/
abbrev zFr : Type := Nat × Nat × Nat × Nat × List zI × List zV × List zV
/-- where a run is: the frames that wait, depth, method, block -/
abbrev zX : Type := List zFr × Nat × Nat × Nat
/-- an end of a contract: bounds of symbols, where new symbols are found, what they lie between, the answer, what is known -/
abbrev zPo : Type := List (Nat × Int × Int) × List (Nat × Nat) × List (Int × Int) × List zV × List zE
/-- a contract: its level, symbols' bounds, where they are found, arguments, what must be known, its ends, what it may change -/
abbrev zCo : Type := Nat × List (Int × Int) × List (Nat × Nat) × List zV × List zE × List zPo × Nat
/-- a loop: its block, where new symbols are found, what they lie between, locals, what is known, what falls -/
abbrev zIv : Type := Nat × List (Nat × Nat) × List (Int × Int) × List zV × List zE × List zV
/-- tables: blocks, cells, bounds of places, what a cell from 700 to 999 stands for, contracts; loops, whether cells may come, what may be written, what may change, how many symbols stay, what falls (none at an entry), the end, what else is asked at a loop's head -/
abbrev zP : Type := (Nat → List (List zI)) × (Nat → zC) × (Nat → Int × Int) × (Nat → List Nat) × (Nat → List zCo) × List zIv × Bool × Nat × Nat × Nat × List (List zV) × (Nat → zS → zK → List zE → List zV → Bool) × (Nat → zS → zK → List zE → List zV → Bool)
def zP.bk (P : zP) : Nat → List (List zI) := P.1
def zP.kT (P : zP) : Nat → zC := P.2.1
def zP.zI (P : zP) : Nat → Int × Int := P.2.2.1
def zP.ps (P : zP) : Nat → List Nat := P.2.2.2.1
def zP.con (P : zP) : Nat → List zCo := P.2.2.2.2.1
def zP.inv (P : zP) : List zIv := P.2.2.2.2.2.1
def zP.al (P : zP) : Bool := P.2.2.2.2.2.2.1
def zP.wm (P : zP) : Nat := P.2.2.2.2.2.2.2.1
def zP.md (P : zP) : Nat := P.2.2.2.2.2.2.2.2.1
def zP.p0 (P : zP) : Nat := P.2.2.2.2.2.2.2.2.2.1
def zP.me (P : zP) : List (List zV) := P.2.2.2.2.2.2.2.2.2.2.1
def zP.fin (P : zP) : Nat → zS → zK → List zE → List zV → Bool := P.2.2.2.2.2.2.2.2.2.2.2.1
def zP.kc (P : zP) : Nat → zS → zK → List zE → List zV → Bool := P.2.2.2.2.2.2.2.2.2.2.2.2
/-! numbers -/
def zle (x y : Int) : Bool := match x, y with
  | .ofNat a, .ofNat b => Nat.ble a b
  | .negSucc _, .ofNat _ => true
  | .ofNat _, .negSucc _ => false
  | .negSucc a, .negSucc b => Nat.ble b a
def zeq (x y : Int) : Bool := match x, y with
  | .ofNat a, .ofNat b => Nat.beq a b
  | .negSucc _, .ofNat _ => false
  | .ofNat _, .negSucc _ => false
  | .negSucc a, .negSucc b => Nat.beq a b
def zmin (x y : Int) : Int := bif zle x y then x else y
def zmax (x y : Int) : Int := bif zle x y then y else x
def z0 : Int := Int.ofNat 0
def z1 : Int := Int.ofNat 1
/-- least and greatest: 0 of ints, 2 of longs -/
def zMn (w : Nat) : Int := bif Nat.beq w 0 then Int.negSucc 2147483647 else Int.negSucc 9223372036854775807
def zMx (w : Nat) : Int := bif Nat.beq w 0 then Int.ofNat 2147483647 else Int.ofNat 9223372036854775807
def zWr (w : Nat) (z : Int) : Int := Int.bmod z (bif Nat.beq w 0 then 4294967296 else 18446744073709551616)
def zc (w : Nat) (x : Int) : zV := (w, x, z0, 0)
def zsy (s : Nat) : zV := (0, z0, z1, s)
def zr (w : Nat) (lo hi : Int) : zV := bif zeq lo hi then (w, lo, z0, 0) else (w + 1, lo, hi, 0)
def zcell (a : Nat) : zV := (4, z0, z0, a)
def zSy : zS → Nat → (Int → Int → Bool) → Bool
  | [], _, _ => false
  | e :: r, s, k => bif Nat.beq e.1 s then k e.2.1 e.2.2 else zSy r s k
/-- a + b * a symbol between lo and hi -/
def zAfR (a b lo hi : Int) (k : Int → Int → Bool) : Bool := bif zle z0 b then k (a + b * lo) (a + b * hi) else k (a + b * hi) (a + b * lo)
def zRgA (σ : zS) (v : zV) (k : Int → Int → Bool) : Bool := bif zeq v.2.2.1 z0 then k v.2.1 v.2.1 else bif zeq v.2.2.1 z1 then zSy σ v.2.2.2 (fun lo hi => k (v.2.1 + lo) (v.2.1 + hi)) else zSy σ v.2.2.2 fun lo hi => zAfR v.2.1 v.2.2.1 lo hi k
def zRgB (_ : zS) (v : zV) (k : Int → Int → Bool) : Bool := k v.2.1 v.2.2.1
def zRgC (_ : zS) (_ : zV) (_ : Int → Int → Bool) : Bool := false
/-- what a value lies between -/
def zRg (w : Nat) (σ : zS) (v : zV) (k : Int → Int → Bool) : Bool := (bif Nat.beq v.1 w then zRgA else bif Nat.beq v.1 (w + 1) then zRgB else zRgC) σ v k
/-- a symbol between lo and hi from here on -/
def zNrP (σ : zS) (s : Nat) (lo hi : Int) (k : zS → Bool) : Bool := bif zle lo hi then k ((s, lo, hi) :: σ) else true
def zNr1 (σ : zS) (v : zV) (lo hi : Int) (k : zS → Bool) : Bool := zSy σ v.2.2.2 fun l h => bif zle (lo - v.2.1) l && zle h (hi - v.2.1) then k σ else zNrP σ v.2.2.2 (zmax l (lo - v.2.1)) (zmin h (hi - v.2.1)) k
def zNrB (σ : zS) (v : zV) (lo hi : Int) (k : zS → Bool) : Bool := zSy σ v.2.2.2 fun l h => zNrP σ v.2.2.2 (zmax l (-((v.2.1 - lo) / v.2.2.1))) (zmin h ((hi - v.2.1) / v.2.2.1)) k
def zNrM (σ : zS) (v : zV) (lo hi : Int) (k : zS → Bool) : Bool := zSy σ v.2.2.2 fun l h => zNrP σ v.2.2.2 (zmax l (v.2.1 - hi)) (zmin h (v.2.1 - lo)) k
def zNr0 (σ : zS) (_ : zV) (_ _ : Int) (k : zS → Bool) : Bool := k σ
def zNrS (b : Int) : zS → zV → Int → Int → (zS → Bool) → Bool := bif zeq b z1 then zNr1 else bif zle z1 b then zNrB else bif zeq b (Int.negSucc 0) then zNrM else zNr0
def zNr (w : Nat) (σ : zS) (v : zV) (lo hi : Int) (k : zS → Bool) : Bool := (bif Nat.beq v.1 w then zNrS v.2.2.1 else zNr0) σ v lo hi k
/-- two values are narrowed -/
def zNr2 (w : Nat) (σ : zS) (x y : zV) (lx hx ly hy : Int) (k : zS → Bool) : Bool := zNr w σ x lx hx fun σ => zNr w σ y ly hy k
def zRg2 (w : Nat) (σ : zS) (x y : zV) (k : Int → Int → Int → Int → Bool) : Bool := zRg w σ x fun lx hx => zRg w σ y fun ly hy => k lx hx ly hy
/-- may two values be added symbol by symbol -/
def zSame (w : Nat) (x y : zV) : Bool := Nat.beq x.1 w && (Nat.beq y.1 w && Nat.beq x.2.2.2 y.2.2.2)
/-- two values of one symbol and one factor -/
def zPar (w : Nat) (x y : zV) : Bool := zSame w x y && zeq x.2.2.1 y.2.2.1
def zLtK (w : Nat) (σ : zS) (x y : zV) (k : zS → Bool) (lx hx ly hy : Int) : Bool := bif zle hy lx then true else bif zle (hx + z1) ly then k σ else zNr2 w σ x y lx (zmin hx (hy - z1)) (zmax ly (lx + z1)) hy k
def zLt (w : Nat) (σ : zS) (x y : zV) (k : zS → Bool) : Bool := bif zPar w x y then (bif zle y.2.1 x.2.1 then true else k σ) else zRg2 w σ x y (zLtK w σ x y k)
def zLeK (w : Nat) (σ : zS) (x y : zV) (k : zS → Bool) (lx hx ly hy : Int) : Bool := bif zle hx ly then k σ else bif zle lx hy then zNr2 w σ x y lx (zmin hx hy) (zmax ly lx) hy k else true
def zLe (w : Nat) (σ : zS) (x y : zV) (k : zS → Bool) : Bool := bif zPar w x y then (bif zle x.2.1 y.2.1 then k σ else true) else zRg2 w σ x y (zLeK w σ x y k)
def zEqK (w : Nat) (σ : zS) (x y : zV) (k : zS → Bool) (lx hx ly hy : Int) : Bool := bif zle (zmax lx ly) (zmin hx hy) then zNr2 w σ x y (zmax lx ly) (zmin hx hy) (zmax lx ly) (zmin hx hy) k else true
def zEq (w : Nat) (σ : zS) (x y : zV) (k : zS → Bool) : Bool := bif zPar w x y then (bif zeq x.2.1 y.2.1 then k σ else true) else zRg2 w σ x y (zEqK w σ x y k)
/-- a value that isn't c -/
def zNeC (w : Nat) (σ : zS) (x : zV) (lx hx c : Int) (k : zS → Bool) : Bool := bif zeq lx c then (bif zeq hx c then true else zNr w σ x (lx + z1) hx k) else bif zeq hx c then zNr w σ x lx (hx - z1) k
  else bif Nat.beq x.1 w && (zle lx c && zle c hx) then zNr w σ x lx (c - z1) k && zNr w σ x (c + z1) hx k else k σ
def zNeK (w : Nat) (σ : zS) (x y : zV) (k : zS → Bool) (lx hx ly hy : Int) : Bool := bif zeq ly hy then zNeC w σ x lx hx ly k else bif zeq lx hx then zNeC w σ y ly hy lx k else k σ
def zNe (w : Nat) (σ : zS) (x y : zV) (k : zS → Bool) : Bool := bif zPar w x y then (bif zeq x.2.1 y.2.1 then true else k σ) else zRg2 w σ x y (zNeK w σ x y k)
def zCp (a b : zS → zV → zV → (zS → Bool) → Bool) (sw : Bool) (σ : zS) (x y : zV) (kt kf : zS → Bool) : Bool := bif sw then a σ y x kt && b σ x y kf else a σ x y kt && b σ y x kf
/-- comparisons: = # < >= > <= -/
def zCmpS (c : Int) : zS → zV → zV → (zS → Bool) → (zS → Bool) → Bool :=
  bif zle c z1 then (bif zeq c z0 then zCp (zEq 0) (zNe 0) false else zCp (zNe 0) (zEq 0) false)
  else bif zle c (Int.ofNat 3) then (bif zeq c (Int.ofNat 2) then zCp (zLt 0) (zLe 0) false else zCp (zLe 0) (zLt 0) true)
  else bif zeq c (Int.ofNat 4) then zCp (zLt 0) (zLe 0) true else zCp (zLe 0) (zLt 0) false
/-! arithmetic -/
def zAff (w : Nat) (a b : Int) (s : Nat) : zV := bif zeq b z0 then (w, a, z0, 0) else (w, a, b, s)
/-- a value and a number -/
def zSh (w : Nat) (v : zV) (c : Int) : zV := bif Nat.beq v.1 w then (w, v.2.1 + c, v.2.2.1, v.2.2.2) else (w + 1, v.2.1 + c, v.2.2.1 + c, 0)
def zNg (w : Nat) (v : zV) : zV := bif Nat.beq v.1 w then (w, -v.2.1, -v.2.2.1, v.2.2.2) else (w + 1, -v.2.2.1, -v.2.1, 0)
def zAddV (w : Nat) (x y : zV) (lx hx ly hy : Int) : zV := bif zeq ly hy then zSh w x ly else bif zeq lx hx then zSh w y lx else bif zSame w x y then zAff w (x.2.1 + y.2.1) (x.2.2.1 + y.2.2.1) x.2.2.2 else (w + 1, lx + ly, hx + hy, 0)
def zOver (w : Nat) (z lx hx ly hy : Int) : zV := bif zeq lx hx && zeq ly hy then zc w (zWr w z) else (w + 1, zMn w, zMx w, 0)
def zAddK (w : Nat) (x y : zV) (k : zV → Bool) (lx hx ly hy : Int) : Bool := bif zle (zMn w) (lx + ly) && zle (hx + hy) (zMx w) then k (zAddV w x y lx hx ly hy) else k (zOver w (lx + ly) lx hx ly hy)
def zAdd (w : Nat) (σ : zS) (x y : zV) (k : zV → Bool) : Bool := zRg2 w σ x y (zAddK w x y k)
def zSub (w : Nat) (σ : zS) (x y : zV) (k : zV → Bool) : Bool := bif Nat.beq y.1 w || Nat.beq y.1 (w + 1) then zAdd w σ x (zNg w y) k else false
/-- a value by a number -/
def zSc (w : Nat) (v : zV) (c : Int) : zV := bif Nat.beq v.1 w then zAff w (v.2.1 * c) (v.2.2.1 * c) v.2.2.2 else bif zle z0 c then (w + 1, v.2.1 * c, v.2.2.1 * c, 0) else (w + 1, v.2.2.1 * c, v.2.1 * c, 0)
def zMin4 (a b c d : Int) : Int := zmin (zmin a b) (zmin c d)
def zMax4 (a b c d : Int) : Int := zmax (zmax a b) (zmax c d)
def zMulV (w : Nat) (x y : zV) (lx hx ly hy p q : Int) : zV := bif zeq ly hy then zSc w x ly else bif zeq lx hx then zSc w y lx else (w + 1, p, q, 0)
def zMulK (w : Nat) (x y : zV) (k : zV → Bool) (lx hx ly hy p q : Int) : Bool := bif zle (zMn w) p && zle q (zMx w) then k (zMulV w x y lx hx ly hy p q) else k (zOver w (lx * ly) lx hx ly hy)
def zMul (w : Nat) (σ : zS) (x y : zV) (k : zV → Bool) : Bool := zRg2 w σ x y fun lx hx ly hy => zMulK w x y k lx hx ly hy (zMin4 (lx * ly) (lx * hy) (hx * ly) (hx * hy)) (zMax4 (lx * ly) (lx * hy) (hx * ly) (hx * hy))
def zDivV (w : Nat) (lx hx ly hy : Int) : zV := bif zeq lx hx && zeq ly hy then zc w (lx.tdiv ly) else (w + 1, bif zle z0 lx then lx.tdiv hy else lx.tdiv ly, bif zle z0 hx then hx.tdiv ly else hx.tdiv hy, 0)
def zDivK (w : Nat) (k : zV → Bool) (lx hx ly hy : Int) : Bool := bif zle z1 ly then k (zDivV w lx hx ly hy) else bif zle hy (Int.negSucc 0) then k (w + 1, zMn w, zMx w, 0) else false
def zDiv (w : Nat) (σ : zS) (x y : zV) (k : zV → Bool) : Bool := zRg2 w σ x y (zDivK w k)
def zRemV (lx hx ly hy : Int) : zV := bif zeq lx hx && zeq ly hy then zc 0 (lx.tmod ly) else (1, bif zle z0 lx then z0 else z1 - hy, hy - z1, 0)
def zRemK (k : zV → Bool) (lx hx ly hy : Int) : Bool := bif zle z1 ly then k (zRemV lx hx ly hy) else bif zle hy (Int.negSucc 0) then k (1, zMn 0, zMx 0, 0) else false
def zRem (σ : zS) (x y : zV) (k : zV → Bool) : Bool := zRg2 0 σ x y (zRemK k)
def zAny : zV := (1, Int.negSucc 2147483647, Int.ofNat 2147483647, 0)
/-- an operation of bits: of two numbers as it is, else by what is told -/
def zBits (f : Int32 → Int32 → Int32) (g : Int → Int → Int → Int → zV) (σ : zS) (x y : zV) (k : zV → Bool) : Bool := zRg2 0 σ x y fun lx hx ly hy =>
  bif zeq lx hx && zeq ly hy then k (zc 0 (f (Int32.ofInt lx) (Int32.ofInt ly)).toInt) else k (g lx hx ly hy)
def zgAnd (lx hx ly hy : Int) : zV := bif zle z0 lx then (bif zle z0 ly then zr 0 z0 (zmin hx hy) else zr 0 z0 hx) else bif zle z0 ly then zr 0 z0 hy else zAny
def zgTop (_ _ _ _ : Int) : zV := zAny
def zgBit (lx hx ly hy : Int) : zV := bif (zle z0 lx && zle hx z1) && (zle z0 ly && zle hy z1) then (1, z0, z1, 0) else zAny
def zgUsh (_ _ ly hy : Int) : zV := bif zeq ly hy && (zle z1 ly && zle hy (Int.ofNat 31)) then (1, z0, Int.ofNat (2 ^ (32 - ly.toNat) - 1), 0) else zAny
def zI2l (_ : zS) (v : zV) (k : zV → Bool) : Bool := bif Nat.ble v.1 1 then k (v.1 + 2, v.2) else false
def zL2i (σ : zS) (v : zV) (k : zV → Bool) : Bool := zRg 2 σ v fun lo hi => bif zle (zMn 0) lo && zle hi (zMx 0) then k (v.1 - 2, v.2) else k zAny
def zLsh (σ : zS) (x y : zV) (k : zV → Bool) : Bool := zRg 2 σ x fun lx hx => zRg 0 σ y fun ly hy =>
  bif zeq lx hx && zeq ly hy then k (zc 2 ((Int64.ofInt lx) <<< ((Int32.ofInt ly).toInt64 &&& 63)).toInt) else k (3, zMn 2, zMx 2, 0)
/-! lists -/
def zNth : List zV → Nat → (zV → Bool) → Bool
  | [], _, _ => false
  | a :: r, j, k => bif Nat.beq j 0 then k a else zNth r (j - 1) k
def zAt : List Nat → Nat → Nat
  | [], _ => 99999
  | a :: r, j => bif Nat.beq j 0 then a else zAt r (j - 1)
def zBit (m j : Nat) : Bool := Nat.beq (Nat.land (Nat.shiftRight m j) 1) 1
def zAll {α : Type} (f : α → Bool) : List α → Bool
  | [] => true
  | a :: r => f a && zAll f r
/-- the category of a value -/
def zCat (v : zV) : Nat := bif Nat.beq v.1 2 || Nat.beq v.1 3 then 2 else bif Nat.beq v.1 9 then 9 else 1
def zCats : List zV → Nat
  | [] => 0
  | a :: r => zCat a + zCats r
/-- no reference to a cell from N on -/
def zOkv (N : Nat) (v : zV) : Bool := bif Nat.ble v.1 3 then true else bif Nat.beq v.1 4 then Nat.blt v.2.2.2 N || Nat.ble 90000 v.2.2.2 else Nat.beq v.1 6
/-! cells -/
def zLk : List (Nat × zC) → Nat → zC → zC
  | [], _, d => d
  | e :: r, a, d => bif Nat.beq e.1 a then e.2 else zLk r a d
def zCe (P : zP) (K : zK) (a : Nat) : zC := zLk K.2.2 a (P.kT a)
def zIr (P : zP) (p : Nat) : zV := zr 0 (P.zI p).1 (P.zI p).2
def zGet : List zE → Nat → Nat → Nat → zV → zV
  | [], _, _, _, d => d
  | e :: r, p, j, j', d => bif Nat.beq e.1 p && (Nat.ble e.2.1 j && Nat.ble j' e.2.2.1) then e.2.2.2 else zGet r p j j' d
/-- does a piece overlap with numbers j to j' of a place -/
def zHit (e : zE) (p j j' : Nat) : Bool := Nat.beq e.1 p && (Nat.blt e.2.1 j' && Nat.blt j e.2.2.1)
def zCut (e : zE) (j j' : Nat) (r : List zE) : List zE := bif Nat.beq e.2.1 j then (bif Nat.ble e.2.2.1 j' then r else (e.1, j', e.2.2.1, e.2.2.2) :: r) else (e.1, e.2.1, j, e.2.2.2) :: r
/-- what is known of other numbers than place p's from j to j' -/
def zTrim : List zE → Nat → Nat → Nat → List zE
  | [], _, _, _ => []
  | e :: r, p, j, j' => bif zHit e p j j' then zCut e j j' (zTrim r p j j') else e :: zTrim r p j j'
def zHolds (lo hi : Int) (v : zV) : Bool := bif Nat.beq v.1 1 then zle v.2.1 lo && zle hi v.2.2.1 else Nat.beq v.1 0 && (zeq v.2.2.1 z0 && (zeq v.2.1 lo && zeq hi v.2.1))
/-- the same, but what holds of numbers from lo to hi stays -/
def zWeak (lo hi : Int) : List zE → Nat → Nat → Nat → List zE
  | [], _, _, _ => []
  | e :: r, p, j, j' => bif zHit e p j j' && (bif zHolds lo hi e.2.2.2 then false else true) then zWeak lo hi r p j j' else e :: zWeak lo hi r p j j'
/-- of what may change: kept is what stands elsewhere -/
def zKill (m : Nat) : List zE → List zE
  | [] => []
  | e :: r => bif zBit m e.1 then zKill m r else e :: zKill m r
def zCopyE (a b n : Nat) : List zE → List zE → List zE
  | [], d => d
  | e :: r, d => bif Nat.beq e.1 b && Nat.ble e.2.2.1 n then (a, e.2) :: zCopyE a b n r d else zCopyE a b n r d
def zRdV (p n : Nat) (σ : zS) (E : List zE) (v : zV) (k : Nat → zS → List zE → zV → Bool) : Bool := bif Nat.beq v.1 1 then k (n + 1) ((n, v.2.1, v.2.2.1) :: σ) ((p, 0, 1, zsy n) :: E) (zsy n) else k n σ E v
/-- a place is read; what is not told of it gets a symbol -/
def zRd (P : zP) (n : Nat) (σ : zS) (E : List zE) (p : Nat) (k : Nat → zS → List zE → zV → Bool) : Bool := zRdV p n σ E (zGet E p 0 1 (zIr P p)) k
/-- a value gets a symbol -/
def zMa (n : Nat) (σ : zS) (v : zV) (k : Nat → zS → zV → Bool) : Bool := bif Nat.beq v.1 1 || Nat.beq v.1 3 then k (n + 1) ((n, v.2.1, v.2.2.1) :: σ) (v.1 - 1, z0, z1, n) else k n σ v
def zMas : List zV → Nat → zS → (Nat → zS → List zV → Bool) → Bool
  | [], n, σ, k => k n σ []
  | v :: r, n, σ, k => zMa n σ v fun n σ v => zMas r n σ fun n σ r => k n σ (v :: r)
/-! instructions that end no block and call nothing -/
abbrev zT : Type := Nat → zS → zK → List zE → List zV → List zV → (Nat → zS → zK → List zE → List zV → List zV → Bool) → Bool
def zPush (v : zV) : zT := fun n σ K E ls st k => k n σ K E ls (v :: st)
def zBi (v : Int) : zT := fun n σ K E ls st k => bif zle (zMn 0) v && zle v (zMx 0) then k n σ K E ls ((0, v, z0, 0) :: st) else false
/-- a value of a sort: 0 an int, 2 a long, 4 a cell -/
def zIs (w : Nat) (v : zV) : Bool := Nat.beq v.1 w || (Nat.beq v.1 (w + 1) && Nat.blt w 4)
def zLoad (w j : Nat) : zT := fun n σ K E ls st k => zNth ls j fun v => bif zIs w v then k n σ K E ls (v :: st) else false
def zCat1 (v : zV) : Bool := Nat.ble v.1 1 || Nat.beq v.1 4
/-- the local ahead of a place isn't a long -/
def zAhead (ls : List zV) (j : Nat) (k : Bool) : Bool := bif Nat.beq j 0 then k else zNth ls (j - 1) fun v => bif Nat.beq (zCat v) 1 then k else false
def zStoreV (w j : Nat) (n : Nat) (σ : zS) (K : zK) (E : List zE) (ls t : List zV) (v : zV) (k : Nat → zS → zK → List zE → List zV → List zV → Bool) : Bool := bif zIs w v && Nat.blt j ls.length then zAhead ls j (zMa n σ v fun n σ v => k n σ K E (ls.set j v) t) else false
def zStore (w j : Nat) : zT := fun n σ K E ls st k => match st with
  | v :: t => zStoreV w j n σ K E ls t v k
  | [] => false
def zStoreW (j : Nat) (n : Nat) (σ : zS) (K : zK) (E : List zE) (ls t : List zV) (v : zV) (k : Nat → zS → zK → List zE → List zV → List zV → Bool) : Bool := bif zIs 2 v && Nat.blt (j + 1) ls.length then zAhead ls j (zMa n σ v fun n σ v => k n σ K E ((ls.set j v).set (j + 1) (6, z0, z0, 0)) t) else false
def zStoreL (j : Nat) : zT := fun n σ K E ls st k => match st with
  | v :: t => zStoreW j n σ K E ls t v k
  | [] => false
def zInc (j : Nat) (c : Int) : zT := fun n σ K E ls st k => zAhead ls j (zNth ls j fun v => zAdd 0 σ v (zc 0 (Int32.ofInt c).toInt) fun v => k n σ K E (ls.set j v) st)
def zDup : zT := fun n σ K E ls st k => match st with
  | v :: t => bif zCat1 v then zMa n σ v fun n σ v => k n σ K E ls (v :: v :: t) else false
  | [] => false
def zPop : zT := fun n σ K E ls st k => match st with
  | v :: t => bif zCat1 v then k n σ K E ls t else false
  | [] => false
def zDup2 : zT := fun n σ K E ls st k => match st with
  | v :: w :: t => bif zCat1 v && zCat1 w then k n σ K E ls (v :: w :: v :: w :: t) else false
  | _ => false
def zBin (f : zS → zV → zV → (zV → Bool) → Bool) : zT := fun n σ K E ls st k => match st with
  | y :: x :: t => f σ x y fun v => k n σ K E ls (v :: t)
  | _ => false
def zUn (f : zS → zV → (zV → Bool) → Bool) : zT := fun n σ K E ls st k => match st with
  | x :: t => f σ x fun v => k n σ K E ls (v :: t)
  | _ => false
def zLcmpV (n : Nat) (σ : zS) (K : zK) (E : List zE) (ls t : List zV) (x y : zV) (k : Nat → zS → zK → List zE → List zV → List zV → Bool) : Bool :=
  zLt 2 σ x y (fun σ => k n σ K E ls (zc 0 (Int.negSucc 0) :: t)) && (zEq 2 σ x y (fun σ => k n σ K E ls (zc 0 z0 :: t)) && zLt 2 σ y x (fun σ => k n σ K E ls (zc 0 z1 :: t)))
def zLcmp : zT := fun n σ K E ls st k => match st with
  | y :: x :: t => zLcmpV n σ K E ls t x y k
  | _ => false
/-- a cell on the stack -/
def zRef (v : zV) (k : Nat → Bool) : Bool := bif Nat.beq v.1 4 then k v.2.2.2 else false
def zGetR (a f : Nat) (c : zC) (n : Nat) (σ : zS) (K : zK) (E : List zE) (ls r : List zV) (_ : zP) (k : Nat → zS → zK → List zE → List zV → List zV → Bool) : Bool := bif Nat.blt (zAt c.2.2.1 f) 99999 then k n σ K E ls (zcell (zAt c.2.2.1 f) :: r) else false
def zGetN (a f : Nat) (_ : zC) (n : Nat) (σ : zS) (K : zK) (E : List zE) (ls r : List zV) (P : zP) (k : Nat → zS → zK → List zE → List zV → List zV → Bool) : Bool := bif Nat.blt f 127 then (bif Nat.blt a 700 then zRd P n σ E (a * 128 + f) (fun n σ E v => k n σ K E ls (v :: r)) else k n σ K E ls (zIr P (a * 128 + f) :: r)) else false
def zGetV (c f t a : Nat) (ce : zC) (n : Nat) (σ : zS) (K : zK) (E : List zE) (ls r : List zV) (P : zP) (k : Nat → zS → zK → List zE → List zV → List zV → Bool) : Bool := bif Nat.beq ce.1 c then (bif Nat.beq t 2 then zGetR else zGetN) a f ce n σ K E ls r P k else false
def zGetf (P : zP) (c f t : Nat) : zT := fun n σ K E ls st k => match st with
  | v :: r => zRef v fun a => zGetV c f t a (zCe P K a) n σ K E ls r P k
  | [] => false
/-- a number lo .. hi may come to a place -/
def zFit (P : zP) (p : Nat) (lo hi : Int) : Bool := zle (P.zI p).1 lo && zle hi (P.zI p).2
/-- from where on an array may be written -/
def zLo (P : zP) (p : Nat) : Nat := (P.zI (p + 20000000)).1.toNat
def zLoM (P : zP) (a j : Nat) : Bool := zAll (fun b => Nat.ble (zLo P (b * 128 + 127)) j) (P.ps a)
def zMay1 (P : zP) (p : Nat) (lo hi : Int) : Bool := zBit P.wm p && zFit P p lo hi
def zMem (P : zP) (a f : Nat) (lo hi : Int) : Bool := zAll (fun b => zMay1 P (b * 128 + f) lo hi) (P.ps a)
def zDrop (f j j' : Nat) : List Nat → List zE → List zE
  | [], E => E
  | b :: r, E => zDrop f j j' r (zTrim E (b * 128 + f) j j')
def zDropW (lo hi : Int) (f j j' : Nat) : List Nat → List zE → List zE
  | [], E => E
  | b :: r, E => zDropW lo hi f j j' r (zWeak lo hi E (b * 128 + f) j j')
def zPutN (P : zP) (f t a : Nat) (v : zV) (n : Nat) (σ : zS) (K : zK) (E : List zE) (ls r : List zV) (k : Nat → zS → zK → List zE → List zV → List zV → Bool) (lo hi : Int) : Bool := bif Nat.blt f 127 && (Nat.beq t 0 || (Nat.beq t 1 && (zle z0 lo && zle hi z1))) then
    (bif Nat.blt a 700 then (bif zMay1 P (a * 128 + f) lo hi then k n σ K ((a * 128 + f, 0, 1, v) :: zTrim E (a * 128 + f) 0 1) ls r else false)
      else bif zMem P a f lo hi then k n σ K (zDrop f 0 1 (P.ps a) E) ls r else false) else false
def zPutR (P : zP) (f t a s : Nat) (n : Nat) (σ : zS) (K : zK) (E : List zE) (ls r : List zV) (k : Nat → zS → zK → List zE → List zV → List zV → Bool) (c : zC) : Bool := bif (Nat.beq t 2 && Nat.ble K.1 700) && (P.al && (Nat.blt a K.1 && Nat.blt s K.1)) then k n σ (K.1, K.2.1, (a, c.1, c.2.1, c.2.2.1.set f s, 0) :: K.2.2) E ls r else false
def zPutV (P : zP) (c f t a : Nat) (v : zV) (n : Nat) (σ : zS) (K : zK) (E : List zE) (ls r : List zV) (k : Nat → zS → zK → List zE → List zV → List zV → Bool) : Bool := bif Nat.beq (zCe P K a).1 c then (bif Nat.beq v.1 4 then zPutR P f t a v.2.2.2 n σ K E ls r k (zCe P K a) else zRg 0 σ v (zPutN P f t a v n σ K E ls r k)) else false
def zPutf (P : zP) (c f t : Nat) : zT := fun n σ K E ls st k => match st with
  | v :: u :: r => zRef u fun a => zPutV P c f t a v n σ K E ls r k
  | _ => false
/-- the script's number at c + symbol 0 (place 11520001); 11520002: how far it reaches from there -/
def zScrV (n : Nat) (σ : zS) (E : List zE) (c : Nat) (m : zV) (k : Nat → zS → List zE → zV → Bool) : Bool := bif Nat.beq m.1 8 then k (n + 1) ((n, zMn 0, zMx 0) :: σ) ((11520001, c, c + 1, zsy n) :: E) (zsy n) else k n σ E m
def zScrB (n : Nat) (σ : zS) (E : List zE) (a : Int) (m : zV) (k : Nat → zS → List zE → zV → Bool) : Bool := bif Nat.beq m.1 0 && (zeq m.2.2.1 z0 && zle (a + z1) m.2.1) then zScrV n σ E a.toNat (zGet E 11520001 a.toNat (a.toNat + 1) (8, z0, z0, 0)) k else false
def zScr (n : Nat) (σ : zS) (E : List zE) (v : zV) (k : Nat → zS → List zE → zV → Bool) : Bool := bif (Nat.beq v.1 0 && zle z0 v.2.1) && (zeq v.2.2.1 z1 && Nat.beq v.2.2.2 0) then zRg 0 σ v (fun lo _ => bif zle z0 lo then zScrB n σ E v.2.1 (zGet E 11520002 0 1 (8, z0, z0, 0)) k else false) else false
/-- an index within a row -/
def zIn (σ : zS) (j : zV) (l : Nat) (k : Int → Int → Bool) : Bool := zRg 0 σ j fun lo hi => bif zle z0 lo && zle (hi + z1) (Int.ofNat l) then k lo hi else false
def zIldV (P : zP) (p : Nat) (lo hi : Int) (v : zV) : zV := bif zeq lo hi || (Nat.beq v.1 1 || zeq v.2.2.1 z0) then v else zIr P p
def zIldG (P : zP) (a : Nat) (E : List zE) (lo hi : Int) : zV := bif Nat.blt a 700 then zIldV P (a * 128 + 127) lo hi (zGet E (a * 128 + 127) lo.toNat (hi.toNat + 1) (zIr P (a * 128 + 127))) else zIr P (a * 128 + 127)
def zIldN (a : Nat) (lo hi : Int) (v : zV) (n : Nat) (σ : zS) (K : zK) (E : List zE) (ls r : List zV) (k : Nat → zS → zK → List zE → List zV → List zV → Bool) : Bool := bif Nat.blt a 700 && (zeq lo hi && Nat.beq v.1 1) then k (n + 1) ((n, v.2.1, v.2.2.1) :: σ) K ((a * 128 + 127, lo.toNat, lo.toNat + 1, zsy n) :: E) ls (zsy n :: r) else k n σ K E ls (v :: r)
def zIldA (P : zP) (kd a : Nat) (j : zV) (n : Nat) (σ : zS) (K : zK) (E : List zE) (ls r : List zV) (k : Nat → zS → zK → List zE → List zV → List zV → Bool) : Bool := bif Nat.beq (zCe P K a).1 kd then zIn σ j (zCe P K a).2.1 (fun lo hi => zIldN a lo hi (zIldG P a E lo hi) n σ K E ls r k) else false
def zIldS (_ : zP) (kd _ : Nat) (j : zV) (n : Nat) (σ : zS) (K : zK) (E : List zE) (ls r : List zV) (k : Nat → zS → zK → List zE → List zV → List zV → Bool) : Bool := bif Nat.beq kd 100 then zScr n σ E j (fun n σ E v => k n σ K E ls (v :: r)) else false
def zIld (P : zP) (kd : Nat) : zT := fun n σ K E ls st k => match st with
  | j :: u :: r => zRef u fun a => (bif Nat.beq a 90000 then zIldS else zIldA) P kd a j n σ K E ls r k
  | _ => false
def zIstE (P : zP) (p : Nat) (v : zV) (E : List zE) (lo hi vl vh : Int) : List zE := bif zeq lo hi then (p, lo.toNat, lo.toNat + 1, v) :: zTrim E p lo.toNat (lo.toNat + 1) else zWeak vl vh E p lo.toNat (hi.toNat + 1)
def zIstN (P : zP) (kd a : Nat) (v : zV) (n : Nat) (σ : zS) (K : zK) (E : List zE) (ls r : List zV) (k : Nat → zS → zK → List zE → List zV → List zV → Bool) (lo hi vl vh : Int) : Bool := bif Nat.beq kd 100 || (zle z0 vl && zle vh z1) then
    (bif Nat.blt a 700 then (bif zMay1 P (a * 128 + 127) vl vh && Nat.ble (zLo P (a * 128 + 127)) lo.toNat then k n σ K (zIstE P (a * 128 + 127) v E lo hi vl vh) ls r else false)
      else bif zMem P a 127 vl vh && zLoM P a lo.toNat then k n σ K (zDropW vl vh 127 lo.toNat (hi.toNat + 1) (P.ps a) E) ls r else false) else false
def zIstV (P : zP) (kd a : Nat) (v j : zV) (n : Nat) (σ : zS) (K : zK) (E : List zE) (ls r : List zV) (k : Nat → zS → zK → List zE → List zV → List zV → Bool) : Bool := bif Nat.beq (zCe P K a).1 kd then zIn σ j (zCe P K a).2.1 (fun lo hi => zRg 0 σ v (zIstN P kd a v n σ K E ls r k lo hi)) else false
def zIst (P : zP) (kd : Nat) : zT := fun n σ K E ls st k => match st with
  | v :: j :: u :: r => zRef u fun a => zIstV P kd a v j n σ K E ls r k
  | _ => false
/-- one after another of the cells that an array names -/
def zEach (σ : zS) (j : zV) (rs : List Nat) (k : zS → Nat → Bool) : Nat → Nat → Bool
  | 0, _ => true
  | m + 1, i => zEq 0 σ j (zc 0 (Int.ofNat i)) (fun σ => bif Nat.blt (zAt rs i) 99999 then k σ (zAt rs i) else false) && zEach σ j rs k m (i + 1)
def zAldV (c : zC) (j : zV) (n : Nat) (σ : zS) (K : zK) (E : List zE) (ls r : List zV) (k : Nat → zS → zK → List zE → List zV → List zV → Bool) (lo hi : Int) : Bool := bif zeq lo hi then (bif Nat.blt (zAt c.2.2.1 lo.toNat) 99999 then k n σ K E ls (zcell (zAt c.2.2.1 lo.toNat) :: r) else false)
  else bif Nat.ble 700 c.2.2.2 then k n σ K E ls (zcell c.2.2.2 :: r) else bif zle (hi - lo) (Int.ofNat 20) then zEach σ j c.2.2.1 (fun σ c => k n σ K E ls (zcell c :: r)) ((hi - lo).toNat + 1) lo.toNat else false
def zAldC (c : zC) (j : zV) (n : Nat) (σ : zS) (K : zK) (E : List zE) (ls r : List zV) (k : Nat → zS → zK → List zE → List zV → List zV → Bool) : Bool := bif Nat.ble 102 c.1 && Nat.blt c.1 106 then zIn σ j c.2.1 (zAldV c j n σ K E ls r k) else false
def zAld (P : zP) : zT := fun n σ K E ls st k => match st with
  | j :: u :: r => zRef u fun a => zAldC (zCe P K a) j n σ K E ls r k
  | _ => false
/-- may the cell v stand in the array a (13 classes; aAT) -/
def zMayR (P : zP) (K : zK) (a v : Nat) : Bool := (P.al && (Nat.ble K.1 700 && (Nat.blt a K.1 && Nat.blt v K.1))) && (Nat.blt (zCe P K v).1 13 && ((Nat.ble 102 (zCe P K a).1 && Nat.blt (zCe P K a).1 106) && decide (aAT[(zCe P K a).1 - 100]? = (vwCl[(zCe P K v).1]?).map (fun c => FieldType.object c.1))))
def zAstV (a v : Nat) (c : zC) (n : Nat) (σ : zS) (K : zK) (E : List zE) (ls r : List zV) (k : Nat → zS → zK → List zE → List zV → List zV → Bool) (lo hi : Int) : Bool := bif zeq lo hi then k n σ (K.1, K.2.1, (a, c.1, c.2.1, c.2.2.1.set lo.toNat v, 0) :: K.2.2) E ls r else false
def zAst (P : zP) : zT := fun n σ K E ls st k => match st with
  | v :: j :: u :: r => zRef v fun s => zRef u fun a => bif zMayR P K a s then zIn σ j (zCe P K a).2.1 (zAstV a s (zCe P K a) n σ K E ls r k) else false
  | _ => false
def zAlenV (c : zC) (n : Nat) (σ : zS) (K : zK) (E : List zE) (ls r : List zV) (k : Nat → zS → zK → List zE → List zV → List zV → Bool) : Bool := bif (Nat.ble 100 c.1 && Nat.blt c.1 106) && Nat.blt c.2.1 100001 then k n σ K E ls (zc 0 (Int.ofNat c.2.1) :: r) else false
def zAlen (P : zP) : zT := fun n σ K E ls st k => match st with
  | u :: r => zRef u fun a => zAlenV (zCe P K a) n σ K E ls r k
  | [] => false
/-- zeros of so many fields of a cell -/
def zZero (a : Nat) : Nat → List zE → List zE
  | 0, E => E
  | f + 1, E => (a * 128 + f, 0, 1, zc 0 z0) :: zZero a f E
def zMay (P : zP) (K : zK) (ls st : List zV) : Bool := P.al && (Nat.blt K.1 690 && (zAll (zOkv K.1) ls && zAll (zOkv K.1) st))
def zNew (P : zP) (c : Nat) : zT := fun n σ K E ls st k => bif zMay P K ls st && Nat.ble (aNF c) 127 then
  k n σ (K.1 + 1, K.2.1 + aNF c, (K.1, c, 0, List.replicate (aNF c) 99999, 0) :: K.2.2) (zZero K.1 (aNF c) E) ls (zcell K.1 :: st) else false
def zLen (σ : zS) (v : zV) (k : Nat → Bool) : Bool := zRg 0 σ v fun lo hi => bif zeq lo hi && (zle z0 lo && zle lo (Int.ofNat 100000)) then k lo.toNat else false
def zNewV (kd : Nat) (n : Nat) (σ : zS) (K : zK) (E : List zE) (ls t : List zV) (k : Nat → zS → zK → List zE → List zV → List zV → Bool) (l : Nat) : Bool := k n σ (K.1 + 1, K.2.1 + l, (K.1, kd, l, List.replicate (bif Nat.ble 102 kd then l else 0) 99999, 0) :: K.2.2) ((K.1 * 128 + 127, 0, l, zc 0 z0) :: E) ls (zcell K.1 :: t)
def zNewA (P : zP) (kd : Nat) : zT := fun n σ K E ls st k => match st with
  | v :: t => bif zMay P K ls st then zLen σ v (zNewV kd n σ K E ls t k) else false
  | [] => false
def zRows (N0 y : Nat) : Nat → List (Nat × zC) → List (Nat × zC)
  | 0, K => K
  | x + 1, K => (N0 + 1 + x, 100, y, [], 0) :: zRows N0 y x K
def zRowE (N0 y : Nat) : Nat → List zE → List zE
  | 0, E => E
  | x + 1, E => ((N0 + 1 + x) * 128 + 127, 0, y, zc 0 z0) :: zRowE N0 y x E
def zSeq : Nat → Nat → List Nat
  | _, 0 => []
  | i, m + 1 => i :: zSeq (i + 1) m
def zNewW (n : Nat) (σ : zS) (K : zK) (E : List zE) (ls t : List zV) (k : Nat → zS → zK → List zE → List zV → List zV → Bool) (y x : Nat) : Bool := bif Nat.ble (K.1 + x) 690 then k n σ (K.1 + (1 + x), K.2.1 + (x + x * y), (K.1, 105, x, zSeq (K.1 + 1) x, 0) :: zRows K.1 y x K.2.2) (zRowE K.1 y x E) ls (zcell K.1 :: t) else false
def zNewM (P : zP) : zT := fun n σ K E ls st k => match st with
  | v :: u :: t => bif zMay P K ls st then zLen σ v fun y => zLen σ u (zNewW n σ K E ls t k y) else false
  | _ => false
def zCc (c : Jvm.ClassFile.Cond) : Int := match c with
  | .eq => Int.ofNat 0
  | .ne => Int.ofNat 1
  | .lt => Int.ofNat 2
  | .ge => Int.ofNat 3
  | .gt => Int.ofNat 4
  | .le => Int.ofNat 5
def zEn (i : aI) : zI := match i with
  | .bipush v => (0, 0, v, [])
  | .iload k => (1, k, Int.ofNat 0, [])
  | .aload k => (2, k, Int.ofNat 0, [])
  | .getfield k => (3, k, Int.ofNat 0, [])
  | .istore k => (4, k, Int.ofNat 0, [])
  | .iadd => (5, 0, Int.ofNat 0, [])
  | .iaload => (6, 0, Int.ofNat 0, [])
  | .iinc k c => (7, k, c, [])
  | .isub => (8, 0, Int.ofNat 0, [])
  | .dup => (9, 0, Int.ofNat 0, [])
  | .putfield k => (10, k, Int.ofNat 0, [])
  | .iastore => (11, 0, Int.ofNat 0, [])
  | .imul => (12, 0, Int.ofNat 0, [])
  | .iand => (13, 0, Int.ofNat 0, [])
  | .pop => (14, 0, Int.ofNat 0, [])
  | .aaload => (15, 0, Int.ofNat 0, [])
  | .iushr => (16, 0, Int.ofNat 0, [])
  | .i2l => (17, 0, Int.ofNat 0, [])
  | .lload k => (18, k, Int.ofNat 0, [])
  | .ishl => (19, 0, Int.ofNat 0, [])
  | .astore k => (20, k, Int.ofNat 0, [])
  | .lstore k => (21, k, Int.ofNat 0, [])
  | .ior => (22, 0, Int.ofNat 0, [])
  | .lconst m => (23, 0, (Int64.ofNat (m : Nat)).toInt, [])
  | .ldc2_w k => (23, 0, (Int64.ofNat (k % 18446744073709551616)).toInt, [])
  | .lcmp => (24, 0, Int.ofNat 0, [])
  | .lmul => (25, 0, Int.ofNat 0, [])
  | .ldiv => (26, 0, Int.ofNat 0, [])
  | .ladd => (27, 0, Int.ofNat 0, [])
  | .l2i => (28, 0, Int.ofNat 0, [])
  | .arraylength => (29, 0, Int.ofNat 0, [])
  | .ineg => (30, 0, Int.ofNat 0, [])
  | .ixor => (31, 0, Int.ofNat 0, [])
  | .irem => (32, 0, Int.ofNat 0, [])
  | .idiv => (33, 0, Int.ofNat 0, [])
  | .ishr => (34, 0, Int.ofNat 0, [])
  | .lsub => (35, 0, Int.ofNat 0, [])
  | .lshl => (36, 0, Int.ofNat 0, [])
  | .dup2 => (37, 0, Int.ofNat 0, [])
  | .baload => (38, 0, Int.ofNat 0, [])
  | .bastore => (39, 0, Int.ofNat 0, [])
  | .aastore => (40, 0, Int.ofNat 0, [])
  | .new k => (41, k, Int.ofNat 0, [])
  | .newarray .int => (42, 0, Int.ofNat 0, [])
  | .newarray .boolean => (43, 0, Int.ofNat 0, [])
  | .anewarray k => (44, k, Int.ofNat 0, [])
  | .multianewarray _ 2 => (45, 0, Int.ofNat 0, [])
  | .ldc k => (46, k, Int.ofNat 0, [])
  | .ldc_w k => (0, 0, (Int32.ofNat (k % 4294967296)).toInt, [])
  | .goto o => (48, o.toNat, Int.ofNat 0, [])
  | .ifCond c o => (49, o.toNat, zCc c, [])
  | .if_icmp c o => (50, o.toNat, zCc c, [])
  | .tableswitch d lo hi os => (51, d.toNat, lo, os.toList.map (fun o => (hi, o)))
  | .lookupswitch d ps => (52, d.toNat, Int.ofNat 0, ps.toList)
  | .ireturn => (53, 0, Int.ofNat 0, [])
  | .lreturn => (54, 0, Int.ofNat 0, [])
  | .areturn => (55, 0, Int.ofNat 0, [])
  | .return_ => (56, 0, Int.ofNat 0, [])
  | .invokestatic k => (57, k, Int.ofNat 0, [])
  | .invokespecial k => (58, k, Int.ofNat 0, [])
  | .invokevirtual k => (59, k, Int.ofNat 0, [])
  | _ => (60, 0, Int.ofNat 0, [])
def zEnB (l : List aI) : List zI := l.map zEn
/-- a number divided by a symbol, with a number below it that the quotient will be held against: split where it matters -/
def zLdvC (y x u : zV) : Bool := Nat.beq y.1 2 && (zeq y.2.2.1 z1 && (Nat.beq x.1 2 && (zeq x.2.2.1 z0 && (Nat.beq u.1 2 && (zeq u.2.2.1 z0 && zle z1 u.2.1)))))
def zLdvQ (y x u : zV) : zT := fun n σ K E ls st k => bif zLdvC y x u then zLe 2 σ y (zc 2 (x.2.1 / u.2.1)) (fun σ => zBin (zDiv 2) n σ K E ls st k) && zLt 2 σ (zc 2 (x.2.1 / u.2.1)) y (fun σ => zBin (zDiv 2) n σ K E ls st k) else zBin (zDiv 2) n σ K E ls st k
def zLdv : zT := fun n σ K E ls st k => match st with
  | y :: x :: u :: _ => zLdvQ y x u n σ K E ls st k
  | _ => zBin (zDiv 2) n σ K E ls st k
def zO0 : zP → Nat → Int → zT := fun P m z => zBi z
def zO1 : zP → Nat → Int → zT := fun P m z => zLoad 0 m
def zO2 : zP → Nat → Int → zT := fun P m z => zLoad 4 m
def zO3 : zP → Nat → Int → zT := fun P m z => zGetf P (m / 1000 % 100) (m % 1000 / 4) (m % 4)
def zO4 : zP → Nat → Int → zT := fun P m z => zStore 0 m
def zO5 : zP → Nat → Int → zT := fun P m z => zBin (zAdd 0)
def zO6 : zP → Nat → Int → zT := fun P m z => zIld P 100
def zO7 : zP → Nat → Int → zT := fun P m z => zInc m z
def zO8 : zP → Nat → Int → zT := fun P m z => zBin (zSub 0)
def zO9 : zP → Nat → Int → zT := fun P m z => zDup
def zO10 : zP → Nat → Int → zT := fun P m z => zPutf P (m / 1000 % 100) (m % 1000 / 4) (m % 4)
def zO11 : zP → Nat → Int → zT := fun P m z => zIst P 100
def zO12 : zP → Nat → Int → zT := fun P m z => zBin (zMul 0)
def zO13 : zP → Nat → Int → zT := fun P m z => zBin (zBits (fun x y => x &&& y) zgAnd)
def zO14 : zP → Nat → Int → zT := fun P m z => zPop
def zO15 : zP → Nat → Int → zT := fun P m z => zAld P
def zO16 : zP → Nat → Int → zT := fun P m z => zBin (zBits (fun x y => (x.toUInt32 >>> (y.toUInt32 &&& Int32.toUInt32 31)).toInt32) zgUsh)
def zO17 : zP → Nat → Int → zT := fun P m z => zUn zI2l
def zO18 : zP → Nat → Int → zT := fun P m z => zLoad 2 m
def zO19 : zP → Nat → Int → zT := fun P m z => zBin (zBits (fun x y => x <<< (y &&& 31)) zgTop)
def zO20 : zP → Nat → Int → zT := fun P m z => zStore 4 m
def zO21 : zP → Nat → Int → zT := fun P m z => zStoreL m
def zO22 : zP → Nat → Int → zT := fun P m z => zBin (zBits (fun x y => x ||| y) zgBit)
def zO23 : zP → Nat → Int → zT := fun P m z => zPush (2, z, z0, 0)
def zO24 : zP → Nat → Int → zT := fun P m z => zLcmp
def zO25 : zP → Nat → Int → zT := fun P m z => zBin (zMul 2)
def zO26 : zP → Nat → Int → zT := fun P m z => zLdv
def zO27 : zP → Nat → Int → zT := fun P m z => zBin (zAdd 2)
def zO28 : zP → Nat → Int → zT := fun P m z => zUn zL2i
def zO29 : zP → Nat → Int → zT := fun P m z => zAlen P
def zO30 : zP → Nat → Int → zT := fun P m z => zUn fun σ v => zSub 0 σ (zc 0 (z0)) v
def zO31 : zP → Nat → Int → zT := fun P m z => zBin (zBits (fun x y => x ^^^ y) zgTop)
def zO32 : zP → Nat → Int → zT := fun P m z => zBin zRem
def zO33 : zP → Nat → Int → zT := fun P m z => zBin (zDiv 0)
def zO34 : zP → Nat → Int → zT := fun P m z => zBin (zBits (fun x y => x >>> (y &&& 31)) zgTop)
def zO35 : zP → Nat → Int → zT := fun P m z => zBin (zSub 2)
def zO36 : zP → Nat → Int → zT := fun P m z => zBin zLsh
def zO37 : zP → Nat → Int → zT := fun P m z => zDup2
def zO38 : zP → Nat → Int → zT := fun P m z => zIld P 101
def zO39 : zP → Nat → Int → zT := fun P m z => zIst P 101
def zO40 : zP → Nat → Int → zT := fun P m z => zAst P
def zO41 : zP → Nat → Int → zT := fun P m z => zNew P (m % 100)
def zO42 : zP → Nat → Int → zT := fun P m z => zNewA P 100
def zO43 : zP → Nat → Int → zT := fun P m z => zNewA P 101
def zO44 : zP → Nat → Int → zT := fun P m z => zNewA P (100 + m % 100)
def zO45 : zP → Nat → Int → zT := fun P m z => zNewM P
def zO46 : zP → Nat → Int → zT := fun P m z => zPush (zcell (90001 + m % 100))
def zO47 : zP → Nat → Int → zT := fun _ _ _ _ _ _ _ _ _ _ => false
def zG0 (o : Nat) : zP → Nat → Int → zT := bif Nat.blt o 4 then (bif Nat.blt o 2 then (bif Nat.blt o 1 then (zO0) else (zO1)) else (bif Nat.blt o 3 then (zO2) else (zO3))) else (bif Nat.blt o 6 then (bif Nat.blt o 5 then (zO4) else (zO5)) else (bif Nat.blt o 7 then (zO6) else (zO7)))
def zG1 (o : Nat) : zP → Nat → Int → zT := bif Nat.blt o 12 then (bif Nat.blt o 10 then (bif Nat.blt o 9 then (zO8) else (zO9)) else (bif Nat.blt o 11 then (zO10) else (zO11))) else (bif Nat.blt o 14 then (bif Nat.blt o 13 then (zO12) else (zO13)) else (bif Nat.blt o 15 then (zO14) else (zO15)))
def zG2 (o : Nat) : zP → Nat → Int → zT := bif Nat.blt o 20 then (bif Nat.blt o 18 then (bif Nat.blt o 17 then (zO16) else (zO17)) else (bif Nat.blt o 19 then (zO18) else (zO19))) else (bif Nat.blt o 22 then (bif Nat.blt o 21 then (zO20) else (zO21)) else (bif Nat.blt o 23 then (zO22) else (zO23)))
def zG3 (o : Nat) : zP → Nat → Int → zT := bif Nat.blt o 28 then (bif Nat.blt o 26 then (bif Nat.blt o 25 then (zO24) else (zO25)) else (bif Nat.blt o 27 then (zO26) else (zO27))) else (bif Nat.blt o 30 then (bif Nat.blt o 29 then (zO28) else (zO29)) else (bif Nat.blt o 31 then (zO30) else (zO31)))
def zG4 (o : Nat) : zP → Nat → Int → zT := bif Nat.blt o 36 then (bif Nat.blt o 34 then (bif Nat.blt o 33 then (zO32) else (zO33)) else (bif Nat.blt o 35 then (zO34) else (zO35))) else (bif Nat.blt o 38 then (bif Nat.blt o 37 then (zO36) else (zO37)) else (bif Nat.blt o 39 then (zO38) else (zO39)))
def zG5 (o : Nat) : zP → Nat → Int → zT := bif Nat.blt o 44 then (bif Nat.blt o 42 then (bif Nat.blt o 41 then (zO40) else (zO41)) else (bif Nat.blt o 43 then (zO42) else (zO43))) else (bif Nat.blt o 46 then (bif Nat.blt o 45 then (zO44) else (zO45)) else (bif Nat.blt o 47 then (zO46) else (zO47)))
def zDs (o : Nat) : zP → Nat → Int → zT := bif Nat.blt o 24 then (bif Nat.blt o 8 then (zG0 o) else (bif Nat.blt o 16 then (zG1 o) else (zG2 o))) else (bif Nat.blt o 32 then (zG3 o) else (bif Nat.blt o 40 then (zG4 o) else (zG5 o)))
def zDq (P : zP) (q : zI) : zT := zDs q.1 P q.2.1 q.2.2.1
/-! what is known against what is asked: under th, values of the asked one's symbols -/
def zThN : List zV → Nat → zV
  | [], _ => (8, z0, z0, 0)
  | a :: r, j => bif Nat.beq j 0 then a else zThN r (j - 1)
def zSubA (v u : zV) : zV := bif Nat.beq u.1 0 || Nat.beq u.1 2 then zAff v.1 (v.2.1 + v.2.2.1 * u.2.1) (v.2.2.1 * u.2.2.1) u.2.2.2 else (8, z0, z0, 0)
/-- a value of the asked ones, in symbols of the known ones -/
def zSubst (th : List zV) (v : zV) : zV := bif Nat.beq v.1 0 || Nat.beq v.1 2 then (bif zeq v.2.2.1 z0 then v else zSubA v (zThN th v.2.2.2)) else v
def zSyn (v u : zV) : Bool := Nat.beq v.1 u.1 && (zeq v.2.1 u.2.1 && (zeq v.2.2.1 u.2.2.1 && (zeq u.2.2.1 z0 || Nat.beq v.2.2.2 u.2.2.2)))
def zIn1 (a : Nat) : List Nat → Bool
  | [] => false
  | b :: r => Nat.beq a b || zIn1 a r
def zFitC (P : zP) (v u : zV) : Bool := Nat.beq v.1 4 && (Nat.beq v.2.2.2 u.2.2.2 || (zIn1 v.2.2.2 (P.ps u.2.2.2)))
def zFitR (w : Nat) (σ : zS) (v u : zV) : Bool := zRg w σ v fun lo hi => zle u.2.1 lo && zle hi u.2.2.1
def zFitA (w : Nat) (σ : zS) (v u : zV) : Bool := bif zSyn v u then true else zRg2 w σ v u fun lo hi lo' hi' => zeq lo hi && (zeq lo' hi' && zeq lo lo')
/-- v (known) fits u (asked, substituted) -/
def zFits (P : zP) (σ : zS) (v u : zV) : Bool := bif Nat.ble u.1 3 then (bif Nat.ble u.1 1 then (bif Nat.beq u.1 0 then zFitA 0 σ v u else zFitR 0 σ v u) else bif Nat.beq u.1 2 then zFitA 2 σ v u else zFitR 2 σ v u)
  else bif Nat.beq u.1 4 then zFitC P v u else bif Nat.beq u.1 6 then Nat.beq v.1 6 else Nat.beq u.1 9
def zFitL (P : zP) (σ : zS) (th : List zV) : List zV → List zV → Bool
  | [], [] => true
  | v :: r, u :: q => zFits P σ v (zSubst th u) && zFitL P σ th r q
  | _, _ => false
/-- is it a place: a field of an object, the numbers of an array, the script's -/
def zLocOk (P : zP) (p t : Nat) : Bool := bif Nat.blt p 89600 then (bif Nat.beq (p % 128) 127 then Nat.ble 100 (P.kT (p / 128)).1 && (Nat.blt (P.kT (p / 128)).1 900 && Nat.ble t (P.kT (p / 128)).2.1) else Nat.blt (P.kT (p / 128)).1 100) else false
def zFldOk (P : zP) (p : Nat) : Bool := Nat.blt p 89600 && (Nat.blt (p % 128) 127 && Nat.blt (P.kT (p / 128)).1 100)
def zFitE (P : zP) (σ : zS) (E : List zE) (th : List zV) : List zE → Bool
  | [] => true
  | e :: q => ((zLocOk P e.1 e.2.2.1 && Nat.ble e.2.2.2.1 1) && zFits P σ (zGet E e.1 e.2.1 e.2.2.1 (zIr P e.1)) (zSubst th e.2.2.2)) && zFitE P σ E th q
/-- a symbol's value is found -/
def zFindK (v : zV) (b : Int × Int) (n : Nat) (σ : zS) (E : List zE) (k : Nat → zS → List zE → zV → Bool) : Bool := bif Nat.beq v.1 0 then zRg 0 σ v (fun l h => bif zle b.1 l && zle h b.2 then k n σ E v else false) else bif Nat.beq v.1 2 then zRg 2 σ v (fun l h => bif zle b.1 l && zle h b.2 then k n σ E v else false) else false
def zFind1 (P : zP) (vs : List zV) (q : Nat × Nat) (b : Int × Int) (n : Nat) (σ : zS) (E : List zE) (k : Nat → zS → List zE → zV → Bool) : Bool := bif Nat.beq q.1 0 then zNth vs q.2 (fun v => zFindK v b n σ E k) else bif Nat.ble 2 q.1 && (Nat.blt q.2 89600 && Nat.beq (q.2 % 128) 127) then zFindK (zGet E q.2 (q.1 - 2) (q.1 - 1) (8, z0, z0, 0)) b n σ E k else bif zFldOk P q.2 then zRd P n σ E q.2 (fun n σ E v => zFindK v b n σ E k) else false
/-- symbols are found: in locals or an answer (0), in a place (1) -/
def zFind (P : zP) (vs : List zV) : List (Nat × Nat) → List (Int × Int) → Nat → zS → List zE → List zV → (Nat → zS → List zE → List zV → Bool) → Bool
  | [], [], n, σ, E, th, k => k n σ E th
  | q :: r, b :: bs, n, σ, E, th, k => zFind1 P vs q b n σ E fun n σ E v => zFind P vs r bs n σ E (th ++ [v]) k
  | _, _, _, _, _, _, _ => false
def zIds : Nat → Nat → List zV
  | 0, _ => []
  | m + 1, i => zsy i :: zIds m (i + 1)
def zHold1 (σ : zS) (v : zV) (lo hi : Int) : Bool := zRg (bif Nat.beq v.1 2 then 2 else 0) σ v fun l h => zle lo l && zle h hi
/-- bounds of symbols hold -/
def zHold (σ : zS) (th : List zV) : List (Nat × Int × Int) → Bool
  | [] => true
  | e :: r => zHold1 σ (zThN th e.1) e.2.1 e.2.2 && zHold σ th r
def zTake1 (v : zV) (lo hi : Int) (σ : zS) (k : zS → Bool) : Bool := zRg 0 σ v fun l h => bif zle (zmax l lo) (zmin h hi) then zNr 0 σ v lo hi k else true
/-- bounds of symbols are taken -/
def zTake (th : List zV) : List (Nat × Int × Int) → zS → (zS → Bool) → Bool
  | [], σ, k => k σ
  | e :: r, σ, k => zTake1 (zThN th e.1) e.2.1 e.2.2 σ fun σ => zTake th r σ k
def zPost1 (P : zP) (q : zPo) (rv : List zV) (σ : zS) (E : List zE) (th : List zV) : Bool := zHold σ th q.1 && (zFitL P σ th rv q.2.2.2.1 && zFitE P σ E th q.2.2.2.2)
/-- one of the ends of a contract fits -/
def zPostOk (P : zP) (p0 : Nat) : List zPo → Nat → zS → List zE → List zV → Bool
  | [], _, _, _, _ => false
  | q :: r, n, σ, E, rv => zFind P rv q.2.1 q.2.2.1 n σ E (zIds p0 0) (fun _ σ E th => zPost1 P q rv σ E th) || zPostOk P p0 r n σ E rv
/-- the sum of what falls: asked - known, at most -/
def zDiffS (σ : zS) : List zV → List zV → Int → (Int → Bool) → Bool
  | [], [], m, k => k m
  | u :: q, v :: r, m, k => bif (Nat.beq u.1 0 && Nat.beq v.1 0) && (Nat.beq u.2.2.2 v.2.2.2 && zeq u.2.2.1 v.2.2.1) then zDiffS σ q r (m + (u.2.1 - v.2.1)) k
    else zRg2 0 σ u v fun _ h l _ => zDiffS σ q r (m + (h - l)) k
  | _, _, _, _ => false
def zLowS (σ : zS) : List zV → Int → (Int → Bool) → Bool
  | [], m, k => k m
  | u :: q, m, k => zRg 0 σ u fun l _ => zLowS σ q (m + l) k
def zFall (σ : zS) (me : List (List zV)) (us : List zV) : Bool := zLowS σ us z0 (fun l => zle z0 l) && match me with
  | [] => true
  | vs :: _ => zDiffS σ us vs z0 (fun d => zle d (Int.negSucc 0))
def zHeadF (P : zP) (v : zIv) (ls : List zV) (σ : zS) (E : List zE) (th : List zV) : Bool := zFitL P σ th ls v.2.2.2.1 && (zFitE P σ E th v.2.2.2.2.1 && zFall σ P.me (v.2.2.2.2.2.map (zSubst th)))
/-- a loop's head -/
def zHead (P : zP) (v : zIv) (n : Nat) (σ : zS) (E : List zE) (ls : List zV) : Bool := zFind P ls v.2.1 v.2.2.1 n σ E (zIds P.p0 0) fun _ σ E th => zHeadF P v ls σ E th
abbrev zR : Type := Nat → zS → zK → List zE → zX → List zI → List zV → List zV → Bool
def zNo : Bool → Bool
  | true => false
  | false => true
def zBlk : List (List zI) → Nat → (List zI → Bool) → Bool
  | [], _, _ => false
  | l :: r, j, k => bif Nat.beq j 0 then k l else zBlk r (j - 1) k
def zNil {α : Type} : List α → Bool
  | [] => true
  | _ :: _ => false
def zJ0 (P : zP) (rec : zR) (n : Nat) (σ : zS) (K : zK) (E : List zE) (x : zX) (b : Nat) (ls st : List zV) : Bool := zBlk (P.bk x.2.2.1) b fun l => rec n σ K E (x.1, x.2.1, x.2.2.1, b) l ls st
def zJ1 (P : zP) (rec : zR) (n : Nat) (σ : zS) (K : zK) (E : List zE) (x : zX) (b : Nat) (ls st : List zV) : List zIv → Bool
  | [] => zJ0 P rec n σ K E x b ls st
  | v :: r => bif Nat.beq v.1 b then (zNil st && (zHead P v n σ E ls && P.kc n σ K E ls)) || zJ1 P rec n σ K E x b ls st r else zJ1 P rec n σ K E x b ls st r
/-- to a block -/
def zJ (P : zP) (rec : zR) (n : Nat) (σ : zS) (K : zK) (E : List zE) (x : zX) (b : Nat) (ls st : List zV) : Bool := bif zNil x.1 then zJ1 P rec n σ K E x b ls st P.inv else zJ0 P rec n σ K E x b ls st
def zRet1 (rec : zR) (n : Nat) (σ : zS) (K : zK) (E : List zE) (rv : List zV) (fs : List zFr) (q : zFr) : Bool := bif Nat.beq q.2.1 K.1 || (Nat.ble q.2.1 700 && (zAll (zOkv q.2.1) q.2.2.2.2.2.1 && zAll (zOkv q.2.1) q.2.2.2.2.2.2)) then rec n σ K E (fs, q.1, q.2.2.1, q.2.2.2.1) q.2.2.2.2.1 q.2.2.2.2.2.1 (rv ++ q.2.2.2.2.2.2) else false
/-- back to the caller, or the end -/
def zRet (P : zP) (rec : zR) (n : Nat) (σ : zS) (K : zK) (E : List zE) (rv : List zV) : List zFr → Bool
  | [] => P.fin n σ K E rv
  | q :: fs => zRet1 rec n σ K E rv fs q
abbrev zTE : Type := zP → zR → zI → Nat → zS → zK → List zE → zX → List zV → List zV → Bool
def zGoto : zTE := fun P rec q n σ K E x ls st => zJ P rec n σ K E x q.2.1 ls st
def zIf2 (P : zP) (rec : zR) (q : zI) (n : Nat) (σ : zS) (K : zK) (E : List zE) (x : zX) (ls t : List zV) (u v : zV) : Bool := zCmpS q.2.2.1 σ u v (fun σ => zJ P rec n σ K E x q.2.1 ls t) (fun σ => zJ P rec n σ K E x (x.2.2.2 + 1) ls t)
def zIf : zTE := fun P rec q n σ K E x ls st => match st with
  | u :: t => zIf2 P rec q n σ K E x ls t u (0, z0, z0, 0)
  | [] => false
def zIfc : zTE := fun P rec q n σ K E x ls st => match st with
  | v :: u :: t => zIf2 P rec q n σ K E x ls t u v
  | _ => false
def zTab (P : zP) (rec : zR) (n : Nat) (σ : zS) (K : zK) (E : List zE) (x : zX) (ls st : List zV) (u : zV) : List (Int × Int) → Int → Bool
  | [], _ => true
  | o :: r, j => zEq 0 σ u (zc 0 j) (fun σ => zJ P rec n σ K E x o.2.toNat ls st) && zTab P rec n σ K E x ls st u r (j + z1)
def zLok (P : zP) (rec : zR) (n : Nat) (K : zK) (E : List zE) (x : zX) (ls st : List zV) (u : zV) (d : Nat) : List (Int × Int) → zS → Bool
  | [], σ => zJ P rec n σ K E x d ls st
  | o :: r, σ => zEq 0 σ u (zc 0 o.1) (fun σ => zJ P rec n σ K E x o.2.toNat ls st) && zNe 0 σ u (zc 0 o.1) (fun σ => zLok P rec n K E x ls st u d r σ)
def zSwT2 (P : zP) (rec : zR) (d : Nat) (lo hi : Int) (os : List (Int × Int)) (n : Nat) (σ : zS) (K : zK) (E : List zE) (x : zX) (ls t : List zV) (u : zV) : Bool := (Nat.beq os.length (hi - lo + z1).toNat && zle lo hi) && (zTab P rec n σ K E x ls t u os lo && (zLt 0 σ u (zc 0 lo) (fun σ => zJ P rec n σ K E x d ls t) && zLt 0 σ (zc 0 hi) u (fun σ => zJ P rec n σ K E x d ls t)))
def zSwT : zTE := fun P rec q n σ K E x ls st => match st, q.2.2.2 with
  | u :: t, o :: r => zSwT2 P rec q.2.1 q.2.2.1 o.1 (o :: r) n σ K E x ls t u
  | _, _ => false
def zSwL : zTE := fun P rec q n σ K E x ls st => match st with
  | u :: t => bif Nat.ble u.1 1 then zLok P rec n K E x ls t u q.2.1 q.2.2.2 σ else false
  | [] => false
def zR01 (σ : zS) (v : zV) : Bool := zRg 0 σ v fun lo hi => zle z0 lo && zle hi z1
def zRetOk (y : Nat) (o : Nat) (σ : zS) (v : zV) : Bool := bif Nat.beq o 53 then (bif Nat.beq (aRT y) 1 then Nat.ble v.1 1 else Nat.beq (aRT y) 2 && zR01 σ v) else bif Nat.beq o 54 then Nat.beq (aRT y) 3 && (Nat.beq v.1 2 || Nat.beq v.1 3) else Nat.beq (aRT y) 4 && Nat.beq v.1 4
def zRv1 : zTE := fun P rec q n σ K E x _ st => match st with
  | [v] => bif zRetOk x.2.2.1 q.1 σ v then zRet P rec n σ K E [v] x.1 else false
  | _ => false
def zRv0 : zTE := fun P rec _ n σ K E x _ st => bif zNil st && Nat.beq (aRT x.2.2.1) 0 then zRet P rec n σ K E [] x.1 else false
def zEnds (o : Nat) : zTE := bif Nat.blt o 51 then (bif Nat.beq o 48 then zGoto else bif Nat.beq o 49 then zIf else zIfc) else bif Nat.blt o 53 then (bif Nat.beq o 51 then zSwT else zSwL) else bif Nat.blt o 56 then zRv1 else zRv0
/-! calls -/
def zFl : List zV → List zV
  | [] => []
  | v :: r => bif Nat.beq v.1 2 || Nat.beq v.1 3 then v :: (6, z0, z0, 0) :: zFl r else v :: zFl r
def zEnt (as : List zV) (m : Nat) : List zV := zFl as ++ List.replicate (m - (zFl as).length) (6, z0, z0, 0)
/-- new symbols n, n + 1 .. -/
def zNewT (n : Nat) : List (Int × Int) → Nat → List zV → List zV
  | [], _, th => th
  | _ :: r, i, th => zNewT n r (i + 1) (th ++ [zsy (n + i)])
def zNewG (n : Nat) : List (Int × Int) → Nat → zS → zS
  | [], _, σ => σ
  | b :: r, i, σ => zNewG n r (i + 1) ((n + i, b.1, b.2) :: σ)
def zSubE (th : List zV) : List zE → List zE → List zE
  | [], E => E
  | e :: q, E => (e.1, e.2.1, e.2.2.1, zSubst th e.2.2.2) :: zSubE th q E
def zPostK (E1 : List zE) (n : Nat) (k : Nat → zS → List zE → List zV → Bool) (q : zPo) (σ : zS) (th : List zV) : Bool := zTake th q.1 σ fun σ => k (n + q.2.2.1.length) σ (zSubE th q.2.2.2.2 E1) (q.2.2.2.1.map (zSubst th))
def zPosts (th : List zV) (E1 : List zE) (n : Nat) (σ : zS) (k : Nat → zS → List zE → List zV → Bool) : List zPo → Bool
  | [] => true
  | q :: r => zPostK E1 n k q (zNewG n q.2.2.1 0 σ) (zNewT n q.2.2.1 0 th) && zPosts th E1 n σ k r
def zAny1 : List zCo → (zCo → Bool) → Bool
  | [], _ => false
  | c :: r, k => k c || zAny1 r k
def zConF (P : zP) (c : zCo) (as : List zV) (k : Nat → zS → List zE → List zV → Bool) (n : Nat) (σ : zS) (E : List zE) (th : List zV) : Bool := bif zFitL P σ th as c.2.2.2.1 && zFitE P σ E th c.2.2.2.2.1 then zPosts th (zKill c.2.2.2.2.2.2 E) n σ k c.2.2.2.2.2.1 else false
/-- a contract is tried -/
def zCon (P : zP) (c : zCo) (dd n : Nat) (σ : zS) (E : List zE) (as : List zV) (k : Nat → zS → List zE → List zV → Bool) : Bool := bif Nat.ble c.1 dd && Nat.beq (Nat.lor c.2.2.2.2.2.2 P.md) P.md then zFind P as c.2.2.1 c.2.1 n σ E [] (zConF P c as k) else false
/-- a callee is entered -/
def zInl (P : zP) (rec : zR) (q : Nat) (as : List zV) (n : Nat) (σ : zS) (K : zK) (E : List zE) (x : zX) (r : List zI) (ls st : List zV) : Nat → Bool
  | 0 => false
  | d + 1 => bif Nat.ble (zFl as).length (aML q) && zAll (fun v => Nat.ble v.1 4) as then zBlk (P.bk q) 0 (fun l => rec n σ K E ((d + 1, K.1, x.2.2.1, x.2.2.2, r, ls, st) :: x.1, d, q, 0) l (zEnt as (aML q)) []) else false
def zGo1 (P : zP) (rec : zR) (q : Nat) (r : List zI) (K : zK) (x : zX) (ls st : List zV) (n : Nat) (σ : zS) (E : List zE) (as : List zV) : List zCo → Bool
  | [] => zInl P rec q as n σ K E x r ls st x.2.1
  | c :: cs => (zNil K.2.2 && zNo P.al) && zAny1 (c :: cs) fun c => zCon P c x.2.1 n σ E as fun n σ E rv => rec n σ K E x r ls (rv ++ st)
def zGo (P : zP) (rec : zR) (q : Nat) (as : List zV) (n : Nat) (σ : zS) (K : zK) (E : List zE) (x : zX) (r : List zI) (ls st : List zV) : Bool := bif Nat.ble (zCats st) 8 then zMas as n σ (fun n σ as => zGo1 P rec q r K x ls st n σ E as (P.con q)) else false
def zAbs (σ : zS) (v : zV) (k : zV → Bool) : Bool := zRg 0 σ v fun lo hi => bif zle z0 lo then k v else bif zle hi z0 then zSub 0 σ (zc 0 z0) v k else bif zle (zMn 0 + z1) lo then k (1, z0, zmax (-lo) hi, 0) else k zAny
def zFldK (k : zV → Bool) (lx hx ly hy : Int) : Bool := bif zle z1 ly then (bif zeq lx hx && zeq ly hy then k (zc 0 (lx / ly)) else k (1, zmin lx z0, zmax hx z0, 0)) else bif zle hy (Int.negSucc 0) then k (1, zMn 0, zMx 0, 0) else false
def zFld (σ : zS) (x y : zV) (k : zV → Bool) : Bool := zRg2 0 σ x y (zFldK k)
/-- the greater (up) or the lesser of two -/
def zMmV (w : Nat) (up : Bool) (x y : zV) (lx hx ly hy : Int) : zV := bif zle hx ly then (bif up then y else x) else bif zle hy lx then (bif up then x else y) else bif up then (w + 1, zmax lx ly, zmax hx hy, 0) else (w + 1, zmin lx ly, zmin hx hy, 0)
def zMm (w : Nat) (up : Bool) (σ : zS) (x y : zV) (k : zV → Bool) : Bool := zRg2 w σ x y fun lx hx ly hy => k (zMmV w up x y lx hx ly hy)
def zMath (m : Nat) : zT := bif Nat.beq m 904 then zUn zAbs else bif Nat.beq m 905 then zBin zFld else bif Nat.beq m 906 then zBin (zMm 2 true) else bif Nat.beq m 907 then zBin (zMm 0 false) else bif Nat.beq m 908 then zBin (zMm 2 false) else fun _ _ _ _ _ _ _ => false
/-- numbers are copied: m of them, from sp on, to dp on -/
def zCopyOk (ka kb : zC) (ml mh dl dh sl sh : Int) : Bool := (Nat.beq ka.1 100 && Nat.beq kb.1 100) && ((zle z0 ml && (zle z0 dl && zle z0 sl)) && (zle (dh + mh) (Int.ofNat ka.2.1) && zle (sh + mh) (Int.ofNat kb.2.1)))
def zCopyX (a b la : Nat) (E : List zE) (ml mh dh sh : Int) : List zE := bif (zeq dh z0 && zeq sh z0) && (zeq ml mh && Nat.blt b 700) then zCopyE (a * 128 + 127) (b * 128 + 127) ml.toNat E (zTrim E (a * 128 + 127) 0 la) else zTrim E (a * 128 + 127) 0 la
def zCopyK (P : zP) (a b : Nat) (n : Nat) (σ : zS) (K : zK) (E : List zE) (ls t : List zV) (k : Nat → zS → zK → List zE → List zV → List zV → Bool) (ml mh dl dh sl sh : Int) : Bool := bif zCopyOk (zCe P K a) (zCe P K b) ml mh dl dh sl sh then
    (bif Nat.blt a 700 then (bif zMay1 P (a * 128 + 127) (P.zI (b * 128 + 127)).1 (P.zI (b * 128 + 127)).2 && Nat.ble (zLo P (a * 128 + 127)) dl.toNat then k n σ K (zCopyX a b (zCe P K a).2.1 E ml mh dh sh) ls t else false)
      else bif zMem P a 127 (P.zI (b * 128 + 127)).1 (P.zI (b * 128 + 127)).2 && zLoM P a dl.toNat then k n σ K (zDrop 127 0 (zCe P K a).2.1 (P.ps a) E) ls t else false) else false
def zCopy (P : zP) : zT := fun n σ K E ls st k => match st with
  | m :: dp :: u :: sp :: w :: t => zRef u fun a => zRef w fun b => zRg 0 σ m fun ml mh => zRg 0 σ dp fun dl dh => zRg 0 σ sp fun sl sh => zCopyK P a b n σ K E ls t k ml mh dl dh sl sh
  | _ => false
def zStrA (v : zV) (k : String → Bool) : Bool := zRef v fun a => bif Nat.ble 90001 a && Nat.blt a (90001 + aStr.length) then k (aStr.getD (a - 90001) "") else false
def zStrL : zT := fun n σ K E ls st k => match st with
  | u :: t => zStrA u fun s => bif Nat.blt s.length 1000 then k n σ K E ls (zc 0 (Int.ofNat s.length) :: t) else false
  | _ => false
def zStrC : zT := fun n σ K E ls st k => match st with
  | j :: u :: t => zStrA u fun s => zIn σ j s.length fun _ _ => k n σ K E ls (zAny :: t)
  | _ => false
abbrev zTC : Type := zP → zR → Nat → Nat → zS → zK → List zE → zX → List zI → List zV → List zV → Bool
/-- what calls none of the tables' methods; of what is left on the stack so much at most -/
def zLib (f : zT) (m : Nat) : zTC := fun _ rec _ n σ K E x r ls st => f n σ K E ls st fun n σ K E ls st => bif Nat.ble (zCats st) m then rec n σ K E x r ls st else false
def zInst : zTC := fun P rec q n σ K E x r ls st => match st.drop (aNA q) with
  | u :: t => zRef u fun a => bif Nat.beq (zCe P K a).1 (aCI q) && Nat.blt (aCI q) 900 then zGo P rec q (u :: (st.take (aNA q)).reverse) n σ K E x r ls t else false
  | [] => false
def zStat : zTC := fun P rec q n σ K E x r ls st => bif Nat.beq (st.take (aNA q)).length (aNA q) && Nat.beq (aCI q) 100 then zGo P rec q (st.take (aNA q)).reverse n σ K E x r ls (st.drop (aNA q)) else false
def zObj : zTC := fun _ rec _ n σ K E x r ls st => match st with
  | u :: t => zRef u fun a => bif (Nat.blt a 700 && Nat.blt a K.1) && Nat.ble (zCats t) 8 then rec n σ K E x r ls t else false
  | [] => false
def zCallS : zTC := fun P rec q => (bif Nat.blt q 900 then zStat else bif Nat.beq q 902 then zLib (zCopy P) 8 else zLib (zMath q) 9) P rec q
def zCallP : zTC := fun P rec q => (bif Nat.beq q 903 then zObj else zInst) P rec q
def zCallV : zTC := fun P rec q => (bif Nat.blt q 900 then zInst else bif Nat.beq q 900 then zLib zStrL 9 else bif Nat.beq q 901 then zLib zStrC 9 else zInst) P rec q
def zCalls (o : Nat) : zTC := bif Nat.beq o 57 then zCallS else bif Nat.beq o 58 then zCallP else bif Nat.beq o 59 then zCallV else fun _ _ _ _ _ _ _ _ _ _ _ => false
/-! the interpreter -/
abbrev zTK : Type := zP → zR → zI → List zI → Nat → zS → zK → List zE → zX → List zV → List zV → Bool
def zSP : zTK := fun P rec i r n σ K E x ls st => zDq P i n σ K E ls st fun n σ K E ls st => rec n σ K E x r ls st
def zSE : zTK := fun P rec i _ n σ K E x ls st => zEnds i.1 P rec i n σ K E x ls st
def zSC : zTK := fun P rec i r n σ K E x ls st => zCalls i.1 P rec (i.2.1 % 1000) n σ K E x r ls st
def zSk (o : Nat) : zTK := bif Nat.blt o 48 then zSP else bif Nat.blt o 57 then zSE else zSC
def zStep (P : zP) (rec : zR) : zR := fun n σ K E x is ls st => match is with
  | [] => zJ P rec n σ K E x (x.2.2.2 + 1) ls st
  | i :: r => zSk i.1 P rec i r n σ K E x ls st
noncomputable def zGoX (P : zP) (f : Nat) : zR := Nat.rec (motive := fun _ => zR) (fun _ _ _ _ _ _ _ _ => false) (fun _ rec => zStep P rec) f
/-! the interpreter's numbers -/
theorem zCd {c a b : Bool} (h : (bif c then a else b) = true) : c = true ∧ a = true ∨ c = false ∧ b = true := by
  cases c
  · exact Or.inr ⟨rfl, h⟩
  · exact Or.inl ⟨rfl, h⟩
theorem zAnd {a b : Bool} (h : (a && b) = true) : a = true ∧ b = true := by
  cases a
  · cases h
  · exact ⟨rfl, h⟩
theorem zOr {a b : Bool} (h : (a || b) = true) : a = true ∨ b = true := by
  cases a
  · exact Or.inr h
  · exact Or.inl rfl
theorem zAndF {a b : Bool} (h : (a && b) = false) : a = false ∨ b = false := by
  cases a
  · exact Or.inl rfl
  · exact Or.inr h
theorem zOrF {a b : Bool} (h : (a || b) = false) : a = false ∧ b = false := by
  cases a
  · exact ⟨rfl, h⟩
  · cases h
theorem zbe {a b : Nat} (h : Nat.beq a b = true) : a = b := Nat.eq_of_beq_eq_true h
theorem zbn {a b : Nat} (h : Nat.beq a b = false) : a ≠ b := Nat.ne_of_beq_eq_false h
theorem zbl {a b : Nat} (h : Nat.ble a b = true) : a ≤ b := Nat.le_of_ble_eq_true h
theorem zblF {a b : Nat} (h : Nat.ble a b = false) : b < a := by
  have h1 : ¬ a ≤ b := fun q => by rw [Nat.ble_eq_true_of_le q] at h; cases h
  omega
theorem zbt {a b : Nat} (h : Nat.blt a b = true) : a < b := Nat.le_of_ble_eq_true h
theorem zbtF {a b : Nat} (h : Nat.blt a b = false) : b ≤ a := by
  have := zblF (a := a + 1) (b := b) h
  omega
theorem zle_iff {x y : Int} : zle x y = true ↔ x ≤ y := by
  unfold zle
  cases x <;> cases y
  · rename_i a b
    show Nat.ble a b = true ↔ (a : Int) ≤ (b : Int)
    rw [Nat.ble_eq]
    omega
  · rename_i a b
    show false = true ↔ (a : Int) ≤ Int.negSucc b
    constructor
    · intro h; cases h
    · intro h; omega
  · rename_i a b
    show true = true ↔ Int.negSucc a ≤ (b : Int)
    constructor
    · intro _; omega
    · intro _; rfl
  · rename_i a b
    show Nat.ble b a = true ↔ Int.negSucc a ≤ Int.negSucc b
    rw [Nat.ble_eq]
    omega
theorem zeq_iff {x y : Int} : zeq x y = true ↔ x = y := by
  unfold zeq
  cases x <;> cases y
  · rename_i a b
    show Nat.beq a b = true ↔ (a : Int) = (b : Int)
    rw [Nat.beq_eq]
    omega
  · rename_i a b
    show false = true ↔ (a : Int) = Int.negSucc b
    constructor
    · intro h; cases h
    · intro h; omega
  · rename_i a b
    show false = true ↔ Int.negSucc a = (b : Int)
    constructor
    · intro h; cases h
    · intro h; omega
  · rename_i a b
    show Nat.beq a b = true ↔ Int.negSucc a = Int.negSucc b
    rw [Nat.beq_eq]
    omega
theorem zl {x y : Int} (h : zle x y = true) : x ≤ y := zle_iff.mp h
theorem zlF {x y : Int} (h : zle x y = false) : y < x := by
  have h1 : ¬ x ≤ y := fun q => by rw [zle_iff.mpr q] at h; cases h
  omega
theorem ze {x y : Int} (h : zeq x y = true) : x = y := zeq_iff.mp h
theorem zeF {x y : Int} (h : zeq x y = false) : x ≠ y := fun q => by rw [zeq_iff.mpr q] at h; cases h
theorem zmin_le {x y : Int} : zmin x y ≤ x ∧ zmin x y ≤ y := by
  unfold zmin
  cases h : zle x y
  · have := zlF h
    exact ⟨Int.le_of_lt this, Int.le_refl _⟩
  · exact ⟨Int.le_refl _, zl h⟩
theorem le_zmin {z x y : Int} (h1 : z ≤ x) (h2 : z ≤ y) : z ≤ zmin x y := by
  unfold zmin
  cases h : zle x y
  · exact h2
  · exact h1
theorem le_zmax {x y : Int} : x ≤ zmax x y ∧ y ≤ zmax x y := by
  unfold zmax
  cases h : zle x y
  · have := zlF h
    exact ⟨Int.le_refl _, Int.le_of_lt this⟩
  · exact ⟨zl h, Int.le_refl _⟩
theorem zmax_le {z x y : Int} (h1 : x ≤ z) (h2 : y ≤ z) : zmax x y ≤ z := by
  unfold zmax
  cases h : zle x y
  · exact h1
  · exact h2
theorem z0_eq : z0 = 0 := rfl
theorem z1_eq : z1 = 1 := rfl
/-- the number x is of the value v, of sort w: 0 an int, 2 a long -/
def zN (ρ : Nat → Int) (n w : Nat) (v : zV) (x : Int) : Prop :=
  (v.1 = w ∧ (v.2.2.1 = 0 ∨ v.2.2.2 < n) ∧ x = v.2.1 + v.2.2.1 * ρ v.2.2.2) ∨ (v.1 = w + 1 ∧ v.2.1 ≤ x ∧ x ≤ v.2.2.1)
def zSok (ρ : Nat → Int) (n : Nat) (σ : zS) : Prop := ∀ e ∈ σ, e.1 < n ∧ e.2.1 ≤ ρ e.1 ∧ ρ e.1 ≤ e.2.2
section ZNUM
variable {ρ : Nat → Int} {n w : Nat} {σ : zS} {v x y : zV} {X Y : Int}
theorem znC {c : Int} (h : X = c) : zN ρ n w (w, c, z0, 0) X := Or.inl ⟨rfl, Or.inl rfl, by subst h; simp [z0]⟩
theorem znR {a b : Int} {s : Nat} (h1 : a ≤ X) (h2 : X ≤ b) : zN ρ n w (w + 1, a, b, s) X := Or.inr ⟨rfl, h1, h2⟩
theorem znZ {a b : Int} (h1 : a ≤ X) (h2 : X ≤ b) : zN ρ n w (zr w a b) X := by
  unfold zr
  cases h : zeq a b
  · exact znR h1 h2
  · have := ze h
    exact znC (by omega)
theorem zN.mono {n' : Nat} {ρ' : Nat → Int} (h : zN ρ n w v X) (hn : n ≤ n') (hr : ∀ i, i < n → ρ' i = ρ i) : zN ρ' n' w v X := by
  rcases h with ⟨h1, h2, h3⟩ | h
  · refine Or.inl ⟨h1, ?_, ?_⟩
    · exact h2.imp id (fun q => by omega)
    · rcases h2 with q | q
      · rw [h3, q]; simp
      · rw [h3, hr _ q]
  · exact Or.inr h
theorem zSok.mono {n' : Nat} {ρ' : Nat → Int} (h : zSok ρ n σ) (hn : n ≤ n') (hr : ∀ i, i < n → ρ' i = ρ i) : zSok ρ' n' σ := fun e he => by
  obtain ⟨h1, h2, h3⟩ := h e he
  exact ⟨by omega, by rw [hr _ h1]; exact h2, by rw [hr _ h1]; exact h3⟩
theorem zSy_s {s : Nat} {k : Int → Int → Bool} (hs : zSok ρ n σ) (h : zSy σ s k = true) : ∃ lo hi, s < n ∧ lo ≤ ρ s ∧ ρ s ≤ hi ∧ k lo hi = true := by
  induction σ with
  | nil => cases h
  | cons e r ih =>
    unfold zSy at h
    rcases zCd h with ⟨h1, h2⟩ | ⟨h1, h2⟩
    · obtain ⟨q1, q2, q3⟩ := hs e List.mem_cons_self
      rw [zbe h1] at q1 q2 q3
      exact ⟨_, _, q1, q2, q3, h2⟩
    · exact ih (fun e he => hs e (List.mem_cons_of_mem _ he)) h2
theorem zRg_s {k : Int → Int → Bool} (hs : zSok ρ n σ) (hv : zN ρ n w v X) (h : zRg w σ v k = true) : ∃ lo hi, lo ≤ X ∧ X ≤ hi ∧ k lo hi = true := by
  unfold zRg at h
  rcases hv with ⟨h1, -, h3⟩ | ⟨h1, h2, h3⟩
  · have e : Nat.beq v.1 w = true := by rw [h1]; exact Nat.beq_refl w
    rw [e] at h
    have h : zRgA σ v k = true := h
    unfold zRgA at h
    rcases zCd h with ⟨c1, h⟩ | ⟨c1, h⟩
    · have := ze c1
      rw [this] at h3
      have e0 : X = v.2.1 := by rw [h3, z0_eq]; simp
      exact ⟨_, _, by omega, by omega, h⟩
    · rcases zCd h with ⟨c2, h⟩ | ⟨c2, h⟩
      · obtain ⟨lo, hi, -, q2, q3, hk⟩ := zSy_s hs h
        have := ze c2
        rw [this, z1_eq] at h3
        exact ⟨_, _, by omega, by omega, hk⟩
      · obtain ⟨lo, hi, -, q2, q3, hk⟩ := zSy_s hs h
        unfold zAfR at hk
        rcases zCd hk with ⟨c3, hk⟩ | ⟨c3, hk⟩
        · have := zl c3
          refine ⟨_, _, ?_, ?_, hk⟩
          · rw [h3]; have := Int.mul_le_mul_of_nonneg_left q2 this; omega
          · rw [h3]; have := Int.mul_le_mul_of_nonneg_left q3 this; omega
        · have := zlF c3
          have h0 : v.2.2.1 ≤ 0 := by rw [z0_eq] at this; omega
          refine ⟨_, _, ?_, ?_, hk⟩
          · rw [h3]; have := Int.mul_le_mul_of_nonpos_left h0 q3; omega
          · rw [h3]; have := Int.mul_le_mul_of_nonpos_left h0 q2; omega
  · have e : Nat.beq v.1 w = false := by
      cases hb : Nat.beq v.1 w
      · rfl
      · have := zbe hb; omega
    have e2 : Nat.beq v.1 (w + 1) = true := by rw [h1]; exact Nat.beq_refl _
    rw [e, e2] at h
    exact ⟨_, _, h2, h3, h⟩
theorem zRg2_s {k : Int → Int → Int → Int → Bool} (hs : zSok ρ n σ) (hx : zN ρ n w x X) (hy : zN ρ n w y Y) (h : zRg2 w σ x y k = true) : ∃ lx hx ly hy, lx ≤ X ∧ X ≤ hx ∧ ly ≤ Y ∧ Y ≤ hy ∧ k lx hx ly hy = true := by
  unfold zRg2 at h
  obtain ⟨lx, ux, h1, h2, h⟩ := zRg_s hs hx h
  obtain ⟨ly, uy, h3, h4, h⟩ := zRg_s hs hy h
  exact ⟨lx, ux, ly, uy, h1, h2, h3, h4, h⟩
theorem zNrP_s {s : Nat} {lo hi : Int} {k : zS → Bool} (hs : zSok ρ n σ) (hsn : s < n) (h1 : lo ≤ ρ s) (h2 : ρ s ≤ hi) (h : zNrP σ s lo hi k = true) : ∃ σ', zSok ρ n σ' ∧ k σ' = true := by
  unfold zNrP at h
  rcases zCd h with ⟨-, h⟩ | ⟨c, -⟩
  · refine ⟨_, fun e he => ?_, h⟩
    rcases List.mem_cons.mp he with rfl | he
    · exact ⟨hsn, h1, h2⟩
    · exact hs e he
  · have := zlF c
    omega
theorem zNr_s {lo hi : Int} {k : zS → Bool} (hs : zSok ρ n σ) (hv : zN ρ n w v X) (hlo : lo ≤ X) (hhi : X ≤ hi) (h : zNr w σ v lo hi k = true) : ∃ σ', zSok ρ n σ' ∧ k σ' = true := by
  unfold zNr at h
  cases ht : Nat.beq v.1 w
  · rw [ht] at h
    exact ⟨σ, hs, h⟩
  · rw [ht] at h
    have h : zNrS v.2.2.1 σ v lo hi k = true := h
    have hX : X = v.2.1 + v.2.2.1 * ρ v.2.2.2 := by
      rcases hv with ⟨-, -, h3⟩ | ⟨h1, -⟩
      · exact h3
      · have := zbe ht; omega
    unfold zNrS at h
    cases c1 : zeq v.2.2.1 z1
    · rw [c1] at h
      cases c2 : zle z1 v.2.2.1
      · rw [c2] at h
        cases c3 : zeq v.2.2.1 (Int.negSucc 0)
        · rw [c3] at h
          exact ⟨σ, hs, h⟩
        · rw [c3] at h
          have h : zNrM σ v lo hi k = true := h
          unfold zNrM at h
          obtain ⟨l, u, q1, q2, q3, h⟩ := zSy_s hs h
          have e := ze c3
          rw [e, show Int.negSucc 0 = -1 from rfl] at hX
          refine zNrP_s hs q1 (zmax_le q2 (by omega)) (le_zmin q3 (by omega)) h
      · rw [c2] at h
        have h : zNrB σ v lo hi k = true := h
        unfold zNrB at h
        obtain ⟨l, u, q1, q2, q3, h⟩ := zSy_s hs h
        have e := zl c2
        rw [z1_eq] at e
        have hb : 0 < v.2.2.1 := by omega
        refine zNrP_s hs q1 (zmax_le q2 ?_) (le_zmin q3 ?_) h
        · have hp : (v.2.1 - lo) / v.2.2.1 * v.2.2.1 ≤ v.2.1 - lo := Int.ediv_mul_le _ (by omega)
          have hp2 : v.2.1 - lo < ((v.2.1 - lo) / v.2.2.1 + 1) * v.2.2.1 := Int.lt_ediv_add_one_mul_self _ hb
          have h6 : -(ρ v.2.2.2) < (v.2.1 - lo) / v.2.2.1 + 1 := by
            have h7 : -(ρ v.2.2.2) * v.2.2.1 < ((v.2.1 - lo) / v.2.2.1 + 1) * v.2.2.1 := by
              rw [Int.neg_mul, Int.mul_comm (ρ v.2.2.2)]
              omega
            exact Int.lt_of_mul_lt_mul_right h7 (by omega)
          omega
        · rw [Int.le_ediv_iff_mul_le hb, Int.mul_comm]
          omega
    · rw [c1] at h
      have h : zNr1 σ v lo hi k = true := h
      unfold zNr1 at h
      obtain ⟨l, u, q1, q2, q3, h⟩ := zSy_s hs h
      have e := ze c1
      rw [e, z1_eq] at hX
      rcases zCd h with ⟨-, h⟩ | ⟨-, h⟩
      · exact ⟨σ, hs, h⟩
      · exact zNrP_s hs q1 (zmax_le q2 (by omega)) (le_zmin q3 (by omega)) h
theorem zNr2_s {lx ux ly uy : Int} {k : zS → Bool} (hs : zSok ρ n σ) (hx : zN ρ n w x X) (hy : zN ρ n w y Y) (h1 : lx ≤ X) (h2 : X ≤ ux) (h3 : ly ≤ Y) (h4 : Y ≤ uy) (h : zNr2 w σ x y lx ux ly uy k = true) : ∃ σ', zSok ρ n σ' ∧ k σ' = true := by
  unfold zNr2 at h
  obtain ⟨σ1, hs1, h⟩ := zNr_s hs hx h1 h2 h
  exact zNr_s hs1 hy h3 h4 h
theorem zPar_s (hx : zN ρ n w x X) (hy : zN ρ n w y Y) (h : zPar w x y = true) : X - Y = x.2.1 - y.2.1 := by
  unfold zPar zSame at h
  obtain ⟨h, h4⟩ := zAnd h
  obtain ⟨h1, h⟩ := zAnd h
  obtain ⟨h2, h3⟩ := zAnd h
  have h1 := zbe h1
  have h2 := zbe h2
  have h3 := zbe h3
  have h4 := ze h4
  rcases hx with ⟨-, -, q3⟩ | ⟨q1, -⟩
  · rcases hy with ⟨-, -, r3⟩ | ⟨r1, -⟩
    · rw [q3, r3, h3, h4]
      omega
    · omega
  · omega
theorem zLt_s {k : zS → Bool} (hs : zSok ρ n σ) (hx : zN ρ n w x X) (hy : zN ρ n w y Y) (hc : X < Y) (h : zLt w σ x y k = true) : ∃ σ', zSok ρ n σ' ∧ k σ' = true := by
  unfold zLt at h
  rcases zCd h with ⟨c, h⟩ | ⟨-, h⟩
  · have hp := zPar_s hx hy c
    rcases zCd h with ⟨c, -⟩ | ⟨-, h⟩
    · have := zl c
      omega
    · exact ⟨σ, hs, h⟩
  obtain ⟨lx, ux, ly, uy, h1, h2, h3, h4, h⟩ := zRg2_s hs hx hy h
  unfold zLtK at h
  rcases zCd h with ⟨c, -⟩ | ⟨c, h⟩
  · have := zl c
    omega
  · rcases zCd h with ⟨-, h⟩ | ⟨-, h⟩
    · exact ⟨σ, hs, h⟩
    · exact zNr2_s hs hx hy h1 (le_zmin h2 (by rw [z1_eq]; omega)) (zmax_le h3 (by rw [z1_eq]; omega)) h4 h
theorem zLe_s {k : zS → Bool} (hs : zSok ρ n σ) (hx : zN ρ n w x X) (hy : zN ρ n w y Y) (hc : X ≤ Y) (h : zLe w σ x y k = true) : ∃ σ', zSok ρ n σ' ∧ k σ' = true := by
  unfold zLe at h
  rcases zCd h with ⟨c, h⟩ | ⟨-, h⟩
  · have hp := zPar_s hx hy c
    rcases zCd h with ⟨-, h⟩ | ⟨c, -⟩
    · exact ⟨σ, hs, h⟩
    · have := zlF c
      omega
  obtain ⟨lx, ux, ly, uy, h1, h2, h3, h4, h⟩ := zRg2_s hs hx hy h
  unfold zLeK at h
  rcases zCd h with ⟨-, h⟩ | ⟨-, h⟩
  · exact ⟨σ, hs, h⟩
  · rcases zCd h with ⟨-, h⟩ | ⟨c, -⟩
    · exact zNr2_s hs hx hy h1 (le_zmin h2 (by omega)) (zmax_le h3 (by omega)) h4 h
    · have := zlF c
      omega
theorem zEq_s {k : zS → Bool} (hs : zSok ρ n σ) (hx : zN ρ n w x X) (hy : zN ρ n w y Y) (hc : X = Y) (h : zEq w σ x y k = true) : ∃ σ', zSok ρ n σ' ∧ k σ' = true := by
  unfold zEq at h
  rcases zCd h with ⟨c, h⟩ | ⟨-, h⟩
  · have hp := zPar_s hx hy c
    rcases zCd h with ⟨-, h⟩ | ⟨c, -⟩
    · exact ⟨σ, hs, h⟩
    · exact absurd (by omega) (zeF c)
  obtain ⟨lx, ux, ly, uy, h1, h2, h3, h4, h⟩ := zRg2_s hs hx hy h
  unfold zEqK at h
  have l1 : zmax lx ly ≤ X := zmax_le h1 (by omega)
  have l2 : X ≤ zmin ux uy := le_zmin h2 (by omega)
  rcases zCd h with ⟨-, h⟩ | ⟨c, -⟩
  · exact zNr2_s hs hx hy l1 l2 (by omega) (by omega) h
  · have := zlF c
    omega
theorem zNeC_s {lx ux c : Int} {k : zS → Bool} (hs : zSok ρ n σ) (hx : zN ρ n w x X) (h1 : lx ≤ X) (h2 : X ≤ ux) (hc : X ≠ c) (h : zNeC w σ x lx ux c k = true) : ∃ σ', zSok ρ n σ' ∧ k σ' = true := by
  unfold zNeC at h
  rcases zCd h with ⟨c1, h⟩ | ⟨c1, h⟩
  · have := ze c1
    rcases zCd h with ⟨c2, -⟩ | ⟨c2, h⟩
    · have := ze c2
      omega
    · exact zNr_s hs hx (by rw [z1_eq]; omega) h2 h
  · rcases zCd h with ⟨c2, h⟩ | ⟨c2, h⟩
    · have := ze c2
      exact zNr_s hs hx h1 (by rw [z1_eq]; omega) h
    · rcases zCd h with ⟨c3, h⟩ | ⟨c3, h⟩
      · obtain ⟨ha, hb⟩ := zAnd h
        by_cases q : X < c
        · exact zNr_s hs hx h1 (by rw [z1_eq]; omega) ha
        · exact zNr_s hs hx (by rw [z1_eq]; omega) h2 hb
      · exact ⟨σ, hs, h⟩
theorem zNe_s {k : zS → Bool} (hs : zSok ρ n σ) (hx : zN ρ n w x X) (hy : zN ρ n w y Y) (hc : X ≠ Y) (h : zNe w σ x y k = true) : ∃ σ', zSok ρ n σ' ∧ k σ' = true := by
  unfold zNe at h
  rcases zCd h with ⟨c, h⟩ | ⟨-, h⟩
  · have hp := zPar_s hx hy c
    rcases zCd h with ⟨c, -⟩ | ⟨-, h⟩
    · have := ze c
      omega
    · exact ⟨σ, hs, h⟩
  obtain ⟨lx, ux, ly, uy, h1, h2, h3, h4, h⟩ := zRg2_s hs hx hy h
  unfold zNeK at h
  rcases zCd h with ⟨c, h⟩ | ⟨c, h⟩
  · have := ze c
    exact zNeC_s hs hx h1 h2 (by omega) h
  · rcases zCd h with ⟨c, h⟩ | ⟨c, h⟩
    · have := ze c
      exact zNeC_s hs hy h3 h4 (by omega) h
    · exact ⟨σ, hs, h⟩
/-- a comparison -/
theorem zCmp_s {c : Jvm.ClassFile.Cond} {kt kf : zS → Bool} {a b : Int32} (hs : zSok ρ n σ) (hx : zN ρ n 0 x a.toInt) (hy : zN ρ n 0 y b.toInt) (h : zCmpS (zCc c) σ x y kt kf = true) : ∃ σ', zSok ρ n σ' ∧ (if aCd c a b = true then kt σ' else kf σ') = true := by
  have e : ∀ (p q : zS → zV → zV → (zS → Bool) → Bool) (sw : Bool), zCp p q sw σ x y kt kf = true → (sw = true ∧ p σ y x kt = true ∧ q σ x y kf = true) ∨ (sw = false ∧ p σ x y kt = true ∧ q σ y x kf = true) := by
    intro p q sw hh
    cases sw
    · exact Or.inr ⟨rfl, zAnd hh⟩
    · exact Or.inl ⟨rfl, zAnd hh⟩
  have fin : ∀ {A : Prop} [Decidable A] (hA : A → ∃ σ', zSok ρ n σ' ∧ kt σ' = true) (hB : ¬ A → ∃ σ', zSok ρ n σ' ∧ kf σ' = true), ∃ σ', zSok ρ n σ' ∧ (if decide A = true then kt σ' else kf σ') = true := by
    intro A _ hA hB
    by_cases q : A
    · obtain ⟨s', h1, h2⟩ := hA q
      exact ⟨s', h1, by rw [if_pos (decide_eq_true q)]; exact h2⟩
    · obtain ⟨s', h1, h2⟩ := hB q
      exact ⟨s', h1, by rw [if_neg (by rw [decide_eq_false q]; exact Bool.false_ne_true)]; exact h2⟩
  cases c with
  | eq =>
    have h : zCp (zEq 0) (zNe 0) false σ x y kt kf = true := h
    rcases e _ _ _ h with ⟨q, -⟩ | ⟨-, h1, h2⟩
    · cases q
    · exact fin (A := a = b) (fun q => zEq_s hs hx hy (by rw [q]) h1) (fun q => zNe_s hs hy hx (fun z => q (Int32.toInt_inj.mp z.symm)) h2)
  | ne =>
    have h : zCp (zNe 0) (zEq 0) false σ x y kt kf = true := h
    rcases e _ _ _ h with ⟨q, -⟩ | ⟨-, h1, h2⟩
    · cases q
    · exact fin (A := ¬ a = b) (fun q => zNe_s hs hx hy (fun z => q (Int32.toInt_inj.mp z)) h1) (fun q => zEq_s hs hy hx (by rw [Decidable.not_not.mp q]) h2)
  | lt =>
    have h : zCp (zLt 0) (zLe 0) false σ x y kt kf = true := h
    rcases e _ _ _ h with ⟨q, -⟩ | ⟨-, h1, h2⟩
    · cases q
    · exact fin (A := a < b) (fun q => zLt_s hs hx hy (Int32.lt_iff_toInt_lt.mp q) h1) (fun q => zLe_s hs hy hx (Int32.le_iff_toInt_le.mp (Int32.not_lt.mp q)) h2)
  | ge =>
    have h : zCp (zLe 0) (zLt 0) true σ x y kt kf = true := h
    rcases e _ _ _ h with ⟨-, h1, h2⟩ | ⟨q, -⟩
    · exact fin (A := b ≤ a) (fun q => zLe_s hs hy hx (Int32.le_iff_toInt_le.mp q) h1) (fun q => zLt_s hs hx hy (Int32.lt_iff_toInt_lt.mp (Int32.not_le.mp q)) h2)
    · cases q
  | gt =>
    have h : zCp (zLt 0) (zLe 0) true σ x y kt kf = true := h
    rcases e _ _ _ h with ⟨-, h1, h2⟩ | ⟨q, -⟩
    · exact fin (A := b < a) (fun q => zLt_s hs hy hx (Int32.lt_iff_toInt_lt.mp q) h1) (fun q => zLe_s hs hx hy (Int32.le_iff_toInt_le.mp (Int32.not_lt.mp q)) h2)
    · cases q
  | le =>
    have h : zCp (zLe 0) (zLt 0) false σ x y kt kf = true := h
    rcases e _ _ _ h with ⟨q, -⟩ | ⟨-, h1, h2⟩
    · cases q
    · exact fin (A := a ≤ b) (fun q => zLe_s hs hx hy (Int32.le_iff_toInt_le.mp q) h1) (fun q => zLt_s hs hy hx (Int32.lt_iff_toInt_lt.mp (Int32.not_le.mp q)) h2)
end ZNUM
