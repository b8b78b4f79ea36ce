/-! ===== PURE: texts worked out; the functions of the reference's row that both sides do ===== -/
/-- a step of the class, as the reference writes it -/
def tr (x : Int32) : Int32 := if 0 ≤ x then x else if x = -107 then -1 else if x = -104 then -2 else if x = -109 then -3 else if x = -100 then -4 else if x = -124 then -11 else if x = -38 then -12 else if x = -60 then -13 else if x = -61 then -14 else if x = -62 then -15 else if x = -43 then -16 else if x = -45 then -17 else if x = -42 then -18 else if x = -47 then -19 else if x = -37 then -20 else -21
/-- how many stand on the pile behind i steps -/
def dp (c : Nat → Int32) : Nat → Nat
  | 0 => 0
  | i + 1 => if -10 < c i then dp c i + 1 else if c i = -21 then dp c i else dp c i - 1
/-- the steps of a text of use u: what is a step, what stands on the pile before it -/
def ok_c (u : Nat) (x : Int32) (d : Nat) : Prop := 0 ≤ x ∨ x = -1 ∨ x = -2 ∨ (u = 0 ∧ x = -3) ∨ (u = 1 ∧ x = -4) ∨ (x = -21 ∧ 1 ≤ d) ∨ ((x = -11 ∨ x = -12 ∨ x = -13 ∨ x = -14 ∨ x = -15 ∨ x = -16 ∨ x = -17 ∨ x = -18 ∨ x = -19 ∨ x = -20) ∧ 2 ≤ d)
def rpn (u n : Nat) (c : Nat → Int32) : Prop := (∀ i, i < n → ok_c u (c i) (dp c i)) ∧ dp c n = 1
def by_s (c x y : Int32) : Int32 := if c = -11 then (if x ≠ 0 ∨ y ≠ 0 then 1 else 0) else if c = -12 then (if x ≠ 0 ∧ y ≠ 0 then 1 else 0) else if c = -13 then (if x < y then 1 else 0) else if c = -14 then (if x = y then 1 else 0) else if c = -15 then (if y < x then 1 else 0) else if c = -16 then x + y else if c = -17 then x - y else if c = -18 then x * y else if c = -19 then (if y = 0 then 0 else x / y) else (if y = 0 then 0 else x - x / y * y)
/-- the pile, the names k, h and the third worked in -/
def pl (c : Nat → Int32) (k h t : Int32) : Nat → Nat → Int32
  | 0 => fun _ => 0
  | i + 1 => if -10 < c i then ss (pl c k h t i) (dp c i) (if 0 ≤ c i then c i else if c i = -1 then k else if c i = -2 then h else t) else if c i = -21 then ss (pl c k h t i) (dp c i - 1) (if pl c k h t i (dp c i - 1) = 0 then 1 else 0) else ss (pl c k h t i) (dp c i - 2) (by_s (c i) (pl c k h t i (dp c i - 2)) (pl c k h t i (dp c i - 1)))
def cd (S : st_T) (u : Nat) : Nat → Int32 := fun i => S (237 + 60 * u + i)
abbrev cn (S : st_T) (u : Nat) : Nat := (S (9 + u)).toNatClampNeg
/-- a text of the row worked out -/
def ev (S : st_T) (u : Nat) (k h t : Int32) : Int32 := pl (cd S u) k h t (cn S u) 0
/-- how many bits -/
def bc (x : Int32) : Int32 := ((((((((x - ((ab_ush x (1 : Int32)) &&& (1431655765 : Int32))) &&& (858993459 : Int32)) + ((ab_ush (x - ((ab_ush x (1 : Int32)) &&& (1431655765 : Int32))) (2 : Int32)) &&& (858993459 : Int32))) + (ab_ush (((x - ((ab_ush x (1 : Int32)) &&& (1431655765 : Int32))) &&& (858993459 : Int32)) + ((ab_ush (x - ((ab_ush x (1 : Int32)) &&& (1431655765 : Int32))) (2 : Int32)) &&& (858993459 : Int32))) (4 : Int32))) &&& (252645135 : Int32))) + 0) )
def kn (S : st_T) (b : Nat) (k : Int32) : Bool := kb (S (11 + 17 * b + 3)) k
def nd (S : st_T) (b : Nat) (k : Int32) : Int32 := if S (11 + 17 * b) = 1 ∨ S (11 + 17 * b) = 4 then 1 else if S (11 + 17 * b) = 2 then hl (2 + S (11 + 17 * b + 1)) 1 99 else if S (11 + 17 * b) = 6 then hl (if S 9 = 0 then S (11 + 17 * b + 1) else ev S 0 k (bc (S (11 + 17 * b + 3))) (S (11 + 17 * b + 1))) 1 99 else 2
def py (S : st_T) (b : Nat) : Int32 := if S 10 = 0 then 1 + bc (S (11 + 17 * b + 3)) else hl (ev S 1 (S (11 + 17 * b)) (bc (S (11 + 17 * b + 3))) (if S (11 + 17 * b + 2) < 0 then 0 else S 3 - S (11 + 17 * b + 2))) 0 999
def tl (S : st_T) (b : Nat) (k : Int32) : Int32 := hl (if S (11 + 17 * b) = 3 then S (11 + 17 * b + 5 + k.toNatClampNeg) + S (11 + 17 * b + 1) else if S (11 + 17 * b) = 4 then S (11 + 17 * b + 5 + k.toNatClampNeg) + (k - k / 2 * 2) else S (11 + 17 * b + 5 + k.toNatClampNeg)) 0 999
/-- a loop of n turns from i on -/
def lp {α : Type} (f : Nat → α → α) : Nat → Nat → α → α
  | _, 0, a => a
  | i, n + 1, a => lp f (i + 1) n (f i a)
def kns (S : st_T) (k : Int32) : Int32 := lp (fun b a => a + (if kn S b k = true then 1 else 0)) 0 (cr S) 0
/-- a man learns; a new one comes; a lesson; the relief; the tasks; a day; days -/
def le (S : st_T) (c : Nat) (k v : Int32) : st_T := ss (ss S (11 + 17 * c + 3) (S (11 + 17 * c + 3) ||| (1 <<< (k &&& 31)))) (11 + 17 * c + 5 + k.toNatClampNeg) v
def cm (S : st_T) (b : Nat) (km br bk dy : Int32) : st_T := fun j => if j = 11 + 17 * b then km / 10 else if j = 11 + 17 * b + 1 then km - km / 10 * 10 else if j = 11 + 17 * b + 2 then dy else if j = 11 + 17 * b + 3 then br ||| bk else if 11 + 17 * b + 5 ≤ j ∧ j < 11 + 17 * b + 11 then (if kb br (nI (j - (11 + 17 * b + 5))) = true then 1 else 0) else if 11 + 17 * b + 11 ≤ j ∧ j < 11 + 17 * b + 17 then 0 else S j
def zn (S : st_T) : Int32 := S 6 * 1103515245 + 12345
def ls1 (dr : Bool) (b c : Nat) (k : Int32) (S1 : st_T) : st_T × Int32 :=
  if dr = true then
    (if ab_ush (zn S1) 8 - ab_ush (zn S1) 8 / 16 * 16 < S1 5 then (le (ss S1 6 (zn S1)) c k (hl (tl S1 b k + 1) 0 999), 1) else (le (ss S1 6 (zn S1)) c k (tl S1 b k), 0))
  else (le S1 c k (tl S1 b k), 0)
def nx (S : st_T) (b : Nat) : Nat := (b + 1) % cr S
def ls (dr : Bool) (b : Nat) (S : st_T) : st_T × Int32 :=
  if 0 ≤ S (11 + 17 * b + 4) ∧ kn S b (S (11 + 17 * b + 4)) = true ∧ ¬ (S (11 + 17 * b) = 2 ∨ S (11 + 17 * b) = 5) ∧ kn S (nx S b) (S (11 + 17 * b + 4)) = false then
    (if nd (ss S (11 + 17 * nx S b + 11 + (S (11 + 17 * b + 4)).toNatClampNeg) (hl (S (11 + 17 * nx S b + 11 + (S (11 + 17 * b + 4)).toNatClampNeg) + 1) 0 99)) (nx S b) (S (11 + 17 * b + 4)) ≤ hl (S (11 + 17 * nx S b + 11 + (S (11 + 17 * b + 4)).toNatClampNeg) + 1) 0 99 then
      ls1 dr b (nx S b) (S (11 + 17 * b + 4)) (ss S (11 + 17 * nx S b + 11 + (S (11 + 17 * b + 4)).toNatClampNeg) (hl (S (11 + 17 * nx S b + 11 + (S (11 + 17 * b + 4)).toNatClampNeg) + 1) 0 99))
    else (ss S (11 + 17 * nx S b + 11 + (S (11 + 17 * b + 4)).toNatClampNeg) (hl (S (11 + 17 * nx S b + 11 + (S (11 + 17 * b + 4)).toNatClampNeg) + 1) 0 99), 0))
  else (S, 0)
def rb (S : st_T) : Nat := (S 3 - S 3 / S 0 * S 0).toNatClampNeg
def ry (S : st_T) (b : Nat) : Prop := S (11 + 17 * b) = 5 ∧ S 3 - S 3 / (S (11 + 17 * b + 1) + 2) * (S (11 + 17 * b + 1) + 2) = 0
def rl1 (S : st_T) : st_T := ss (cm S (rb S) (S (113 + 2 * (S 2).toNatClampNeg)) (S (114 + 2 * (S 2).toNatClampNeg)) (S 4) (S 3)) 2 ((S 2 + 1) - (S 2 + 1) / S 1 * S 1)
noncomputable def rl (S : st_T) : st_T × Int32 := @ite _ (S 0 ≤ 0 ∨ S 1 ≤ 0 ∨ ry S (rb S)) (Classical.propDecidable _) (S, 0) (rl1 S, 1)
def tk (S : st_T) : st_T := lp (fun t S => if kns S (S (137 + 4 * t)) < S (137 + 4 * t + 1) then ss S (137 + 4 * t + 3) (hl (S (137 + 4 * t + 3) + (if S (137 + 4 * t + 1) ≤ 0 then 0 else 1)) 0 999999) else ss S (137 + 4 * t + 2) (hl (S (137 + 4 * t + 2) + (if S (137 + 4 * t + 1) ≤ 0 then 0 else 1)) 0 999999)) 0 4 S
def lss (dr : Bool) (S : st_T) : st_T × Int32 := lp (fun b x => ((ls dr b x.1).1, x.2 + (ls dr b x.1).2)) 0 (if cr S ≤ 1 then 0 else cr S) (S, 0)
noncomputable def dy (dr : Bool) (S : st_T) : st_T × Int32 × Int32 := (ss (tk (lss dr (rl S).1).1) 3 (tk (lss dr (rl S).1).1 3 + 1), (rl S).2, (lss dr (rl S).1).2)
noncomputable def dys (dr : Bool) (n : Nat) (S : st_T) : st_T × Int32 × Int32 := lp (fun _ x => ((dy dr x.1).1, x.2.1 + (dy dr x.1).2.1, x.2.2 + (dy dr x.1).2.2)) 0 n (S, 0, 0)
/-- what holds of the row at all times (D: the day's bound) -/
def VB (S : st_T) (b : Nat) : Prop := rg (S (11 + 17 * b)) 0 6 ∧ rg (S (11 + 17 * b + 1)) 0 9 ∧ rg (S (11 + 17 * b + 3)) 0 63 ∧ rg (S (11 + 17 * b + 4)) (-1) 5 ∧ ∀ k, k < 6 → rg (S (11 + 17 * b + 11 + k)) 0 99
def VT (S : st_T) (t : Nat) : Prop := rg (S (137 + 4 * t)) 0 5 ∧ rg (S (137 + 4 * t + 1)) 0 6 ∧ rg (S (137 + 4 * t + 2)) 0 999999 ∧ rg (S (137 + 4 * t + 3)) 0 999999
def VX (S : st_T) (u : Nat) : Prop := S (9 + u) = 0 ∨ (∃ n, 0 < n ∧ n ≤ 60 ∧ S (9 + u) = nI n ∧ rpn u n (cd S u))
def Vl (D : Int) (S : st_T) : Prop := rg (S 0) 0 6 ∧ rg (S 1) 0 12 ∧ (rg (S 2) 0 11 ∧ ((S 2).toInt < (S 1).toInt ∨ ((S 1).toInt = 0 ∧ (S 2).toInt = 0))) ∧ rg (S 3) 0 D ∧ rg (S 4) 0 63 ∧ rg (S 7) 0 60 ∧ rg (S 8) 0 24 ∧ (∀ b, b < cr S → VB S b) ∧ (∀ r, r < en S → rg (S (113 + 2 * r)) 0 69 ∧ rg (S (114 + 2 * r)) 0 63) ∧ (∀ t, t < 4 → VT S t) ∧ (∀ q, q < (S 7).toNatClampNeg → rg (S (153 + q)) 0 255) ∧ ∀ u, u < 2 → VX S u
