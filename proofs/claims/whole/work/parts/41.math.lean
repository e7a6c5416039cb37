/-! the road's numbers, walks, and what walks lead to, over plain numbers -/
def nN (x : Int32) : Nat := x.toNatClampNeg
def pN (S : SS) : Nat := nN (S 7 0 0)
def sN (S : SS) : Nat := nN (S 8 0 0)
def wN (S : SS) : Nat := nN (S 9 0 0)
def nu (S : SS) (k : Nat) : Nat := nN (S 10 k 0)
def kd (S : SS) (w : Nat) : Nat := nN (S 11 w 0)
def fr (S : SS) (w : Nat) : Nat := nN (S 12 w 0)
def to_ (S : SS) (w : Nat) : Nat := nN (S 13 w 0)
def WFr (S : SS) : Prop := S 7 0 0 = nI (pN S) ∧ S 8 0 0 = nI (sN S) ∧ S 9 0 0 = nI (wN S) ∧ pN S ≤ 7 ∧ pN S ≠ 1 ∧ sN S ≤ 5 ∧ wN S ≤ 5 ∧ (pN S = 0 → sN S = 0 ∧ wN S = 0) ∧ (∀ k, k < sN S → S 10 k 0 = nI (nu S k) ∧ 1 ≤ nu S k ∧ nu S k ≤ 9) ∧ (∀ k j, k < j → j < sN S → nu S k ≠ nu S j) ∧ ∀ w, w < wN S → S 11 w 0 = nI (kd S w) ∧ kd S w ≤ 5 ∧ S 12 w 0 = nI (fr S w) ∧ fr S w < pN S ∧ S 13 w 0 = nI (to_ S w) ∧ to_ S w < pN S ∧ fr S w ≠ to_ S w
def dig (c k : Nat) : Nat := c / 8 ^ k % 8
/-- a standing: its post for each stone, or 7 -/
def Cd (S : SS) (c : Nat) : Prop := c < 8 ^ sN S ∧ ∀ k, k < sN S → dig c k < pN S ∨ dig c k = 7
def hasH (S : SS) (k : Nat) : Bool := decide (nu S k ≤ pN S)
def ds (S : SS) (k p : Nat) : Nat := if nu S k ≤ pN S then (if p ≤ nu S k - 1 then nu S k - 1 - p else p - (nu S k - 1)) else 9
def ahb (S : SS) (law k j p : Nat) : Bool := if law = 1 then decide (nu S j < nu S k) else if law = 2 ∧ ds S k p ≠ ds S j p then decide (ds S j p < ds S k p) else decide (nu S k < nu S j)
/-- the stone that a law takes at a post, of the first n -/
def tkn (S : SS) (sp : Nat → Nat) (p law : Nat) : Nat → Option Nat
  | 0 => none
  | k + 1 => match tkn S sp p law k with
    | none => if sp k = p then some k else none
    | some b => if sp k = p ∧ ahb S law k b p = true then some k else some b
def tk (S : SS) (sp : Nat → Nat) (p law : Nat) : Option Nat := tkn S sp p law (sN S)
def nxt (a b : Nat) : Nat := if a < b then a + 1 else a - 1
/-- the first post from a towards b at which a stone is; b, if there is none -/
def fpo (S : SS) (sp : Nat → Nat) (law b : Nat) : Nat → Nat → Nat
  | 0, a => a
  | n + 1, a => if a = b then a else match tk S sp a law with
    | none => fpo S sp law b n (nxt a b)
    | some _ => a
/-- where stones are, how often moved, what it paid -/
abbrev TR : Type := (Nat → Nat) × (Nat → Nat) × Nat
def tput (S : SS) (t : TR) (k q : Nat) : TR := (fun j => if j = k then q else t.1 j, fun j => if j = k then t.2.1 j + 1 else t.2.1 j, t.2.2 + nu S k)
def tmv (S : SS) (law p q : Nat) : Nat → TR → TR
  | 0, t => t
  | n + 1, t => match tk S t.1 p law with
    | none => tmv S law p q n t
    | some k => tmv S law p q n (tput S t k q)
/-- from a towards b: at the first post with a stone so many are taken, to the next one or all the way -/
def crr (S : SS) (law a b much : Nat) (far : Bool) (t : TR) : TR :=
  let p := fpo S t.1 law b 8 a
  if p = b then t else tmv S law p (if far then b else nxt p b) much t
def tr0 (c : Nat) : TR := (fun k => dig c k, fun _ => 0, 0)
def cod (f : Nat → Nat) : Nat → Nat
  | 0 => 0
  | k + 1 => cod f k + f k * 8 ^ k
def bhd (S : SS) (c w law : Nat) : TR :=
  let t := tr0 c
  let a := fr S w
  let b := to_ S w
  let t1 := if kd S w = 4 then (match tk S t.1 a 1 with | none => t | some k => tput S t k 7) else crr S law a (if kd S w = 3 then nxt a b else b) (if kd S w = 1 then 3 else 1) (decide (kd S w = 5)) t
  if kd S w = 2 ∨ kd S w = 5 then crr S law b a 1 (decide (kd S w = 5)) t1 else t1
/-- the standing behind a walk -/
def nx (S : SS) (law c w : Nat) : Nat := cod (bhd S c w law).1 (sN S)
/-- how far all are apart -/
def apt (S : SS) (c : Nat) : Nat → Nat
  | 0 => 0
  | k + 1 => apt S c k + (if dig c k = 7 then 10 else if nu S k ≤ pN S then ds S k (dig c k) else 0)
def allH (S : SS) (c : Nat) : Nat → Bool
  | 0 => true
  | k + 1 => allH S c k && (decide (pN S < nu S k) || decide (dig c k + 1 = nu S k))
/-- the line of standings: how many, which, how far, by which walk from where -/
abbrev BF : Type := Nat × (Nat → Nat) × (Nat → Option Nat) × (Nat → Nat)
def bf0 (c : Nat) : BF := (1, fun _ => c, fun x => if x = c then some 0 else none, fun _ => 0)
def bfw (S : SS) (law i : Nat) (B : BF) : Nat → BF
  | 0 => B
  | w + 1 =>
    let A := bfw S law i B w
    let y := nx S law (A.2.1 i) w
    match A.2.2.1 y with
    | some _ => A
    | none => (A.1 + 1, fun j => if j = A.1 then y else A.2.1 j, fun x => if x = y then some ((A.2.2.1 (A.2.1 i)).getD 0 + 1) else A.2.2.1 x, fun x => if x = y then A.2.1 i * 8 + w else A.2.2.2 x)
def bfs (S : SS) (law c : Nat) : Nat → BF
  | 0 => bf0 c
  | i + 1 => if i < (bfs S law c i).1 then bfw S law i (bfs S law c i) (wN S) else bfs S law c i
/-- all that can be come to -/
def bfa (S : SS) (law c : Nat) : BF := bfs S law c (32769 + sN S)
