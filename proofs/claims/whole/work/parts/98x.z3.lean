/-! the frame, 3 -/
theorem z_L_X12_earn_35 {L0 : Nat} {xs0 : Nat → Int32} {Q Q' : Int32 → AH → Prop} (hQ : ∀ (y0 : Int32) (h : AH), ZZ L0 xs0 h → Q y0 h → Q' y0 h) {v0 : Nat} {v1 : Int32} {v3 : Int32} : ∀ (n : Nat) (w0 : Int32) (w1 : Int32) (h : AH), ZZ L0 xs0 h → L_X12_earn_35 Q v0 v1 v3 n w0 w1 h → L_X12_earn_35 Q' v0 v1 v3 n w0 w1 h := by
  intro n
  induction n with
  | zero => intro w0 w1 h z H; exact H.elim
  | succ n ih => intro w0 w1 h z; exact z_B_X12_earn_35 hQ ih z
theorem z_f_X12_earn {L0 : Nat} {xs0 : Nat → Int32} {Q Q' : Int32 → AH → Prop} (hQ : ∀ (y0 : Int32) (h : AH), ZZ L0 xs0 h → Q y0 h → Q' y0 h) {v0 : Nat} {v1 : Int32} {h : AH} (z : ZZ L0 xs0 h) : f_X12_earn v0 v1 h Q → f_X12_earn v0 v1 h Q' := by
  unfold f_X12_earn
  repeat' first
    | with_reducible exact hQ _ _ (by assumption)
    | with_reducible refine zm_and ?_ ?_
    | with_reducible refine zm_gI (fun x => ?_)
    | with_reducible refine zm_ex (fun x => ?_)
    | with_reducible refine z_L_X12_earn_35 (fun y0 h1 z1 => ?_) _ _ _ _ (by assumption)
    | with_reducible refine z_f_X12_in (fun y0 h1 z1 => ?_) (by assumption)
    | with_reducible refine z_f_X12_power (fun y0 h1 z1 => ?_) (by assumption)
    | with_reducible refine zm_imp (fun _ => ?_)
    | with_reducible exact id
theorem z_B_X11_refuseStanding_46 {L0 : Nat} {xs0 : Nat → Int32} {Q Q' : Int32 → AH → Prop} {K46 K46' : Int32 → AH → Prop} (hQ : ∀ (y0 : Int32) (h : AH), ZZ L0 xs0 h → Q y0 h → Q' y0 h) (hK46 : ∀ (y0 : Int32) (h : AH), ZZ L0 xs0 h → K46 y0 h → K46' y0 h) {v0 : Nat} {v3 : Nat} {v4 : Int32} {h : AH} (z : ZZ L0 xs0 h) : B_X11_refuseStanding_46 Q K46 v0 v3 v4 h → B_X11_refuseStanding_46 Q' K46' v0 v3 v4 h := by
  unfold B_X11_refuseStanding_46
  repeat' first
    | with_reducible exact hQ _ _ (by assumption)
    | with_reducible exact hK46 _ _ (by assumption)
    | with_reducible refine zm_and ?_ ?_
    | with_reducible refine zm_gI (fun x => ?_)
    | with_reducible refine zm_gR (fun x => ?_)
    | with_reducible refine z_f_X11_found (fun y0 h1 z1 => ?_) (by assumption)
    | with_reducible refine z_f_X11_isBelow (fun y0 h1 z1 => ?_) (by assumption)
    | with_reducible refine z_f_X6_get (fun y0 h1 z1 => ?_) (by assumption)
    | with_reducible refine zm_imp (fun _ => ?_)
    | with_reducible exact id
theorem z_L_X11_refuseStanding_46 {L0 : Nat} {xs0 : Nat → Int32} {Q Q' : Int32 → AH → Prop} (hQ : ∀ (y0 : Int32) (h : AH), ZZ L0 xs0 h → Q y0 h → Q' y0 h) {v0 : Nat} {v3 : Nat} : ∀ (n : Nat) (w0 : Int32) (h : AH), ZZ L0 xs0 h → L_X11_refuseStanding_46 Q v0 v3 n w0 h → L_X11_refuseStanding_46 Q' v0 v3 n w0 h := by
  intro n
  induction n with
  | zero => intro w0 h z H; exact H.elim
  | succ n ih => intro w0 h z; exact z_B_X11_refuseStanding_46 hQ ih z
theorem z_f_X11_refuseStanding {L0 : Nat} {xs0 : Nat → Int32} {Q Q' : Int32 → AH → Prop} (hQ : ∀ (y0 : Int32) (h : AH), ZZ L0 xs0 h → Q y0 h → Q' y0 h) {v0 : Nat} {v1 : Int32} {h : AH} (z : ZZ L0 xs0 h) : f_X11_refuseStanding v0 v1 h Q → f_X11_refuseStanding v0 v1 h Q' := by
  unfold f_X11_refuseStanding
  repeat' first
    | with_reducible exact hQ _ _ (by assumption)
    | with_reducible refine zm_and ?_ ?_
    | with_reducible refine zm_gI (fun x => ?_)
    | with_reducible refine zm_gR (fun x => ?_)
    | with_reducible refine zm_lQ (fun x => ?_)
    | with_reducible refine zm_ex (fun x => ?_)
    | with_reducible refine z_L_X11_refuseStanding_46 (fun y0 h1 z1 => ?_) _ _ _ (by assumption)
    | with_reducible refine z_f_X11_found (fun y0 h1 z1 => ?_) (by assumption)
    | with_reducible refine z_f_X11_refuseMissing (fun y0 h1 z1 => ?_) (by assumption)
    | with_reducible refine zm_imp (fun _ => ?_)
    | with_reducible exact id
theorem z_B_X11_standingOf_37 {L0 : Nat} {xs0 : Nat → Int32} {Q Q' : Int32 → AH → Prop} {K4 K4' : Int32 → Int32 → AH → Prop} (hQ : ∀ (y0 : Int32) (h : AH), ZZ L0 xs0 h → Q y0 h → Q' y0 h) (hK4 : ∀ (y0 : Int32) (y1 : Int32) (h : AH), ZZ L0 xs0 h → K4 y0 y1 h → K4' y0 y1 h) {v0 : Nat} {v1 : Nat} {v3 : Int32} {t0 : Int32} {t1 : Int32} {t2 : Int32} {h : AH} (z : ZZ L0 xs0 h) : B_X11_standingOf_37 Q K4 v0 v1 v3 t0 t1 t2 h → B_X11_standingOf_37 Q' K4' v0 v1 v3 t0 t1 t2 h := by
  unfold B_X11_standingOf_37
  repeat' first
    | with_reducible exact hQ _ _ (by assumption)
    | with_reducible exact hK4 _ _ _ (by assumption)
    | with_reducible refine zm_and ?_ ?_
    | with_reducible refine z_f_X5_withPost (fun y0 h1 z1 => ?_) (by assumption)
    | with_reducible refine zm_imp (fun _ => ?_)
    | with_reducible exact id
theorem z_B_X11_standingOf_4 {L0 : Nat} {xs0 : Nat → Int32} {Q Q' : Int32 → AH → Prop} {K4 K4' : Int32 → Int32 → AH → Prop} (hQ : ∀ (y0 : Int32) (h : AH), ZZ L0 xs0 h → Q y0 h → Q' y0 h) (hK4 : ∀ (y0 : Int32) (y1 : Int32) (h : AH), ZZ L0 xs0 h → K4 y0 y1 h → K4' y0 y1 h) {v0 : Nat} {v1 : Nat} {v2 : Int32} {v3 : Int32} {h : AH} (z : ZZ L0 xs0 h) : B_X11_standingOf_4 Q K4 v0 v1 v2 v3 h → B_X11_standingOf_4 Q' K4' v0 v1 v2 v3 h := by
  unfold B_X11_standingOf_4
  repeat' first
    | with_reducible exact hQ _ _ (by assumption)
    | with_reducible exact hK4 _ _ _ (by assumption)
    | with_reducible refine zm_and ?_ ?_
    | with_reducible refine zm_gI (fun x => ?_)
    | with_reducible refine zm_gR (fun x => ?_)
    | with_reducible refine z_B_X11_standingOf_37 (fun y0 h1 z1 => ?_) (fun y0 y1 h1 z1 => ?_) (by assumption)
    | with_reducible refine z_f_X6_get (fun y0 h1 z1 => ?_) (by assumption)
    | with_reducible refine zm_imp (fun _ => ?_)
    | with_reducible exact id
theorem z_L_X11_standingOf_4 {L0 : Nat} {xs0 : Nat → Int32} {Q Q' : Int32 → AH → Prop} (hQ : ∀ (y0 : Int32) (h : AH), ZZ L0 xs0 h → Q y0 h → Q' y0 h) {v0 : Nat} {v1 : Nat} : ∀ (n : Nat) (w0 : Int32) (w1 : Int32) (h : AH), ZZ L0 xs0 h → L_X11_standingOf_4 Q v0 v1 n w0 w1 h → L_X11_standingOf_4 Q' v0 v1 n w0 w1 h := by
  intro n
  induction n with
  | zero => intro w0 w1 h z H; exact H.elim
  | succ n ih => intro w0 w1 h z; exact z_B_X11_standingOf_4 hQ ih z
theorem z_f_X11_standingOf {L0 : Nat} {xs0 : Nat → Int32} {Q Q' : Int32 → AH → Prop} (hQ : ∀ (y0 : Int32) (h : AH), ZZ L0 xs0 h → Q y0 h → Q' y0 h) {v0 : Nat} {v1 : Nat} {h : AH} (z : ZZ L0 xs0 h) : f_X11_standingOf v0 v1 h Q → f_X11_standingOf v0 v1 h Q' := by
  unfold f_X11_standingOf
  repeat' first
    | with_reducible exact hQ _ _ (by assumption)
    | with_reducible refine zm_and ?_ ?_
    | with_reducible refine zm_ex (fun x => ?_)
    | with_reducible refine z_L_X11_standingOf_4 (fun y0 h1 z1 => ?_) _ _ _ _ (by assumption)
    | with_reducible refine zm_imp (fun _ => ?_)
    | with_reducible exact id
theorem z_B_X7_walkersOf_4 {L0 : Nat} {xs0 : Nat → Int32} {Q Q' : Int32 → AH → Prop} {K4 K4' : Int32 → Int32 → AH → Prop} (hQ : ∀ (y0 : Int32) (h : AH), ZZ L0 xs0 h → Q y0 h → Q' y0 h) (hK4 : ∀ (y0 : Int32) (y1 : Int32) (h : AH), ZZ L0 xs0 h → K4 y0 y1 h → K4' y0 y1 h) {v0 : Nat} {v1 : Int32} {v2 : Int32} {v3 : Int32} {h : AH} (z : ZZ L0 xs0 h) : B_X7_walkersOf_4 Q K4 v0 v1 v2 v3 h → B_X7_walkersOf_4 Q' K4' v0 v1 v2 v3 h := by
  unfold B_X7_walkersOf_4
  repeat' first
    | with_reducible exact hQ _ _ (by assumption)
    | with_reducible exact hK4 _ _ _ (by assumption)
    | with_reducible refine zm_and ?_ ?_
    | with_reducible refine zm_gR (fun x => ?_)
    | with_reducible refine zm_lI (fun x => ?_)
    | with_reducible refine zm_imp (fun _ => ?_)
    | with_reducible exact id
theorem z_L_X7_walkersOf_4 {L0 : Nat} {xs0 : Nat → Int32} {Q Q' : Int32 → AH → Prop} (hQ : ∀ (y0 : Int32) (h : AH), ZZ L0 xs0 h → Q y0 h → Q' y0 h) {v0 : Nat} {v1 : Int32} : ∀ (n : Nat) (w0 : Int32) (w1 : Int32) (h : AH), ZZ L0 xs0 h → L_X7_walkersOf_4 Q v0 v1 n w0 w1 h → L_X7_walkersOf_4 Q' v0 v1 n w0 w1 h := by
  intro n
  induction n with
  | zero => intro w0 w1 h z H; exact H.elim
  | succ n ih => intro w0 w1 h z; exact z_B_X7_walkersOf_4 hQ ih z
theorem z_f_X7_walkersOf {L0 : Nat} {xs0 : Nat → Int32} {Q Q' : Int32 → AH → Prop} (hQ : ∀ (y0 : Int32) (h : AH), ZZ L0 xs0 h → Q y0 h → Q' y0 h) {v0 : Nat} {v1 : Int32} {h : AH} (z : ZZ L0 xs0 h) : f_X7_walkersOf v0 v1 h Q → f_X7_walkersOf v0 v1 h Q' := by
  unfold f_X7_walkersOf
  repeat' first
    | with_reducible exact hQ _ _ (by assumption)
    | with_reducible refine zm_and ?_ ?_
    | with_reducible refine zm_ex (fun x => ?_)
    | with_reducible refine z_L_X7_walkersOf_4 (fun y0 h1 z1 => ?_) _ _ _ _ (by assumption)
    | with_reducible refine zm_imp (fun _ => ?_)
    | with_reducible exact id
theorem z_B_X7_compareRowsTo_117 {L0 : Nat} {xs0 : Nat → Int32} {Q Q' : AH → Prop} {K28 K28' : Int32 → AH → Prop} (hQ : ∀ (h : AH), ZZ L0 xs0 h → Q  h → Q'  h) (hK28 : ∀ (y0 : Int32) (h : AH), ZZ L0 xs0 h → K28 y0 h → K28' y0 h) {v0 : Nat} {v1 : Int32} {v2 : Int32} {v3 : Int32} {v4 : Int32} {h : AH} (z : ZZ L0 xs0 h) : B_X7_compareRowsTo_117 Q K28 v0 v1 v2 v3 v4 h → B_X7_compareRowsTo_117 Q' K28' v0 v1 v2 v3 v4 h := by
  unfold B_X7_compareRowsTo_117
  repeat' first
    | with_reducible exact hQ _ (by assumption)
    | with_reducible exact hK28 _ _ (by assumption)
    | with_reducible refine zm_and ?_ ?_
    | with_reducible refine z_f_X7_nextRow (fun  h1 z1 => ?_) (by assumption)
    | with_reducible refine zm_imp (fun _ => ?_)
    | with_reducible exact id
theorem z_B_X7_compareRowsTo_28 {L0 : Nat} {xs0 : Nat → Int32} {Q Q' : AH → Prop} {K28 K28' : Int32 → AH → Prop} (hQ : ∀ (h : AH), ZZ L0 xs0 h → Q  h → Q'  h) (hK28 : ∀ (y0 : Int32) (h : AH), ZZ L0 xs0 h → K28 y0 h → K28' y0 h) {v0 : Nat} {v1 : Int32} {v2 : Int32} {v3 : Int32} {v4 : Int32} {h : AH} (z : ZZ L0 xs0 h) : B_X7_compareRowsTo_28 Q K28 v0 v1 v2 v3 v4 h → B_X7_compareRowsTo_28 Q' K28' v0 v1 v2 v3 v4 h := by
  unfold B_X7_compareRowsTo_28
  repeat' first
    | with_reducible exact hQ _ (by assumption)
    | with_reducible exact hK28 _ _ (by assumption)
    | with_reducible refine zm_and ?_ ?_
    | with_reducible refine zm_gI (fun x => ?_)
    | with_reducible refine zm_gR (fun x => ?_)
    | with_reducible refine zm_lI (fun x => ?_)
    | with_reducible refine zm_pF (by assumption) (fun h1 z1 => ?_)
    | with_reducible refine z_B_X7_compareRowsTo_117 (fun  h1 z1 => ?_) (fun y0 h1 z1 => ?_) (by assumption)
    | with_reducible refine z_f_X7_walkersOf (fun y0 h1 z1 => ?_) (by assumption)
    | with_reducible refine z_f_X9_begin (fun  h1 z1 => ?_) (by assumption)
    | with_reducible refine z_f_X9_sendRow (fun  h1 z1 => ?_) (by assumption)
    | with_reducible refine zm_imp (fun _ => ?_)
    | with_reducible exact id
theorem z_L_X7_compareRowsTo_28 {L0 : Nat} {xs0 : Nat → Int32} {Q Q' : AH → Prop} (hQ : ∀ (h : AH), ZZ L0 xs0 h → Q  h → Q'  h) {v0 : Nat} {v1 : Int32} {v2 : Int32} {v3 : Int32} : ∀ (n : Nat) (w0 : Int32) (h : AH), ZZ L0 xs0 h → L_X7_compareRowsTo_28 Q v0 v1 v2 v3 n w0 h → L_X7_compareRowsTo_28 Q' v0 v1 v2 v3 n w0 h := by
  intro n
  induction n with
  | zero => intro w0 h z H; exact H.elim
  | succ n ih => intro w0 h z; exact z_B_X7_compareRowsTo_28 hQ ih z
theorem z_f_X7_compareRowsTo {L0 : Nat} {xs0 : Nat → Int32} {Q Q' : AH → Prop} (hQ : ∀ (h : AH), ZZ L0 xs0 h → Q  h → Q'  h) {v0 : Nat} {v1 : Int32} {v2 : Int32} {h : AH} (z : ZZ L0 xs0 h) : f_X7_compareRowsTo v0 v1 v2 h Q → f_X7_compareRowsTo v0 v1 v2 h Q' := by
  unfold f_X7_compareRowsTo
  repeat' first
    | with_reducible exact hQ _ (by assumption)
    | with_reducible refine zm_and ?_ ?_
    | with_reducible refine zm_pF (by assumption) (fun h1 z1 => ?_)
    | with_reducible refine zm_ex (fun x => ?_)
    | with_reducible refine z_L_X7_compareRowsTo_28 (fun  h1 z1 => ?_) _ _ _ (by assumption)
    | with_reducible refine z_f_X7_firstRow (fun  h1 z1 => ?_) (by assumption)
    | with_reducible refine z_f_X7_rowsOf (fun y0 h1 z1 => ?_) (by assumption)
    | with_reducible refine zm_imp (fun _ => ?_)
    | with_reducible exact id
theorem z_B_X7_fewestTo_2 {L0 : Nat} {xs0 : Nat → Int32} {Q Q' : Int32 → AH → Prop} {K2 K2' : Int32 → AH → Prop} (hQ : ∀ (y0 : Int32) (h : AH), ZZ L0 xs0 h → Q y0 h → Q' y0 h) (hK2 : ∀ (y0 : Int32) (h : AH), ZZ L0 xs0 h → K2 y0 h → K2' y0 h) {v0 : Nat} {v1 : Int32} {v2 : Int32} {h : AH} (z : ZZ L0 xs0 h) : B_X7_fewestTo_2 Q K2 v0 v1 v2 h → B_X7_fewestTo_2 Q' K2' v0 v1 v2 h := by
  unfold B_X7_fewestTo_2
  repeat' first
    | with_reducible exact hQ _ _ (by assumption)
    | with_reducible exact hK2 _ _ (by assumption)
    | with_reducible refine zm_and ?_ ?_
    | with_reducible refine zm_gI (fun x => ?_)
    | with_reducible refine z_f_X7_compareRowsTo (fun  h1 z1 => ?_) (by assumption)
    | with_reducible refine zm_imp (fun _ => ?_)
    | with_reducible exact id
theorem z_L_X7_fewestTo_2 {L0 : Nat} {xs0 : Nat → Int32} {Q Q' : Int32 → AH → Prop} (hQ : ∀ (y0 : Int32) (h : AH), ZZ L0 xs0 h → Q y0 h → Q' y0 h) {v0 : Nat} {v1 : Int32} : ∀ (n : Nat) (w0 : Int32) (h : AH), ZZ L0 xs0 h → L_X7_fewestTo_2 Q v0 v1 n w0 h → L_X7_fewestTo_2 Q' v0 v1 n w0 h := by
  intro n
  induction n with
  | zero => intro w0 h z H; exact H.elim
  | succ n ih => intro w0 h z; exact z_B_X7_fewestTo_2 hQ ih z
theorem z_f_X7_fewestTo {L0 : Nat} {xs0 : Nat → Int32} {Q Q' : Int32 → AH → Prop} (hQ : ∀ (y0 : Int32) (h : AH), ZZ L0 xs0 h → Q y0 h → Q' y0 h) {v0 : Nat} {v1 : Int32} {h : AH} (z : ZZ L0 xs0 h) : f_X7_fewestTo v0 v1 h Q → f_X7_fewestTo v0 v1 h Q' := by
  unfold f_X7_fewestTo
  repeat' first
    | with_reducible exact hQ _ _ (by assumption)
    | with_reducible refine zm_and ?_ ?_
    | with_reducible refine zm_ex (fun x => ?_)
    | with_reducible refine z_L_X7_fewestTo_2 (fun y0 h1 z1 => ?_) _ _ _ (by assumption)
    | with_reducible refine zm_imp (fun _ => ?_)
    | with_reducible exact id
theorem z_f_X11_moved {L0 : Nat} {xs0 : Nat → Int32} {Q Q' : Int32 → AH → Prop} (hQ : ∀ (y0 : Int32) (h : AH), ZZ L0 xs0 h → Q y0 h → Q' y0 h) {v0 : Nat} {v1 : Int32} {h : AH} (z : ZZ L0 xs0 h) : f_X11_moved v0 v1 h Q → f_X11_moved v0 v1 h Q' := by
  unfold f_X11_moved
  repeat' first
    | with_reducible exact hQ _ _ (by assumption)
    | with_reducible refine zm_and ?_ ?_
    | with_reducible refine zm_gI (fun x => ?_)
    | with_reducible refine zm_gR (fun x => ?_)
    | with_reducible refine zm_lQ (fun x => ?_)
    | with_reducible refine zm_pF (by assumption) (fun h1 z1 => ?_)
    | with_reducible refine z_f_X11_refuseStanding (fun y0 h1 z1 => ?_) (by assumption)
    | with_reducible refine z_f_X11_standingOf (fun y0 h1 z1 => ?_) (by assumption)
    | with_reducible refine z_f_X7_fewestTo (fun y0 h1 z1 => ?_) (by assumption)
    | with_reducible refine z_f_X7_from (fun  h1 z1 => ?_) (by assumption)
    | with_reducible refine zm_imp (fun _ => ?_)
    | with_reducible exact id
theorem z_B_X12_bars_86 {L0 : Nat} {xs0 : Nat → Int32} {Q Q' : Int32 → AH → Prop} {K33 K33' : Int32 → AH → Prop} (hQ : ∀ (y0 : Int32) (h : AH), ZZ L0 xs0 h → Q y0 h → Q' y0 h) (hK33 : ∀ (y0 : Int32) (h : AH), ZZ L0 xs0 h → K33 y0 h → K33' y0 h) {v0 : Nat} {v1 : Int32} {v2 : Int32} {t0 : Nat} {t1 : Int32} {t2 : Int32} {h : AH} (z : ZZ L0 xs0 h) : B_X12_bars_86 Q K33 v0 v1 v2 t0 t1 t2 h → B_X12_bars_86 Q' K33' v0 v1 v2 t0 t1 t2 h := by
  unfold B_X12_bars_86
  repeat' first
    | with_reducible exact hQ _ _ (by assumption)
    | with_reducible exact hK33 _ _ (by assumption)
    | with_reducible refine zm_and ?_ ?_
    | with_reducible refine zm_pF (by assumption) (fun h1 z1 => ?_)
    | with_reducible refine zm_imp (fun _ => ?_)
    | with_reducible exact id
theorem z_B_X12_bars_69 {L0 : Nat} {xs0 : Nat → Int32} {Q Q' : Int32 → AH → Prop} {K33 K33' : Int32 → AH → Prop} (hQ : ∀ (y0 : Int32) (h : AH), ZZ L0 xs0 h → Q y0 h → Q' y0 h) (hK33 : ∀ (y0 : Int32) (h : AH), ZZ L0 xs0 h → K33 y0 h → K33' y0 h) {v0 : Nat} {v1 : Int32} {v2 : Int32} {v3 : Int32} {h : AH} (z : ZZ L0 xs0 h) : B_X12_bars_69 Q K33 v0 v1 v2 v3 h → B_X12_bars_69 Q' K33' v0 v1 v2 v3 h := by
  unfold B_X12_bars_69
  repeat' first
    | with_reducible exact hQ _ _ (by assumption)
    | with_reducible exact hK33 _ _ (by assumption)
    | with_reducible refine zm_and ?_ ?_
    | with_reducible refine zm_gI (fun x => ?_)
    | with_reducible refine z_B_X12_bars_86 (fun y0 h1 z1 => ?_) (fun y0 h1 z1 => ?_) (by assumption)
    | with_reducible refine zm_imp (fun _ => ?_)
    | with_reducible exact id
theorem z_B_X12_bars_33 {L0 : Nat} {xs0 : Nat → Int32} {Q Q' : Int32 → AH → Prop} {K33 K33' : Int32 → AH → Prop} (hQ : ∀ (y0 : Int32) (h : AH), ZZ L0 xs0 h → Q y0 h → Q' y0 h) (hK33 : ∀ (y0 : Int32) (h : AH), ZZ L0 xs0 h → K33 y0 h → K33' y0 h) {v0 : Nat} {v1 : Int32} {v2 : Int32} {h : AH} (z : ZZ L0 xs0 h) : B_X12_bars_33 Q K33 v0 v1 v2 h → B_X12_bars_33 Q' K33' v0 v1 v2 h := by
  unfold B_X12_bars_33
  repeat' first
    | with_reducible exact hQ _ _ (by assumption)
    | with_reducible exact hK33 _ _ (by assumption)
    | with_reducible refine zm_and ?_ ?_
    | with_reducible refine zm_gI (fun x => ?_)
    | with_reducible refine zm_gR (fun x => ?_)
    | with_reducible refine zm_lI (fun x => ?_)
    | with_reducible refine z_B_X12_bars_69 (fun y0 h1 z1 => ?_) (fun y0 h1 z1 => ?_) (by assumption)
    | with_reducible refine z_f_X12_isPost (fun y0 h1 z1 => ?_) (by assumption)
    | with_reducible refine zm_imp (fun _ => ?_)
    | with_reducible exact id
theorem z_L_X12_bars_33 {L0 : Nat} {xs0 : Nat → Int32} {Q Q' : Int32 → AH → Prop} (hQ : ∀ (y0 : Int32) (h : AH), ZZ L0 xs0 h → Q y0 h → Q' y0 h) {v0 : Nat} {v1 : Int32} : ∀ (n : Nat) (w0 : Int32) (h : AH), ZZ L0 xs0 h → L_X12_bars_33 Q v0 v1 n w0 h → L_X12_bars_33 Q' v0 v1 n w0 h := by
  intro n
  induction n with
  | zero => intro w0 h z H; exact H.elim
  | succ n ih => intro w0 h z; exact z_B_X12_bars_33 hQ ih z
theorem z_f_X12_bars {L0 : Nat} {xs0 : Nat → Int32} {Q Q' : Int32 → AH → Prop} (hQ : ∀ (y0 : Int32) (h : AH), ZZ L0 xs0 h → Q y0 h → Q' y0 h) {v0 : Nat} {v1 : Int32} {h : AH} (z : ZZ L0 xs0 h) : f_X12_bars v0 v1 h Q → f_X12_bars v0 v1 h Q' := by
  unfold f_X12_bars
  repeat' first
    | with_reducible exact hQ _ _ (by assumption)
    | with_reducible refine zm_and ?_ ?_
    | with_reducible refine zm_gI (fun x => ?_)
    | with_reducible refine zm_gR (fun x => ?_)
    | with_reducible refine zm_lI (fun x => ?_)
    | with_reducible refine zm_pF (by assumption) (fun h1 z1 => ?_)
    | with_reducible refine zm_ex (fun x => ?_)
    | with_reducible refine z_L_X12_bars_33 (fun y0 h1 z1 => ?_) _ _ _ (by assumption)
    | with_reducible refine zm_imp (fun _ => ?_)
    | with_reducible exact id
theorem z_B_X12_looks_64 {L0 : Nat} {xs0 : Nat → Int32} {Q Q' : AH → Prop} {K25 K25' : Int32 → AH → Prop} {K64 K64' : Int32 → Int32 → Int32 → AH → Prop} (hQ : ∀ (h : AH), ZZ L0 xs0 h → Q  h → Q'  h) (hK25 : ∀ (y0 : Int32) (h : AH), ZZ L0 xs0 h → K25 y0 h → K25' y0 h) (hK64 : ∀ (y0 : Int32) (y1 : Int32) (y2 : Int32) (h : AH), ZZ L0 xs0 h → K64 y0 y1 y2 h → K64' y0 y1 y2 h) {v0 : Nat} {v1 : Int32} {v2 : Int32} {v3 : Int32} {v4 : Int32} {v5 : Int32} {v6 : Int32} {v7 : Int32} {h : AH} (z : ZZ L0 xs0 h) : B_X12_looks_64 Q K25 K64 v0 v1 v2 v3 v4 v5 v6 v7 h → B_X12_looks_64 Q' K25' K64' v0 v1 v2 v3 v4 v5 v6 v7 h := by
  unfold B_X12_looks_64
  repeat' first
    | with_reducible exact hQ _ (by assumption)
    | with_reducible exact hK25 _ _ (by assumption)
    | with_reducible exact hK64 _ _ _ _ (by assumption)
    | with_reducible refine zm_and ?_ ?_
    | with_reducible refine zm_gI (fun x => ?_)
    | with_reducible refine zm_pF (by assumption) (fun h1 z1 => ?_)
    | with_reducible refine zm_imp (fun _ => ?_)
    | with_reducible exact id
theorem z_L_X12_looks_64 {L0 : Nat} {xs0 : Nat → Int32} {Q Q' : AH → Prop} {K25 K25' : Int32 → AH → Prop} (hQ : ∀ (h : AH), ZZ L0 xs0 h → Q  h → Q'  h) (hK25 : ∀ (y0 : Int32) (h : AH), ZZ L0 xs0 h → K25 y0 h → K25' y0 h) {v0 : Nat} {v1 : Int32} {v2 : Int32} {v3 : Int32} {v4 : Int32} : ∀ (n : Nat) (w0 : Int32) (w1 : Int32) (w2 : Int32) (h : AH), ZZ L0 xs0 h → L_X12_looks_64 Q K25 v0 v1 v2 v3 v4 n w0 w1 w2 h → L_X12_looks_64 Q' K25' v0 v1 v2 v3 v4 n w0 w1 w2 h := by
  intro n
  induction n with
  | zero => intro w0 w1 w2 h z H; exact H.elim
  | succ n ih => intro w0 w1 w2 h z; exact z_B_X12_looks_64 hQ hK25 ih z
theorem z_B_X12_looks_25 {L0 : Nat} {xs0 : Nat → Int32} {Q Q' : AH → Prop} {K25 K25' : Int32 → AH → Prop} (hQ : ∀ (h : AH), ZZ L0 xs0 h → Q  h → Q'  h) (hK25 : ∀ (y0 : Int32) (h : AH), ZZ L0 xs0 h → K25 y0 h → K25' y0 h) {v0 : Nat} {v1 : Int32} {v2 : Int32} {v3 : Int32} {v4 : Int32} {h : AH} (z : ZZ L0 xs0 h) : B_X12_looks_25 Q K25 v0 v1 v2 v3 v4 h → B_X12_looks_25 Q' K25' v0 v1 v2 v3 v4 h := by
  unfold B_X12_looks_25
  repeat' first
    | with_reducible exact hQ _ (by assumption)
    | with_reducible exact hK25 _ _ (by assumption)
    | with_reducible refine zm_and ?_ ?_
    | with_reducible refine zm_gI (fun x => ?_)
    | with_reducible refine zm_pF (by assumption) (fun h1 z1 => ?_)
    | with_reducible refine zm_ex (fun x => ?_)
    | with_reducible refine z_L_X12_looks_64 (fun  h1 z1 => ?_) (fun y0 h1 z1 => ?_) _ _ _ _ _ (by assumption)
    | with_reducible refine z_f_X12_behindRow (fun y0 h1 z1 => ?_) (by assumption)
    | with_reducible refine zm_imp (fun _ => ?_)
    | with_reducible exact id
theorem z_L_X12_looks_25 {L0 : Nat} {xs0 : Nat → Int32} {Q Q' : AH → Prop} (hQ : ∀ (h : AH), ZZ L0 xs0 h → Q  h → Q'  h) {v0 : Nat} {v1 : Int32} {v2 : Int32} {v3 : Int32} : ∀ (n : Nat) (w0 : Int32) (h : AH), ZZ L0 xs0 h → L_X12_looks_25 Q v0 v1 v2 v3 n w0 h → L_X12_looks_25 Q' v0 v1 v2 v3 n w0 h := by
  intro n
  induction n with
  | zero => intro w0 h z H; exact H.elim
  | succ n ih => intro w0 h z; exact z_B_X12_looks_25 hQ ih z
theorem z_f_X12_looks {L0 : Nat} {xs0 : Nat → Int32} {Q Q' : AH → Prop} (hQ : ∀ (h : AH), ZZ L0 xs0 h → Q  h → Q'  h) {v0 : Nat} {v1 : Int32} {v2 : Int32} {h : AH} (z : ZZ L0 xs0 h) : f_X12_looks v0 v1 v2 h Q → f_X12_looks v0 v1 v2 h Q' := by
  unfold f_X12_looks
  repeat' first
    | with_reducible exact hQ _ (by assumption)
    | with_reducible refine zm_and ?_ ?_
    | with_reducible refine zm_pF (by assumption) (fun h1 z1 => ?_)
    | with_reducible refine zm_ex (fun x => ?_)
    | with_reducible refine z_L_X12_looks_25 (fun  h1 z1 => ?_) _ _ _ (by assumption)
    | with_reducible refine z_f_X12_power (fun y0 h1 z1 => ?_) (by assumption)
    | with_reducible refine zm_imp (fun _ => ?_)
    | with_reducible exact id
theorem z_B_X12_fewestTo_2 {L0 : Nat} {xs0 : Nat → Int32} {Q Q' : Int32 → AH → Prop} {K2 K2' : Int32 → AH → Prop} (hQ : ∀ (y0 : Int32) (h : AH), ZZ L0 xs0 h → Q y0 h → Q' y0 h) (hK2 : ∀ (y0 : Int32) (h : AH), ZZ L0 xs0 h → K2 y0 h → K2' y0 h) {v0 : Nat} {v1 : Int32} {h : AH} (z : ZZ L0 xs0 h) : B_X12_fewestTo_2 Q K2 v0 v1 h → B_X12_fewestTo_2 Q' K2' v0 v1 h := by
  unfold B_X12_fewestTo_2
  repeat' first
    | with_reducible exact hQ _ _ (by assumption)
    | with_reducible exact hK2 _ _ (by assumption)
    | with_reducible refine zm_and ?_ ?_
    | with_reducible refine zm_gI (fun x => ?_)
    | with_reducible refine z_f_X12_looks (fun  h1 z1 => ?_) (by assumption)
    | with_reducible refine zm_imp (fun _ => ?_)
    | with_reducible exact id
theorem z_L_X12_fewestTo_2 {L0 : Nat} {xs0 : Nat → Int32} {Q Q' : Int32 → AH → Prop} (hQ : ∀ (y0 : Int32) (h : AH), ZZ L0 xs0 h → Q y0 h → Q' y0 h) {v0 : Nat} : ∀ (n : Nat) (w0 : Int32) (h : AH), ZZ L0 xs0 h → L_X12_fewestTo_2 Q v0 n w0 h → L_X12_fewestTo_2 Q' v0 n w0 h := by
  intro n
  induction n with
  | zero => intro w0 h z H; exact H.elim
  | succ n ih => intro w0 h z; exact z_B_X12_fewestTo_2 hQ ih z
theorem z_f_X12_fewestTo {L0 : Nat} {xs0 : Nat → Int32} {Q Q' : Int32 → AH → Prop} (hQ : ∀ (y0 : Int32) (h : AH), ZZ L0 xs0 h → Q y0 h → Q' y0 h) {v0 : Nat} {h : AH} (z : ZZ L0 xs0 h) : f_X12_fewestTo v0 h Q → f_X12_fewestTo v0 h Q' := by
  unfold f_X12_fewestTo
  repeat' first
    | with_reducible exact hQ _ _ (by assumption)
    | with_reducible refine zm_and ?_ ?_
    | with_reducible refine zm_ex (fun x => ?_)
    | with_reducible refine z_L_X12_fewestTo_2 (fun y0 h1 z1 => ?_) _ _ _ (by assumption)
    | with_reducible refine zm_imp (fun _ => ?_)
    | with_reducible exact id
theorem z_f_X12_moved {L0 : Nat} {xs0 : Nat → Int32} {Q Q' : Int32 → AH → Prop} (hQ : ∀ (y0 : Int32) (h : AH), ZZ L0 xs0 h → Q y0 h → Q' y0 h) {v0 : Nat} {v1 : Int32} {h : AH} (z : ZZ L0 xs0 h) : f_X12_moved v0 v1 h Q → f_X12_moved v0 v1 h Q' := by
  unfold f_X12_moved
  repeat' first
    | with_reducible exact hQ _ _ (by assumption)
    | with_reducible refine zm_and ?_ ?_
    | with_reducible refine zm_gI (fun x => ?_)
    | with_reducible refine zm_pF (by assumption) (fun h1 z1 => ?_)
    | with_reducible refine z_f_X12_bars (fun y0 h1 z1 => ?_) (by assumption)
    | with_reducible refine z_f_X12_fewestTo (fun y0 h1 z1 => ?_) (by assumption)
    | with_reducible refine z_f_X12_find (fun y0 h1 z1 => ?_) (by assumption)
    | with_reducible refine z_f_X12_isRow (fun y0 h1 z1 => ?_) (by assumption)
    | with_reducible refine zm_imp (fun _ => ?_)
    | with_reducible exact id
theorem z_f_X11_who {L0 : Nat} {xs0 : Nat → Int32} {Q Q' : Int32 → AH → Prop} (hQ : ∀ (y0 : Int32) (h : AH), ZZ L0 xs0 h → Q y0 h → Q' y0 h) {v0 : Nat} {v1 : Int32} {h : AH} (z : ZZ L0 xs0 h) : f_X11_who v0 v1 h Q → f_X11_who v0 v1 h Q' := by
  unfold f_X11_who
  repeat' first
    | with_reducible exact hQ _ _ (by assumption)
    | with_reducible refine zm_and ?_ ?_
    | with_reducible refine zm_gI (fun x => ?_)
    | with_reducible refine zm_gR (fun x => ?_)
    | with_reducible refine zm_lQ (fun x => ?_)
    | with_reducible refine zm_pF (by assumption) (fun h1 z1 => ?_)
    | with_reducible refine z_f_X11_refuseStanding (fun y0 h1 z1 => ?_) (by assumption)
    | with_reducible refine z_f_X11_standingOf (fun y0 h1 z1 => ?_) (by assumption)
    | with_reducible refine z_f_X7_fewestTo (fun y0 h1 z1 => ?_) (by assumption)
    | with_reducible refine z_f_X7_from (fun  h1 z1 => ?_) (by assumption)
    | with_reducible refine zm_imp (fun _ => ?_)
    | with_reducible exact id
theorem z_f_X12_who {L0 : Nat} {xs0 : Nat → Int32} {Q Q' : Int32 → AH → Prop} (hQ : ∀ (y0 : Int32) (h : AH), ZZ L0 xs0 h → Q y0 h → Q' y0 h) {v0 : Nat} {v1 : Int32} {h : AH} (z : ZZ L0 xs0 h) : f_X12_who v0 v1 h Q → f_X12_who v0 v1 h Q' := by
  unfold f_X12_who
  repeat' first
    | with_reducible exact hQ _ _ (by assumption)
    | with_reducible refine zm_and ?_ ?_
    | with_reducible refine zm_gI (fun x => ?_)
    | with_reducible refine zm_pF (by assumption) (fun h1 z1 => ?_)
    | with_reducible refine z_f_X12_bars (fun y0 h1 z1 => ?_) (by assumption)
    | with_reducible refine z_f_X12_fewestTo (fun y0 h1 z1 => ?_) (by assumption)
    | with_reducible refine z_f_X12_find (fun y0 h1 z1 => ?_) (by assumption)
    | with_reducible refine z_f_X12_isRow (fun y0 h1 z1 => ?_) (by assumption)
    | with_reducible refine zm_imp (fun _ => ?_)
    | with_reducible exact id
theorem z_B_X7_rowsWith_73 {L0 : Nat} {xs0 : Nat → Int32} {Q Q' : Int32 → AH → Prop} {K17 K17' : Int32 → Int32 → AH → Prop} (hQ : ∀ (y0 : Int32) (h : AH), ZZ L0 xs0 h → Q y0 h → Q' y0 h) (hK17 : ∀ (y0 : Int32) (y1 : Int32) (h : AH), ZZ L0 xs0 h → K17 y0 y1 h → K17' y0 y1 h) {v0 : Nat} {v1 : Int32} {v2 : Int32} {v3 : Int32} {v4 : Int32} {v5 : Int32} {v6 : Int32} {h : AH} (z : ZZ L0 xs0 h) : B_X7_rowsWith_73 Q K17 v0 v1 v2 v3 v4 v5 v6 h → B_X7_rowsWith_73 Q' K17' v0 v1 v2 v3 v4 v5 v6 h := by
  unfold B_X7_rowsWith_73
  repeat' first
    | with_reducible exact hQ _ _ (by assumption)
    | with_reducible exact hK17 _ _ _ (by assumption)
    | with_reducible refine zm_and ?_ ?_
    | with_reducible refine z_f_X7_nextRow (fun  h1 z1 => ?_) (by assumption)
    | with_reducible refine zm_imp (fun _ => ?_)
    | with_reducible exact id
theorem z_B_X7_rowsWith_17 {L0 : Nat} {xs0 : Nat → Int32} {Q Q' : Int32 → AH → Prop} {K17 K17' : Int32 → Int32 → AH → Prop} (hQ : ∀ (y0 : Int32) (h : AH), ZZ L0 xs0 h → Q y0 h → Q' y0 h) (hK17 : ∀ (y0 : Int32) (y1 : Int32) (h : AH), ZZ L0 xs0 h → K17 y0 y1 h → K17' y0 y1 h) {v0 : Nat} {v1 : Int32} {v2 : Int32} {v3 : Int32} {v5 : Int32} {v4 : Int32} {v6 : Int32} {h : AH} (z : ZZ L0 xs0 h) : B_X7_rowsWith_17 Q K17 v0 v1 v2 v3 v5 v4 v6 h → B_X7_rowsWith_17 Q' K17' v0 v1 v2 v3 v5 v4 v6 h := by
  unfold B_X7_rowsWith_17
  repeat' first
    | with_reducible exact hQ _ _ (by assumption)
    | with_reducible exact hK17 _ _ _ (by assumption)
    | with_reducible refine zm_and ?_ ?_
    | with_reducible refine zm_gI (fun x => ?_)
    | with_reducible refine zm_gR (fun x => ?_)
    | with_reducible refine z_B_X7_rowsWith_73 (fun y0 h1 z1 => ?_) (fun y0 y1 h1 z1 => ?_) (by assumption)
    | with_reducible refine z_f_X5_tellPost (fun y0 h1 z1 => ?_) (by assumption)
    | with_reducible refine z_f_X9_begin (fun  h1 z1 => ?_) (by assumption)
    | with_reducible refine z_f_X9_sendRow (fun  h1 z1 => ?_) (by assumption)
    | with_reducible refine zm_imp (fun _ => ?_)
    | with_reducible exact id
theorem z_L_X7_rowsWith_17 {L0 : Nat} {xs0 : Nat → Int32} {Q Q' : Int32 → AH → Prop} (hQ : ∀ (y0 : Int32) (h : AH), ZZ L0 xs0 h → Q y0 h → Q' y0 h) {v0 : Nat} {v1 : Int32} {v2 : Int32} {v3 : Int32} {v5 : Int32} : ∀ (n : Nat) (w0 : Int32) (w1 : Int32) (h : AH), ZZ L0 xs0 h → L_X7_rowsWith_17 Q v0 v1 v2 v3 v5 n w0 w1 h → L_X7_rowsWith_17 Q' v0 v1 v2 v3 v5 n w0 w1 h := by
  intro n
  induction n with
  | zero => intro w0 w1 h z H; exact H.elim
  | succ n ih => intro w0 w1 h z; exact z_B_X7_rowsWith_17 hQ ih z
theorem z_f_X7_rowsWith {L0 : Nat} {xs0 : Nat → Int32} {Q Q' : Int32 → AH → Prop} (hQ : ∀ (y0 : Int32) (h : AH), ZZ L0 xs0 h → Q y0 h → Q' y0 h) {v0 : Nat} {v1 : Int32} {v2 : Int32} {v3 : Int32} {h : AH} (z : ZZ L0 xs0 h) : f_X7_rowsWith v0 v1 v2 v3 h Q → f_X7_rowsWith v0 v1 v2 v3 h Q' := by
  unfold f_X7_rowsWith
  repeat' first
    | with_reducible exact hQ _ _ (by assumption)
    | with_reducible refine zm_and ?_ ?_
    | with_reducible refine zm_ex (fun x => ?_)
    | with_reducible refine z_L_X7_rowsWith_17 (fun y0 h1 z1 => ?_) _ _ _ _ (by assumption)
    | with_reducible refine z_f_X7_firstRow (fun  h1 z1 => ?_) (by assumption)
    | with_reducible refine z_f_X7_rowsOf (fun y0 h1 z1 => ?_) (by assumption)
    | with_reducible refine zm_imp (fun _ => ?_)
    | with_reducible exact id
theorem z_B_X11_tellFraction_39 {L0 : Nat} {xs0 : Nat → Int32} {Q Q' : AH → Prop} (hQ : ∀ (h : AH), ZZ L0 xs0 h → Q  h → Q'  h) {v0 : Nat} {v1 : Int32} {v2 : Int32} {v3 : Int32} {h : AH} (z : ZZ L0 xs0 h) : B_X11_tellFraction_39 Q v0 v1 v2 v3 h → B_X11_tellFraction_39 Q' v0 v1 v2 v3 h := by
  unfold B_X11_tellFraction_39
  repeat' first
    | with_reducible exact hQ _ (by assumption)
    | with_reducible refine zm_and ?_ ?_
    | with_reducible refine zm_pF (by assumption) (fun h1 z1 => ?_)
    | with_reducible refine zm_imp (fun _ => ?_)
    | with_reducible exact id
theorem z_B_X11_tellFraction_8 {L0 : Nat} {xs0 : Nat → Int32} {Q Q' : AH → Prop} {K8 K8' : Int32 → Int32 → Int32 → AH → Prop} (hQ : ∀ (h : AH), ZZ L0 xs0 h → Q  h → Q'  h) (hK8 : ∀ (y0 : Int32) (y1 : Int32) (y2 : Int32) (h : AH), ZZ L0 xs0 h → K8 y0 y1 y2 h → K8' y0 y1 y2 h) {v0 : Nat} {v1 : Int32} {v2 : Int32} {v3 : Int32} {v4 : Int32} {v5 : Int32} {h : AH} (z : ZZ L0 xs0 h) : B_X11_tellFraction_8 Q K8 v0 v1 v2 v3 v4 v5 h → B_X11_tellFraction_8 Q' K8' v0 v1 v2 v3 v4 v5 h := by
  unfold B_X11_tellFraction_8
  repeat' first
    | with_reducible exact hQ _ (by assumption)
    | with_reducible exact hK8 _ _ _ _ (by assumption)
    | with_reducible refine zm_and ?_ ?_
    | with_reducible refine z_B_X11_tellFraction_39 (fun  h1 z1 => ?_) (by assumption)
    | with_reducible refine zm_imp (fun _ => ?_)
    | with_reducible exact id
theorem z_L_X11_tellFraction_8 {L0 : Nat} {xs0 : Nat → Int32} {Q Q' : AH → Prop} (hQ : ∀ (h : AH), ZZ L0 xs0 h → Q  h → Q'  h) {v0 : Nat} {v1 : Int32} {v2 : Int32} : ∀ (n : Nat) (w0 : Int32) (w1 : Int32) (w2 : Int32) (h : AH), ZZ L0 xs0 h → L_X11_tellFraction_8 Q v0 v1 v2 n w0 w1 w2 h → L_X11_tellFraction_8 Q' v0 v1 v2 n w0 w1 w2 h := by
  intro n
  induction n with
  | zero => intro w0 w1 w2 h z H; exact H.elim
  | succ n ih => intro w0 w1 w2 h z; exact z_B_X11_tellFraction_8 hQ ih z
theorem z_f_X11_tellFraction {L0 : Nat} {xs0 : Nat → Int32} {Q Q' : AH → Prop} (hQ : ∀ (h : AH), ZZ L0 xs0 h → Q  h → Q'  h) {v0 : Nat} {v1 : Int32} {v2 : Int32} {h : AH} (z : ZZ L0 xs0 h) : f_X11_tellFraction v0 v1 v2 h Q → f_X11_tellFraction v0 v1 v2 h Q' := by
  unfold f_X11_tellFraction
  repeat' first
    | with_reducible exact hQ _ (by assumption)
    | with_reducible refine zm_and ?_ ?_
    | with_reducible refine zm_ex (fun x => ?_)
    | with_reducible refine z_L_X11_tellFraction_8 (fun  h1 z1 => ?_) _ _ _ _ _ (by assumption)
    | with_reducible refine zm_imp (fun _ => ?_)
    | with_reducible exact id
theorem z_B_X11_odds_65 {L0 : Nat} {xs0 : Nat → Int32} {Q Q' : Int32 → AH → Prop} (hQ : ∀ (y0 : Int32) (h : AH), ZZ L0 xs0 h → Q y0 h → Q' y0 h) {v0 : Nat} {v1 : Int32} {v2 : Int32} {v3 : Int32} {h : AH} (z : ZZ L0 xs0 h) : B_X11_odds_65 Q v0 v1 v2 v3 h → B_X11_odds_65 Q' v0 v1 v2 v3 h := by
  unfold B_X11_odds_65
  repeat' first
    | with_reducible exact hQ _ _ (by assumption)
    | with_reducible refine zm_and ?_ ?_
    | with_reducible refine zm_gI (fun x => ?_)
    | with_reducible refine zm_gR (fun x => ?_)
    | with_reducible refine z_f_X11_tellFraction (fun  h1 z1 => ?_) (by assumption)
    | with_reducible refine z_f_X7_from (fun  h1 z1 => ?_) (by assumption)
    | with_reducible refine z_f_X7_rowsOf (fun y0 h1 z1 => ?_) (by assumption)
    | with_reducible refine z_f_X7_rowsWith (fun y0 h1 z1 => ?_) (by assumption)
    | with_reducible refine zm_imp (fun _ => ?_)
    | with_reducible exact id
theorem z_B_X11_odds_45 {L0 : Nat} {xs0 : Nat → Int32} {Q Q' : Int32 → AH → Prop} (hQ : ∀ (y0 : Int32) (h : AH), ZZ L0 xs0 h → Q y0 h → Q' y0 h) {v0 : Nat} {v1 : Int32} {v2 : Int32} {v3 : Int32} {h : AH} (z : ZZ L0 xs0 h) : B_X11_odds_45 Q v0 v1 v2 v3 h → B_X11_odds_45 Q' v0 v1 v2 v3 h := by
  unfold B_X11_odds_45
  repeat' first
    | with_reducible exact hQ _ _ (by assumption)
    | with_reducible refine zm_and ?_ ?_
    | with_reducible refine zm_gI (fun x => ?_)
    | with_reducible refine zm_gR (fun x => ?_)
    | with_reducible refine z_B_X11_odds_65 (fun y0 h1 z1 => ?_) (by assumption)
    | with_reducible refine z_f_X11_found (fun y0 h1 z1 => ?_) (by assumption)
    | with_reducible refine zm_imp (fun _ => ?_)
    | with_reducible exact id
theorem z_f_X11_odds {L0 : Nat} {xs0 : Nat → Int32} {Q Q' : Int32 → AH → Prop} (hQ : ∀ (y0 : Int32) (h : AH), ZZ L0 xs0 h → Q y0 h → Q' y0 h) {v0 : Nat} {v1 : Int32} {v2 : Int32} {v3 : Int32} {h : AH} (z : ZZ L0 xs0 h) : f_X11_odds v0 v1 v2 v3 h Q → f_X11_odds v0 v1 v2 v3 h Q' := by
  unfold f_X11_odds
  repeat' first
    | with_reducible exact hQ _ _ (by assumption)
    | with_reducible refine zm_and ?_ ?_
    | with_reducible refine zm_gI (fun x => ?_)
    | with_reducible refine zm_gR (fun x => ?_)
    | with_reducible refine z_B_X11_odds_45 (fun y0 h1 z1 => ?_) (by assumption)
    | with_reducible refine z_f_X11_isBelow (fun y0 h1 z1 => ?_) (by assumption)
    | with_reducible refine zm_imp (fun _ => ?_)
    | with_reducible exact id
theorem z_B_X12_odds_115 {L0 : Nat} {xs0 : Nat → Int32} {Q Q' : Int32 → AH → Prop} {K115 K115' : Int32 → Int32 → AH → Prop} (hQ : ∀ (y0 : Int32) (h : AH), ZZ L0 xs0 h → Q y0 h → Q' y0 h) (hK115 : ∀ (y0 : Int32) (y1 : Int32) (h : AH), ZZ L0 xs0 h → K115 y0 y1 h → K115' y0 y1 h) {v0 : Nat} {v4 : Int32} {v5 : Int32} {v6 : Int32} {v7 : Int32} {h : AH} (z : ZZ L0 xs0 h) : B_X12_odds_115 Q K115 v0 v4 v5 v6 v7 h → B_X12_odds_115 Q' K115' v0 v4 v5 v6 v7 h := by
  unfold B_X12_odds_115
  repeat' first
    | with_reducible exact hQ _ _ (by assumption)
    | with_reducible exact hK115 _ _ _ (by assumption)
    | with_reducible refine zm_and ?_ ?_
    | with_reducible refine zm_pF (by assumption) (fun h1 z1 => ?_)
    | with_reducible refine zm_imp (fun _ => ?_)
    | with_reducible exact id
theorem z_L_X12_odds_115 {L0 : Nat} {xs0 : Nat → Int32} {Q Q' : Int32 → AH → Prop} (hQ : ∀ (y0 : Int32) (h : AH), ZZ L0 xs0 h → Q y0 h → Q' y0 h) {v0 : Nat} {v4 : Int32} {v5 : Int32} : ∀ (n : Nat) (w0 : Int32) (w1 : Int32) (h : AH), ZZ L0 xs0 h → L_X12_odds_115 Q v0 v4 v5 n w0 w1 h → L_X12_odds_115 Q' v0 v4 v5 n w0 w1 h := by
  intro n
  induction n with
  | zero => intro w0 w1 h z H; exact H.elim
  | succ n ih => intro w0 w1 h z; exact z_B_X12_odds_115 hQ ih z
theorem z_B_X12_odds_66 {L0 : Nat} {xs0 : Nat → Int32} {Q Q' : Int32 → AH → Prop} {K66 K66' : Int32 → Int32 → AH → Prop} (hQ : ∀ (y0 : Int32) (h : AH), ZZ L0 xs0 h → Q y0 h → Q' y0 h) (hK66 : ∀ (y0 : Int32) (y1 : Int32) (h : AH), ZZ L0 xs0 h → K66 y0 y1 h → K66' y0 y1 h) {v0 : Nat} {v1 : Int32} {v2 : Int32} {v3 : Int32} {v4 : Int32} {v5 : Int32} {v6 : Int32} {h : AH} (z : ZZ L0 xs0 h) : B_X12_odds_66 Q K66 v0 v1 v2 v3 v4 v5 v6 h → B_X12_odds_66 Q' K66' v0 v1 v2 v3 v4 v5 v6 h := by
  unfold B_X12_odds_66
  repeat' first
    | with_reducible exact hQ _ _ (by assumption)
    | with_reducible exact hK66 _ _ _ (by assumption)
    | with_reducible refine zm_and ?_ ?_
    | with_reducible refine zm_ex (fun x => ?_)
    | with_reducible refine z_L_X12_odds_115 (fun y0 h1 z1 => ?_) _ _ _ _ (by assumption)
    | with_reducible refine z_f_X12_behindRow (fun y0 h1 z1 => ?_) (by assumption)
    | with_reducible refine z_f_X12_spotOf (fun y0 h1 z1 => ?_) (by assumption)
    | with_reducible refine z_f_X12_told (fun y0 h1 z1 => ?_) (by assumption)
    | with_reducible refine zm_imp (fun _ => ?_)
    | with_reducible exact id
theorem z_L_X12_odds_66 {L0 : Nat} {xs0 : Nat → Int32} {Q Q' : Int32 → AH → Prop} (hQ : ∀ (y0 : Int32) (h : AH), ZZ L0 xs0 h → Q y0 h → Q' y0 h) {v0 : Nat} {v1 : Int32} {v2 : Int32} {v3 : Int32} {v4 : Int32} : ∀ (n : Nat) (w0 : Int32) (w1 : Int32) (h : AH), ZZ L0 xs0 h → L_X12_odds_66 Q v0 v1 v2 v3 v4 n w0 w1 h → L_X12_odds_66 Q' v0 v1 v2 v3 v4 n w0 w1 h := by
  intro n
  induction n with
  | zero => intro w0 w1 h z H; exact H.elim
  | succ n ih => intro w0 w1 h z; exact z_B_X12_odds_66 hQ ih z
theorem z_B_X12_odds_53 {L0 : Nat} {xs0 : Nat → Int32} {Q Q' : Int32 → AH → Prop} (hQ : ∀ (y0 : Int32) (h : AH), ZZ L0 xs0 h → Q y0 h → Q' y0 h) {v0 : Nat} {v1 : Int32} {v2 : Int32} {v3 : Int32} {h : AH} (z : ZZ L0 xs0 h) : B_X12_odds_53 Q v0 v1 v2 v3 h → B_X12_odds_53 Q' v0 v1 v2 v3 h := by
  unfold B_X12_odds_53
  repeat' first
    | with_reducible exact hQ _ _ (by assumption)
    | with_reducible refine zm_and ?_ ?_
    | with_reducible refine zm_ex (fun x => ?_)
    | with_reducible refine z_L_X12_odds_66 (fun y0 h1 z1 => ?_) _ _ _ _ (by assumption)
    | with_reducible refine z_f_X12_power (fun y0 h1 z1 => ?_) (by assumption)
    | with_reducible refine zm_imp (fun _ => ?_)
    | with_reducible exact id
theorem z_B_X12_odds_22 {L0 : Nat} {xs0 : Nat → Int32} {Q Q' : Int32 → AH → Prop} (hQ : ∀ (y0 : Int32) (h : AH), ZZ L0 xs0 h → Q y0 h → Q' y0 h) {v0 : Nat} {v1 : Int32} {v2 : Int32} {v3 : Int32} {h : AH} (z : ZZ L0 xs0 h) : B_X12_odds_22 Q v0 v1 v2 v3 h → B_X12_odds_22 Q' v0 v1 v2 v3 h := by
  unfold B_X12_odds_22
  repeat' first
    | with_reducible exact hQ _ _ (by assumption)
    | with_reducible refine zm_and ?_ ?_
    | with_reducible refine zm_gI (fun x => ?_)
    | with_reducible refine z_B_X12_odds_53 (fun y0 h1 z1 => ?_) (by assumption)
    | with_reducible refine z_f_X12_find (fun y0 h1 z1 => ?_) (by assumption)
    | with_reducible refine z_f_X12_in (fun y0 h1 z1 => ?_) (by assumption)
    | with_reducible refine zm_imp (fun _ => ?_)
    | with_reducible exact id
theorem z_f_X12_odds {L0 : Nat} {xs0 : Nat → Int32} {Q Q' : Int32 → AH → Prop} (hQ : ∀ (y0 : Int32) (h : AH), ZZ L0 xs0 h → Q y0 h → Q' y0 h) {v0 : Nat} {v1 : Int32} {v2 : Int32} {v3 : Int32} {h : AH} (z : ZZ L0 xs0 h) : f_X12_odds v0 v1 v2 v3 h Q → f_X12_odds v0 v1 v2 v3 h Q' := by
  unfold f_X12_odds
  repeat' first
    | with_reducible exact hQ _ _ (by assumption)
    | with_reducible refine zm_and ?_ ?_
    | with_reducible refine z_B_X12_odds_22 (fun y0 h1 z1 => ?_) (by assumption)
    | with_reducible refine z_f_X12_isPost (fun y0 h1 z1 => ?_) (by assumption)
    | with_reducible refine z_f_X12_isStone (fun y0 h1 z1 => ?_) (by assumption)
    | with_reducible refine zm_imp (fun _ => ?_)
    | with_reducible exact id
theorem z_B_X5_fullestPost_4 {L0 : Nat} {xs0 : Nat → Int32} {Q Q' : Int32 → AH → Prop} {K4 K4' : Int32 → Int32 → AH → Prop} (hQ : ∀ (y0 : Int32) (h : AH), ZZ L0 xs0 h → Q y0 h → Q' y0 h) (hK4 : ∀ (y0 : Int32) (y1 : Int32) (h : AH), ZZ L0 xs0 h → K4 y0 y1 h → K4' y0 y1 h) {v0 : Nat} {v1 : Int32} {v2 : Int32} {v3 : Int32} {h : AH} (z : ZZ L0 xs0 h) : B_X5_fullestPost_4 Q K4 v0 v1 v2 v3 h → B_X5_fullestPost_4 Q' K4' v0 v1 v2 v3 h := by
  unfold B_X5_fullestPost_4
  repeat' first
    | with_reducible exact hQ _ _ (by assumption)
    | with_reducible exact hK4 _ _ _ (by assumption)
    | with_reducible refine zm_and ?_ ?_
    | with_reducible refine zm_gI (fun x => ?_)
    | with_reducible refine z_f_X5_heapAt (fun y0 h1 z1 => ?_) (by assumption)
    | with_reducible refine zm_imp (fun _ => ?_)
    | with_reducible exact id
theorem z_L_X5_fullestPost_4 {L0 : Nat} {xs0 : Nat → Int32} {Q Q' : Int32 → AH → Prop} (hQ : ∀ (y0 : Int32) (h : AH), ZZ L0 xs0 h → Q y0 h → Q' y0 h) {v0 : Nat} {v1 : Int32} : ∀ (n : Nat) (w0 : Int32) (w1 : Int32) (h : AH), ZZ L0 xs0 h → L_X5_fullestPost_4 Q v0 v1 n w0 w1 h → L_X5_fullestPost_4 Q' v0 v1 n w0 w1 h := by
  intro n
  induction n with
  | zero => intro w0 w1 h z H; exact H.elim
  | succ n ih => intro w0 w1 h z; exact z_B_X5_fullestPost_4 hQ ih z
theorem z_f_X5_fullestPost {L0 : Nat} {xs0 : Nat → Int32} {Q Q' : Int32 → AH → Prop} (hQ : ∀ (y0 : Int32) (h : AH), ZZ L0 xs0 h → Q y0 h → Q' y0 h) {v0 : Nat} {v1 : Int32} {h : AH} (z : ZZ L0 xs0 h) : f_X5_fullestPost v0 v1 h Q → f_X5_fullestPost v0 v1 h Q' := by
  unfold f_X5_fullestPost
  repeat' first
    | with_reducible exact hQ _ _ (by assumption)
    | with_reducible refine zm_and ?_ ?_
    | with_reducible refine zm_ex (fun x => ?_)
    | with_reducible refine z_L_X5_fullestPost_4 (fun y0 h1 z1 => ?_) _ _ _ _ (by assumption)
    | with_reducible refine zm_imp (fun _ => ?_)
    | with_reducible exact id
theorem z_B_X11_years_69 {L0 : Nat} {xs0 : Nat → Int32} {Q Q' : Int32 → AH → Prop} {K69 K69' : Int64 → Int32 → AH → Prop} (hQ : ∀ (y0 : Int32) (h : AH), ZZ L0 xs0 h → Q y0 h → Q' y0 h) (hK69 : ∀ (y0 : Int64) (y1 : Int32) (h : AH), ZZ L0 xs0 h → K69 y0 y1 h → K69' y0 y1 h) {v0 : Nat} {v1 : Int32} {v3 : Int64} {v5 : Int32} {h : AH} (z : ZZ L0 xs0 h) : B_X11_years_69 Q K69 v0 v1 v3 v5 h → B_X11_years_69 Q' K69' v0 v1 v3 v5 h := by
  unfold B_X11_years_69
  repeat' first
    | with_reducible exact hQ _ _ (by assumption)
    | with_reducible exact hK69 _ _ _ (by assumption)
    | with_reducible refine zm_and ?_ ?_
    | with_reducible refine zm_gI (fun x => ?_)
    | with_reducible refine zm_gR (fun x => ?_)
    | with_reducible refine zm_pF (by assumption) (fun h1 z1 => ?_)
    | with_reducible refine z_f_X5_farFromHome (fun y0 h1 z1 => ?_) (by assumption)
    | with_reducible refine z_f_X5_fullestPost (fun y0 h1 z1 => ?_) (by assumption)
    | with_reducible refine z_f_X9_send (fun  h1 z1 => ?_) (by assumption)
    | with_reducible refine zm_imp (fun _ => ?_)
    | with_reducible exact id
theorem z_L_X11_years_69 {L0 : Nat} {xs0 : Nat → Int32} {Q Q' : Int32 → AH → Prop} (hQ : ∀ (y0 : Int32) (h : AH), ZZ L0 xs0 h → Q y0 h → Q' y0 h) {v0 : Nat} {v1 : Int32} : ∀ (n : Nat) (w0 : Int64) (w1 : Int32) (h : AH), ZZ L0 xs0 h → L_X11_years_69 Q v0 v1 n w0 w1 h → L_X11_years_69 Q' v0 v1 n w0 w1 h := by
  intro n
  induction n with
  | zero => intro w0 w1 h z H; exact H.elim
  | succ n ih => intro w0 w1 h z; exact z_B_X11_years_69 hQ ih z
theorem z_f_X11_years {L0 : Nat} {xs0 : Nat → Int32} {Q Q' : Int32 → AH → Prop} (hQ : ∀ (y0 : Int32) (h : AH), ZZ L0 xs0 h → Q y0 h → Q' y0 h) {v0 : Nat} {v1 : Int32} {v2 : Int32} {h : AH} (z : ZZ L0 xs0 h) : f_X11_years v0 v1 v2 h Q → f_X11_years v0 v1 v2 h Q' := by
  unfold f_X11_years
  repeat' first
    | with_reducible exact hQ _ _ (by assumption)
    | with_reducible refine zm_and ?_ ?_
    | with_reducible refine zm_gI (fun x => ?_)
    | with_reducible refine zm_gR (fun x => ?_)
    | with_reducible refine zm_ex (fun x => ?_)
    | with_reducible refine z_L_X11_years_69 (fun y0 h1 z1 => ?_) _ _ _ _ (by assumption)
    | with_reducible refine z_f_X11_found (fun y0 h1 z1 => ?_) (by assumption)
    | with_reducible refine z_f_X9_begin (fun  h1 z1 => ?_) (by assumption)
    | with_reducible refine zm_imp (fun _ => ?_)
    | with_reducible exact id
theorem z_B_X12_years_115 {L0 : Nat} {xs0 : Nat → Int32} {Q Q' : Int32 → AH → Prop} {K100 K100' : Int32 → Int32 → AH → Prop} {K115 K115' : Int32 → Int32 → AH → Prop} (hQ : ∀ (y0 : Int32) (h : AH), ZZ L0 xs0 h → Q y0 h → Q' y0 h) (hK100 : ∀ (y0 : Int32) (y1 : Int32) (h : AH), ZZ L0 xs0 h → K100 y0 y1 h → K100' y0 y1 h) (hK115 : ∀ (y0 : Int32) (y1 : Int32) (h : AH), ZZ L0 xs0 h → K115 y0 y1 h → K115' y0 y1 h) {v0 : Nat} {v3 : Int32} {v6 : Int32} {v7 : Int32} {v8 : Int32} {v9 : Int32} {h : AH} (z : ZZ L0 xs0 h) : B_X12_years_115 Q K100 K115 v0 v3 v6 v7 v8 v9 h → B_X12_years_115 Q' K100' K115' v0 v3 v6 v7 v8 v9 h := by
  unfold B_X12_years_115
  repeat' first
    | with_reducible exact hQ _ _ (by assumption)
    | with_reducible exact hK100 _ _ _ (by assumption)
    | with_reducible exact hK115 _ _ _ (by assumption)
    | with_reducible refine zm_and ?_ ?_
    | with_reducible refine zm_gI (fun x => ?_)
    | with_reducible refine zm_pF (by assumption) (fun h1 z1 => ?_)
    | with_reducible refine z_f_X12_spotOf (fun y0 h1 z1 => ?_) (by assumption)
    | with_reducible refine zm_imp (fun _ => ?_)
    | with_reducible exact id
theorem z_L_X12_years_115 {L0 : Nat} {xs0 : Nat → Int32} {Q Q' : Int32 → AH → Prop} {K100 K100' : Int32 → Int32 → AH → Prop} (hQ : ∀ (y0 : Int32) (h : AH), ZZ L0 xs0 h → Q y0 h → Q' y0 h) (hK100 : ∀ (y0 : Int32) (y1 : Int32) (h : AH), ZZ L0 xs0 h → K100 y0 y1 h → K100' y0 y1 h) {v0 : Nat} {v3 : Int32} {v6 : Int32} {v7 : Int32} : ∀ (n : Nat) (w0 : Int32) (w1 : Int32) (h : AH), ZZ L0 xs0 h → L_X12_years_115 Q K100 v0 v3 v6 v7 n w0 w1 h → L_X12_years_115 Q' K100' v0 v3 v6 v7 n w0 w1 h := by
  intro n
  induction n with
  | zero => intro w0 w1 h z H; exact H.elim
  | succ n ih => intro w0 w1 h z; exact z_B_X12_years_115 hQ hK100 ih z
theorem z_B_X12_years_100 {L0 : Nat} {xs0 : Nat → Int32} {Q Q' : Int32 → AH → Prop} {K100 K100' : Int32 → Int32 → AH → Prop} (hQ : ∀ (y0 : Int32) (h : AH), ZZ L0 xs0 h → Q y0 h → Q' y0 h) (hK100 : ∀ (y0 : Int32) (y1 : Int32) (h : AH), ZZ L0 xs0 h → K100 y0 y1 h → K100' y0 y1 h) {v0 : Nat} {v3 : Int32} {v6 : Int32} {v7 : Int32} {h : AH} (z : ZZ L0 xs0 h) : B_X12_years_100 Q K100 v0 v3 v6 v7 h → B_X12_years_100 Q' K100' v0 v3 v6 v7 h := by
  unfold B_X12_years_100
  repeat' first
    | with_reducible exact hQ _ _ (by assumption)
    | with_reducible exact hK100 _ _ _ (by assumption)
    | with_reducible refine zm_and ?_ ?_
    | with_reducible refine zm_gI (fun x => ?_)
    | with_reducible refine zm_ex (fun x => ?_)
    | with_reducible refine z_L_X12_years_115 (fun y0 h1 z1 => ?_) (fun y0 y1 h1 z1 => ?_) _ _ _ _ (by assumption)
    | with_reducible refine z_f_X12_apartOf (fun y0 h1 z1 => ?_) (by assumption)
    | with_reducible refine zm_imp (fun _ => ?_)
    | with_reducible exact id
theorem z_L_X12_years_100 {L0 : Nat} {xs0 : Nat → Int32} {Q Q' : Int32 → AH → Prop} (hQ : ∀ (y0 : Int32) (h : AH), ZZ L0 xs0 h → Q y0 h → Q' y0 h) {v0 : Nat} {v3 : Int32} : ∀ (n : Nat) (w0 : Int32) (w1 : Int32) (h : AH), ZZ L0 xs0 h → L_X12_years_100 Q v0 v3 n w0 w1 h → L_X12_years_100 Q' v0 v3 n w0 w1 h := by
  intro n
  induction n with
  | zero => intro w0 w1 h z H; exact H.elim
  | succ n ih => intro w0 w1 h z; exact z_B_X12_years_100 hQ ih z
theorem z_B_X12_years_51 {L0 : Nat} {xs0 : Nat → Int32} {Q Q' : Int32 → AH → Prop} {K51 K51' : Int32 → Int64 → Int32 → AH → Prop} (hQ : ∀ (y0 : Int32) (h : AH), ZZ L0 xs0 h → Q y0 h → Q' y0 h) (hK51 : ∀ (y0 : Int32) (y1 : Int64) (y2 : Int32) (h : AH), ZZ L0 xs0 h → K51 y0 y1 y2 h → K51' y0 y1 y2 h) {v0 : Nat} {v1 : Int32} {v3 : Int32} {v4 : Int64} {v6 : Int32} {h : AH} (z : ZZ L0 xs0 h) : B_X12_years_51 Q K51 v0 v1 v3 v4 v6 h → B_X12_years_51 Q' K51' v0 v1 v3 v4 v6 h := by
  unfold B_X12_years_51
  repeat' first
    | with_reducible exact hQ _ _ (by assumption)
    | with_reducible exact hK51 _ _ _ _ (by assumption)
    | with_reducible refine zm_and ?_ ?_
    | with_reducible refine zm_gI (fun x => ?_)
    | with_reducible refine zm_ex (fun x => ?_)
    | with_reducible refine z_L_X12_years_100 (fun y0 h1 z1 => ?_) _ _ _ _ (by assumption)
    | with_reducible refine z_f_X12_behind (fun y0 h1 z1 => ?_) (by assumption)
    | with_reducible refine zm_imp (fun _ => ?_)
    | with_reducible exact id
theorem z_L_X12_years_51 {L0 : Nat} {xs0 : Nat → Int32} {Q Q' : Int32 → AH → Prop} (hQ : ∀ (y0 : Int32) (h : AH), ZZ L0 xs0 h → Q y0 h → Q' y0 h) {v0 : Nat} {v1 : Int32} : ∀ (n : Nat) (w0 : Int32) (w1 : Int64) (w2 : Int32) (h : AH), ZZ L0 xs0 h → L_X12_years_51 Q v0 v1 n w0 w1 w2 h → L_X12_years_51 Q' v0 v1 n w0 w1 w2 h := by
  intro n
  induction n with
  | zero => intro w0 w1 w2 h z H; exact H.elim
  | succ n ih => intro w0 w1 w2 h z; exact z_B_X12_years_51 hQ ih z
theorem z_f_X12_years {L0 : Nat} {xs0 : Nat → Int32} {Q Q' : Int32 → AH → Prop} (hQ : ∀ (y0 : Int32) (h : AH), ZZ L0 xs0 h → Q y0 h → Q' y0 h) {v0 : Nat} {v1 : Int32} {v2 : Int32} {h : AH} (z : ZZ L0 xs0 h) : f_X12_years v0 v1 v2 h Q → f_X12_years v0 v1 v2 h Q' := by
  unfold f_X12_years
  repeat' first
    | with_reducible exact hQ _ _ (by assumption)
    | with_reducible refine zm_and ?_ ?_
    | with_reducible refine zm_gI (fun x => ?_)
    | with_reducible refine zm_ex (fun x => ?_)
    | with_reducible refine z_L_X12_years_51 (fun y0 h1 z1 => ?_) _ _ _ _ _ (by assumption)
    | with_reducible refine z_f_X12_find (fun y0 h1 z1 => ?_) (by assumption)
    | with_reducible refine z_f_X12_in (fun y0 h1 z1 => ?_) (by assumption)
    | with_reducible refine zm_imp (fun _ => ?_)
    | with_reducible exact id
theorem z_f_X11_asked {L0 : Nat} {xs0 : Nat → Int32} {Q Q' : Int32 → AH → Prop} (hQ : ∀ (y0 : Int32) (h : AH), ZZ L0 xs0 h → Q y0 h → Q' y0 h) {v0 : Nat} {h : AH} (z : ZZ L0 xs0 h) : f_X11_asked v0 h Q → f_X11_asked v0 h Q' := by
  unfold f_X11_asked
  repeat' first
    | with_reducible exact hQ _ _ (by assumption)
    | with_reducible refine zm_and ?_ ?_
    | with_reducible refine zm_gI (fun x => ?_)
    | with_reducible refine zm_imp (fun _ => ?_)
    | with_reducible exact id
theorem z_f_X12_asked {L0 : Nat} {xs0 : Nat → Int32} {Q Q' : Int32 → AH → Prop} (hQ : ∀ (y0 : Int32) (h : AH), ZZ L0 xs0 h → Q y0 h → Q' y0 h) {v0 : Nat} {h : AH} (z : ZZ L0 xs0 h) : f_X12_asked v0 h Q → f_X12_asked v0 h Q' := by
  unfold f_X12_asked
  repeat' first
    | with_reducible exact hQ _ _ (by assumption)
    | with_reducible refine zm_and ?_ ?_
    | with_reducible refine zm_gI (fun x => ?_)
    | with_reducible refine zm_imp (fun _ => ?_)
    | with_reducible exact id
theorem z_f_X11_upper {L0 : Nat} {xs0 : Nat → Int32} {Q Q' : Int64 → AH → Prop} (hQ : ∀ (y0 : Int64) (h : AH), ZZ L0 xs0 h → Q y0 h → Q' y0 h) {v0 : Nat} {h : AH} (z : ZZ L0 xs0 h) : f_X11_upper v0 h Q → f_X11_upper v0 h Q' := by
  unfold f_X11_upper
  repeat' first
    | with_reducible exact hQ _ _ (by assumption)
    | with_reducible refine zm_and ?_ ?_
    | with_reducible refine zm_gL (fun x => ?_)
    | with_reducible refine zm_imp (fun _ => ?_)
    | with_reducible exact id
theorem z_f_X12_upper {L0 : Nat} {xs0 : Nat → Int32} {Q Q' : Int64 → AH → Prop} (hQ : ∀ (y0 : Int64) (h : AH), ZZ L0 xs0 h → Q y0 h → Q' y0 h) {v0 : Nat} {h : AH} (z : ZZ L0 xs0 h) : f_X12_upper v0 h Q → f_X12_upper v0 h Q' := by
  unfold f_X12_upper
  repeat' first
    | with_reducible exact hQ _ _ (by assumption)
    | with_reducible refine zm_and ?_ ?_
    | with_reducible refine zm_gL (fun x => ?_)
    | with_reducible refine zm_imp (fun _ => ?_)
    | with_reducible exact id
theorem z_f_X11_lower {L0 : Nat} {xs0 : Nat → Int32} {Q Q' : Int64 → AH → Prop} (hQ : ∀ (y0 : Int64) (h : AH), ZZ L0 xs0 h → Q y0 h → Q' y0 h) {v0 : Nat} {h : AH} (z : ZZ L0 xs0 h) : f_X11_lower v0 h Q → f_X11_lower v0 h Q' := by
  unfold f_X11_lower
  repeat' first
    | with_reducible exact hQ _ _ (by assumption)
    | with_reducible refine zm_and ?_ ?_
    | with_reducible refine zm_gL (fun x => ?_)
    | with_reducible refine zm_imp (fun _ => ?_)
    | with_reducible exact id
theorem z_f_X12_lower {L0 : Nat} {xs0 : Nat → Int32} {Q Q' : Int64 → AH → Prop} (hQ : ∀ (y0 : Int64) (h : AH), ZZ L0 xs0 h → Q y0 h → Q' y0 h) {v0 : Nat} {h : AH} (z : ZZ L0 xs0 h) : f_X12_lower v0 h Q → f_X12_lower v0 h Q' := by
  unfold f_X12_lower
  repeat' first
    | with_reducible exact hQ _ _ (by assumption)
    | with_reducible refine zm_and ?_ ?_
    | with_reducible refine zm_gL (fun x => ?_)
    | with_reducible refine zm_imp (fun _ => ?_)
    | with_reducible exact id
theorem z_B_X5_bothWays_4 {L0 : Nat} {xs0 : Nat → Int32} {Q Q' : Int32 → AH → Prop} {K4 K4' : Int32 → Int32 → AH → Prop} (hQ : ∀ (y0 : Int32) (h : AH), ZZ L0 xs0 h → Q y0 h → Q' y0 h) (hK4 : ∀ (y0 : Int32) (y1 : Int32) (h : AH), ZZ L0 xs0 h → K4 y0 y1 h → K4' y0 y1 h) {v0 : Nat} {v1 : Int32} {v2 : Int32} {h : AH} (z : ZZ L0 xs0 h) : B_X5_bothWays_4 Q K4 v0 v1 v2 h → B_X5_bothWays_4 Q' K4' v0 v1 v2 h := by
  unfold B_X5_bothWays_4
  repeat' first
    | with_reducible exact hQ _ _ (by assumption)
    | with_reducible exact hK4 _ _ _ (by assumption)
    | with_reducible refine zm_and ?_ ?_
    | with_reducible refine zm_gI (fun x => ?_)
    | with_reducible refine zm_gR (fun x => ?_)
    | with_reducible refine zm_lQ (fun x => ?_)
    | with_reducible refine zm_iB (fun x => ?_)
    | with_reducible refine zm_imp (fun _ => ?_)
    | with_reducible exact id
theorem z_L_X5_bothWays_4 {L0 : Nat} {xs0 : Nat → Int32} {Q Q' : Int32 → AH → Prop} (hQ : ∀ (y0 : Int32) (h : AH), ZZ L0 xs0 h → Q y0 h → Q' y0 h) {v0 : Nat} : ∀ (n : Nat) (w0 : Int32) (w1 : Int32) (h : AH), ZZ L0 xs0 h → L_X5_bothWays_4 Q v0 n w0 w1 h → L_X5_bothWays_4 Q' v0 n w0 w1 h := by
  intro n
  induction n with
  | zero => intro w0 w1 h z H; exact H.elim
  | succ n ih => intro w0 w1 h z; exact z_B_X5_bothWays_4 hQ ih z
theorem z_f_X5_bothWays {L0 : Nat} {xs0 : Nat → Int32} {Q Q' : Int32 → AH → Prop} (hQ : ∀ (y0 : Int32) (h : AH), ZZ L0 xs0 h → Q y0 h → Q' y0 h) {v0 : Nat} {h : AH} (z : ZZ L0 xs0 h) : f_X5_bothWays v0 h Q → f_X5_bothWays v0 h Q' := by
  unfold f_X5_bothWays
  repeat' first
    | with_reducible exact hQ _ _ (by assumption)
    | with_reducible refine zm_and ?_ ?_
    | with_reducible refine zm_ex (fun x => ?_)
    | with_reducible refine z_L_X5_bothWays_4 (fun y0 h1 z1 => ?_) _ _ _ _ (by assumption)
    | with_reducible refine zm_imp (fun _ => ?_)
    | with_reducible exact id
theorem z_B_X11_thereOf_4 {L0 : Nat} {xs0 : Nat → Int32} {Q Q' : Int32 → AH → Prop} {K4 K4' : Int32 → Int32 → AH → Prop} (hQ : ∀ (y0 : Int32) (h : AH), ZZ L0 xs0 h → Q y0 h → Q' y0 h) (hK4 : ∀ (y0 : Int32) (y1 : Int32) (h : AH), ZZ L0 xs0 h → K4 y0 y1 h → K4' y0 y1 h) {v0 : Nat} {v1 : Int32} {v2 : Int32} {h : AH} (z : ZZ L0 xs0 h) : B_X11_thereOf_4 Q K4 v0 v1 v2 h → B_X11_thereOf_4 Q' K4' v0 v1 v2 h := by
  unfold B_X11_thereOf_4
  repeat' first
    | with_reducible exact hQ _ _ (by assumption)
    | with_reducible exact hK4 _ _ _ (by assumption)
    | with_reducible refine zm_and ?_ ?_
    | with_reducible refine zm_lQ (fun x => ?_)
    | with_reducible refine zm_aL (fun x => ?_)
    | with_reducible refine z_f_X6_isMissing (fun y0 h1 z1 => ?_) (by assumption)
    | with_reducible refine zm_imp (fun _ => ?_)
    | with_reducible exact id
theorem z_L_X11_thereOf_4 {L0 : Nat} {xs0 : Nat → Int32} {Q Q' : Int32 → AH → Prop} (hQ : ∀ (y0 : Int32) (h : AH), ZZ L0 xs0 h → Q y0 h → Q' y0 h) {v0 : Nat} : ∀ (n : Nat) (w0 : Int32) (w1 : Int32) (h : AH), ZZ L0 xs0 h → L_X11_thereOf_4 Q v0 n w0 w1 h → L_X11_thereOf_4 Q' v0 n w0 w1 h := by
  intro n
  induction n with
  | zero => intro w0 w1 h z H; exact H.elim
  | succ n ih => intro w0 w1 h z; exact z_B_X11_thereOf_4 hQ ih z
theorem z_f_X11_thereOf {L0 : Nat} {xs0 : Nat → Int32} {Q Q' : Int32 → AH → Prop} (hQ : ∀ (y0 : Int32) (h : AH), ZZ L0 xs0 h → Q y0 h → Q' y0 h) {v0 : Nat} {h : AH} (z : ZZ L0 xs0 h) : f_X11_thereOf v0 h Q → f_X11_thereOf v0 h Q' := by
  unfold f_X11_thereOf
  repeat' first
    | with_reducible exact hQ _ _ (by assumption)
    | with_reducible refine zm_and ?_ ?_
    | with_reducible refine zm_ex (fun x => ?_)
    | with_reducible refine z_L_X11_thereOf_4 (fun y0 h1 z1 => ?_) _ _ _ _ (by assumption)
    | with_reducible refine zm_imp (fun _ => ?_)
    | with_reducible exact id
theorem z_B_X5_lameOnes_4 {L0 : Nat} {xs0 : Nat → Int32} {Q Q' : Int32 → AH → Prop} {K4 K4' : Int32 → Int32 → AH → Prop} (hQ : ∀ (y0 : Int32) (h : AH), ZZ L0 xs0 h → Q y0 h → Q' y0 h) (hK4 : ∀ (y0 : Int32) (y1 : Int32) (h : AH), ZZ L0 xs0 h → K4 y0 y1 h → K4' y0 y1 h) {v0 : Nat} {v1 : Int32} {v2 : Int32} {h : AH} (z : ZZ L0 xs0 h) : B_X5_lameOnes_4 Q K4 v0 v1 v2 h → B_X5_lameOnes_4 Q' K4' v0 v1 v2 h := by
  unfold B_X5_lameOnes_4
  repeat' first
    | with_reducible exact hQ _ _ (by assumption)
    | with_reducible exact hK4 _ _ _ (by assumption)
    | with_reducible refine zm_and ?_ ?_
    | with_reducible refine zm_gI (fun x => ?_)
    | with_reducible refine zm_gR (fun x => ?_)
    | with_reducible refine zm_lQ (fun x => ?_)
    | with_reducible refine zm_iLm (fun x => ?_)
    | with_reducible refine zm_imp (fun _ => ?_)
    | with_reducible exact id
theorem z_L_X5_lameOnes_4 {L0 : Nat} {xs0 : Nat → Int32} {Q Q' : Int32 → AH → Prop} (hQ : ∀ (y0 : Int32) (h : AH), ZZ L0 xs0 h → Q y0 h → Q' y0 h) {v0 : Nat} : ∀ (n : Nat) (w0 : Int32) (w1 : Int32) (h : AH), ZZ L0 xs0 h → L_X5_lameOnes_4 Q v0 n w0 w1 h → L_X5_lameOnes_4 Q' v0 n w0 w1 h := by
  intro n
  induction n with
  | zero => intro w0 w1 h z H; exact H.elim
  | succ n ih => intro w0 w1 h z; exact z_B_X5_lameOnes_4 hQ ih z
theorem z_f_X5_lameOnes {L0 : Nat} {xs0 : Nat → Int32} {Q Q' : Int32 → AH → Prop} (hQ : ∀ (y0 : Int32) (h : AH), ZZ L0 xs0 h → Q y0 h → Q' y0 h) {v0 : Nat} {h : AH} (z : ZZ L0 xs0 h) : f_X5_lameOnes v0 h Q → f_X5_lameOnes v0 h Q' := by
  unfold f_X5_lameOnes
  repeat' first
    | with_reducible exact hQ _ _ (by assumption)
    | with_reducible refine zm_and ?_ ?_
    | with_reducible refine zm_ex (fun x => ?_)
    | with_reducible refine z_L_X5_lameOnes_4 (fun y0 h1 z1 => ?_) _ _ _ _ (by assumption)
    | with_reducible refine zm_imp (fun _ => ?_)
    | with_reducible exact id
theorem z_f_X11_count {L0 : Nat} {xs0 : Nat → Int32} {Q Q' : Int32 → AH → Prop} (hQ : ∀ (y0 : Int32) (h : AH), ZZ L0 xs0 h → Q y0 h → Q' y0 h) {v0 : Nat} {v1 : Int32} {h : AH} (z : ZZ L0 xs0 h) : f_X11_count v0 v1 h Q → f_X11_count v0 v1 h Q' := by
  unfold f_X11_count
  repeat' first
    | with_reducible exact hQ _ _ (by assumption)
    | with_reducible refine zm_and ?_ ?_
    | with_reducible refine zm_gI (fun x => ?_)
    | with_reducible refine zm_gR (fun x => ?_)
    | with_reducible refine z_f_X11_thereOf (fun y0 h1 z1 => ?_) (by assumption)
    | with_reducible refine z_f_X5_bothWays (fun y0 h1 z1 => ?_) (by assumption)
    | with_reducible refine z_f_X5_lameOnes (fun y0 h1 z1 => ?_) (by assumption)
    | with_reducible refine z_f_X5_lostOf (fun y0 h1 z1 => ?_) (by assumption)
    | with_reducible refine zm_imp (fun _ => ?_)
    | with_reducible exact id
theorem z_B_X12_ofKind_4 {L0 : Nat} {xs0 : Nat → Int32} {Q Q' : Int32 → AH → Prop} {K4 K4' : Int32 → Int32 → AH → Prop} (hQ : ∀ (y0 : Int32) (h : AH), ZZ L0 xs0 h → Q y0 h → Q' y0 h) (hK4 : ∀ (y0 : Int32) (y1 : Int32) (h : AH), ZZ L0 xs0 h → K4 y0 y1 h → K4' y0 y1 h) {v0 : Nat} {v1 : Int32} {v2 : Int32} {v3 : Int32} {h : AH} (z : ZZ L0 xs0 h) : B_X12_ofKind_4 Q K4 v0 v1 v2 v3 h → B_X12_ofKind_4 Q' K4' v0 v1 v2 v3 h := by
  unfold B_X12_ofKind_4
  repeat' first
    | with_reducible exact hQ _ _ (by assumption)
    | with_reducible exact hK4 _ _ _ (by assumption)
    | with_reducible refine zm_and ?_ ?_
    | with_reducible refine zm_gI (fun x => ?_)
    | with_reducible refine zm_gR (fun x => ?_)
    | with_reducible refine zm_lI (fun x => ?_)
    | with_reducible refine z_f_X12_isOf (fun y0 h1 z1 => ?_) (by assumption)
    | with_reducible refine zm_imp (fun _ => ?_)
    | with_reducible exact id
theorem z_L_X12_ofKind_4 {L0 : Nat} {xs0 : Nat → Int32} {Q Q' : Int32 → AH → Prop} (hQ : ∀ (y0 : Int32) (h : AH), ZZ L0 xs0 h → Q y0 h → Q' y0 h) {v0 : Nat} {v1 : Int32} : ∀ (n : Nat) (w0 : Int32) (w1 : Int32) (h : AH), ZZ L0 xs0 h → L_X12_ofKind_4 Q v0 v1 n w0 w1 h → L_X12_ofKind_4 Q' v0 v1 n w0 w1 h := by
  intro n
  induction n with
  | zero => intro w0 w1 h z H; exact H.elim
  | succ n ih => intro w0 w1 h z; exact z_B_X12_ofKind_4 hQ ih z
theorem z_f_X12_ofKind {L0 : Nat} {xs0 : Nat → Int32} {Q Q' : Int32 → AH → Prop} (hQ : ∀ (y0 : Int32) (h : AH), ZZ L0 xs0 h → Q y0 h → Q' y0 h) {v0 : Nat} {v1 : Int32} {h : AH} (z : ZZ L0 xs0 h) : f_X12_ofKind v0 v1 h Q → f_X12_ofKind v0 v1 h Q' := by
  unfold f_X12_ofKind
  repeat' first
    | with_reducible exact hQ _ _ (by assumption)
    | with_reducible refine zm_and ?_ ?_
    | with_reducible refine zm_ex (fun x => ?_)
    | with_reducible refine z_L_X12_ofKind_4 (fun y0 h1 z1 => ?_) _ _ _ _ (by assumption)
    | with_reducible refine zm_imp (fun _ => ?_)
    | with_reducible exact id
theorem z_B_X12_there_4 {L0 : Nat} {xs0 : Nat → Int32} {Q Q' : Int32 → AH → Prop} {K4 K4' : Int32 → Int32 → AH → Prop} (hQ : ∀ (y0 : Int32) (h : AH), ZZ L0 xs0 h → Q y0 h → Q' y0 h) (hK4 : ∀ (y0 : Int32) (y1 : Int32) (h : AH), ZZ L0 xs0 h → K4 y0 y1 h → K4' y0 y1 h) {v0 : Nat} {v1 : Int32} {v2 : Int32} {v3 : Int32} {h : AH} (z : ZZ L0 xs0 h) : B_X12_there_4 Q K4 v0 v1 v2 v3 h → B_X12_there_4 Q' K4' v0 v1 v2 v3 h := by
  unfold B_X12_there_4
  repeat' first
    | with_reducible exact hQ _ _ (by assumption)
    | with_reducible exact hK4 _ _ _ (by assumption)
    | with_reducible refine zm_and ?_ ?_
    | with_reducible refine zm_lI (fun x => ?_)
    | with_reducible refine zm_imp (fun _ => ?_)
    | with_reducible exact id
theorem z_L_X12_there_4 {L0 : Nat} {xs0 : Nat → Int32} {Q Q' : Int32 → AH → Prop} (hQ : ∀ (y0 : Int32) (h : AH), ZZ L0 xs0 h → Q y0 h → Q' y0 h) {v0 : Nat} {v1 : Int32} : ∀ (n : Nat) (w0 : Int32) (w1 : Int32) (h : AH), ZZ L0 xs0 h → L_X12_there_4 Q v0 v1 n w0 w1 h → L_X12_there_4 Q' v0 v1 n w0 w1 h := by
  intro n
  induction n with
  | zero => intro w0 w1 h z H; exact H.elim
  | succ n ih => intro w0 w1 h z; exact z_B_X12_there_4 hQ ih z
theorem z_f_X12_there {L0 : Nat} {xs0 : Nat → Int32} {Q Q' : Int32 → AH → Prop} (hQ : ∀ (y0 : Int32) (h : AH), ZZ L0 xs0 h → Q y0 h → Q' y0 h) {v0 : Nat} {v1 : Int32} {h : AH} (z : ZZ L0 xs0 h) : f_X12_there v0 v1 h Q → f_X12_there v0 v1 h Q' := by
  unfold f_X12_there
  repeat' first
    | with_reducible exact hQ _ _ (by assumption)
    | with_reducible refine zm_and ?_ ?_
    | with_reducible refine zm_ex (fun x => ?_)
    | with_reducible refine z_L_X12_there_4 (fun y0 h1 z1 => ?_) _ _ _ _ (by assumption)
    | with_reducible refine zm_imp (fun _ => ?_)
    | with_reducible exact id
theorem z_B_X12_count_66 {L0 : Nat} {xs0 : Nat → Int32} {Q Q' : Int32 → AH → Prop} {K66 K66' : Int32 → Int32 → AH → Prop} (hQ : ∀ (y0 : Int32) (h : AH), ZZ L0 xs0 h → Q y0 h → Q' y0 h) (hK66 : ∀ (y0 : Int32) (y1 : Int32) (h : AH), ZZ L0 xs0 h → K66 y0 y1 h → K66' y0 y1 h) {v0 : Nat} {v2 : Int32} {v3 : Int32} {h : AH} (z : ZZ L0 xs0 h) : B_X12_count_66 Q K66 v0 v2 v3 h → B_X12_count_66 Q' K66' v0 v2 v3 h := by
  unfold B_X12_count_66
  repeat' first
    | with_reducible exact hQ _ _ (by assumption)
    | with_reducible exact hK66 _ _ _ (by assumption)
    | with_reducible refine zm_and ?_ ?_
    | with_reducible refine zm_gI (fun x => ?_)
    | with_reducible refine z_f_X12_spotOf (fun y0 h1 z1 => ?_) (by assumption)
    | with_reducible refine zm_imp (fun _ => ?_)
    | with_reducible exact id
theorem z_L_X12_count_66 {L0 : Nat} {xs0 : Nat → Int32} {Q Q' : Int32 → AH → Prop} (hQ : ∀ (y0 : Int32) (h : AH), ZZ L0 xs0 h → Q y0 h → Q' y0 h) {v0 : Nat} : ∀ (n : Nat) (w0 : Int32) (w1 : Int32) (h : AH), ZZ L0 xs0 h → L_X12_count_66 Q v0 n w0 w1 h → L_X12_count_66 Q' v0 n w0 w1 h := by
  intro n
  induction n with
  | zero => intro w0 w1 h z H; exact H.elim
  | succ n ih => intro w0 w1 h z; exact z_B_X12_count_66 hQ ih z
theorem z_f_X12_count {L0 : Nat} {xs0 : Nat → Int32} {Q Q' : Int32 → AH → Prop} (hQ : ∀ (y0 : Int32) (h : AH), ZZ L0 xs0 h → Q y0 h → Q' y0 h) {v0 : Nat} {v1 : Int32} {h : AH} (z : ZZ L0 xs0 h) : f_X12_count v0 v1 h Q → f_X12_count v0 v1 h Q' := by
  unfold f_X12_count
  repeat' first
    | with_reducible exact hQ _ _ (by assumption)
    | with_reducible refine zm_and ?_ ?_
    | with_reducible refine zm_gI (fun x => ?_)
    | with_reducible refine zm_gR (fun x => ?_)
    | with_reducible refine zm_ex (fun x => ?_)
    | with_reducible refine z_L_X12_count_66 (fun y0 h1 z1 => ?_) _ _ _ _ (by assumption)
    | with_reducible refine z_f_X12_ofKind (fun y0 h1 z1 => ?_) (by assumption)
    | with_reducible refine z_f_X12_there (fun y0 h1 z1 => ?_) (by assumption)
    | with_reducible refine zm_imp (fun _ => ?_)
    | with_reducible exact id
theorem z_f_X11_finding {L0 : Nat} {xs0 : Nat → Int32} {Q Q' : Int32 → AH → Prop} (hQ : ∀ (y0 : Int32) (h : AH), ZZ L0 xs0 h → Q y0 h → Q' y0 h) {v0 : Nat} {h : AH} (z : ZZ L0 xs0 h) : f_X11_finding v0 h Q → f_X11_finding v0 h Q' := by
  unfold f_X11_finding
  repeat' first
    | with_reducible exact hQ _ _ (by assumption)
    | with_reducible refine zm_and ?_ ?_
    | with_reducible refine zm_gI (fun x => ?_)
    | with_reducible refine zm_imp (fun _ => ?_)
    | with_reducible exact id
theorem z_f_X12_finding {L0 : Nat} {xs0 : Nat → Int32} {Q Q' : Int32 → AH → Prop} (hQ : ∀ (y0 : Int32) (h : AH), ZZ L0 xs0 h → Q y0 h → Q' y0 h) {v0 : Nat} {h : AH} (z : ZZ L0 xs0 h) : f_X12_finding v0 h Q → f_X12_finding v0 h Q' := by
  unfold f_X12_finding
  repeat' first
    | with_reducible exact hQ _ _ (by assumption)
    | with_reducible refine zm_and ?_ ?_
    | with_reducible refine zm_gI (fun x => ?_)
    | with_reducible refine zm_imp (fun _ => ?_)
    | with_reducible exact id
theorem z_B_X11_findings_10 {L0 : Nat} {xs0 : Nat → Int32} {Q Q' : Int32 → AH → Prop} (hQ : ∀ (y0 : Int32) (h : AH), ZZ L0 xs0 h → Q y0 h → Q' y0 h)  {h : AH} (z : ZZ L0 xs0 h) : B_X11_findings_10 Q h → B_X11_findings_10 Q' h := by
  unfold B_X11_findings_10
  repeat' first
    | with_reducible exact hQ _ _ (by assumption)
    | with_reducible refine zm_and ?_ ?_
    | with_reducible refine zm_imp (fun _ => ?_)
    | with_reducible exact id
theorem z_f_X11_findings {L0 : Nat} {xs0 : Nat → Int32} {Q Q' : Int32 → AH → Prop} (hQ : ∀ (y0 : Int32) (h : AH), ZZ L0 xs0 h → Q y0 h → Q' y0 h) {v0 : Nat} {v1 : Int32} {h : AH} (z : ZZ L0 xs0 h) : f_X11_findings v0 v1 h Q → f_X11_findings v0 v1 h Q' := by
  unfold f_X11_findings
  repeat' first
    | with_reducible exact hQ _ _ (by assumption)
    | with_reducible refine zm_and ?_ ?_
    | with_reducible refine zm_gR (fun x => ?_)
    | with_reducible refine zm_lI (fun x => ?_)
    | with_reducible refine z_B_X11_findings_10 (fun y0 h1 z1 => ?_) (by assumption)
    | with_reducible refine zm_imp (fun _ => ?_)
    | with_reducible exact id
theorem z_f_X12_findings {L0 : Nat} {xs0 : Nat → Int32} {Q Q' : Int32 → AH → Prop} (hQ : ∀ (y0 : Int32) (h : AH), ZZ L0 xs0 h → Q y0 h → Q' y0 h) {v0 : Nat} {v1 : Int32} {h : AH} (z : ZZ L0 xs0 h) : f_X12_findings v0 v1 h Q → f_X12_findings v0 v1 h Q' := by
  unfold f_X12_findings
  repeat' first
    | with_reducible exact hQ _ _ (by assumption)
    | with_reducible refine zm_and ?_ ?_
    | with_reducible refine zm_gR (fun x => ?_)
    | with_reducible refine zm_lI (fun x => ?_)
    | with_reducible refine z_f_X12_in (fun y0 h1 z1 => ?_) (by assumption)
    | with_reducible refine zm_imp (fun _ => ?_)
    | with_reducible exact id
theorem z_B_X11_digestKept_37 {L0 : Nat} {xs0 : Nat → Int32} {Q Q' : Int64 → AH → Prop} {K5 K5' : Int64 → Int32 → AH → Prop} {K37 K37' : Int64 → Int32 → AH → Prop} (hQ : ∀ (y0 : Int64) (h : AH), ZZ L0 xs0 h → Q y0 h → Q' y0 h) (hK5 : ∀ (y0 : Int64) (y1 : Int32) (h : AH), ZZ L0 xs0 h → K5 y0 y1 h → K5' y0 y1 h) (hK37 : ∀ (y0 : Int64) (y1 : Int32) (h : AH), ZZ L0 xs0 h → K37 y0 y1 h → K37' y0 y1 h) {v0 : Nat} {v5 : Int32} {v3 : Int64} {v6 : Int32} {h : AH} (z : ZZ L0 xs0 h) : B_X11_digestKept_37 Q K5 K37 v0 v5 v3 v6 h → B_X11_digestKept_37 Q' K5' K37' v0 v5 v3 v6 h := by
  unfold B_X11_digestKept_37
  repeat' first
    | with_reducible exact hQ _ _ (by assumption)
    | with_reducible exact hK5 _ _ _ (by assumption)
    | with_reducible exact hK37 _ _ _ (by assumption)
    | with_reducible refine zm_and ?_ ?_
    | with_reducible refine zm_gI (fun x => ?_)
    | with_reducible refine zm_gR (fun x => ?_)
    | with_reducible refine zm_lI (fun x => ?_)
    | with_reducible refine z_f_X5_tellPost (fun y0 h1 z1 => ?_) (by assumption)
    | with_reducible refine zm_imp (fun _ => ?_)
    | with_reducible exact id
theorem z_L_X11_digestKept_37 {L0 : Nat} {xs0 : Nat → Int32} {Q Q' : Int64 → AH → Prop} {K5 K5' : Int64 → Int32 → AH → Prop} (hQ : ∀ (y0 : Int64) (h : AH), ZZ L0 xs0 h → Q y0 h → Q' y0 h) (hK5 : ∀ (y0 : Int64) (y1 : Int32) (h : AH), ZZ L0 xs0 h → K5 y0 y1 h → K5' y0 y1 h) {v0 : Nat} {v5 : Int32} : ∀ (n : Nat) (w0 : Int64) (w1 : Int32) (h : AH), ZZ L0 xs0 h → L_X11_digestKept_37 Q K5 v0 v5 n w0 w1 h → L_X11_digestKept_37 Q' K5' v0 v5 n w0 w1 h := by
  intro n
  induction n with
  | zero => intro w0 w1 h z H; exact H.elim
  | succ n ih => intro w0 w1 h z; exact z_B_X11_digestKept_37 hQ hK5 ih z
theorem z_B_X11_digestKept_5 {L0 : Nat} {xs0 : Nat → Int32} {Q Q' : Int64 → AH → Prop} {K5 K5' : Int64 → Int32 → AH → Prop} (hQ : ∀ (y0 : Int64) (h : AH), ZZ L0 xs0 h → Q y0 h → Q' y0 h) (hK5 : ∀ (y0 : Int64) (y1 : Int32) (h : AH), ZZ L0 xs0 h → K5 y0 y1 h → K5' y0 y1 h) {v0 : Nat} {v3 : Int64} {v5 : Int32} {h : AH} (z : ZZ L0 xs0 h) : B_X11_digestKept_5 Q K5 v0 v3 v5 h → B_X11_digestKept_5 Q' K5' v0 v3 v5 h := by
  unfold B_X11_digestKept_5
  repeat' first
    | with_reducible exact hQ _ _ (by assumption)
    | with_reducible exact hK5 _ _ _ (by assumption)
    | with_reducible refine zm_and ?_ ?_
    | with_reducible refine zm_gR (fun x => ?_)
    | with_reducible refine zm_lI (fun x => ?_)
    | with_reducible refine zm_ex (fun x => ?_)
    | with_reducible refine z_L_X11_digestKept_37 (fun y0 h1 z1 => ?_) (fun y0 y1 h1 z1 => ?_) _ _ _ _ (by assumption)
    | with_reducible refine zm_imp (fun _ => ?_)
    | with_reducible exact id
theorem z_L_X11_digestKept_5 {L0 : Nat} {xs0 : Nat → Int32} {Q Q' : Int64 → AH → Prop} (hQ : ∀ (y0 : Int64) (h : AH), ZZ L0 xs0 h → Q y0 h → Q' y0 h) {v0 : Nat} : ∀ (n : Nat) (w0 : Int64) (w1 : Int32) (h : AH), ZZ L0 xs0 h → L_X11_digestKept_5 Q v0 n w0 w1 h → L_X11_digestKept_5 Q' v0 n w0 w1 h := by
  intro n
  induction n with
  | zero => intro w0 w1 h z H; exact H.elim
  | succ n ih => intro w0 w1 h z; exact z_B_X11_digestKept_5 hQ ih z
theorem z_f_X11_digestKept {L0 : Nat} {xs0 : Nat → Int32} {Q Q' : Int64 → AH → Prop} (hQ : ∀ (y0 : Int64) (h : AH), ZZ L0 xs0 h → Q y0 h → Q' y0 h) {v0 : Nat} {v1 : Int64} {h : AH} (z : ZZ L0 xs0 h) : f_X11_digestKept v0 v1 h Q → f_X11_digestKept v0 v1 h Q' := by
  unfold f_X11_digestKept
  repeat' first
    | with_reducible exact hQ _ _ (by assumption)
    | with_reducible refine zm_and ?_ ?_
    | with_reducible refine zm_ex (fun x => ?_)
    | with_reducible refine z_L_X11_digestKept_5 (fun y0 h1 z1 => ?_) _ _ _ _ (by assumption)
    | with_reducible refine zm_imp (fun _ => ?_)
    | with_reducible exact id
theorem z_B_X11_digestRows_30 {L0 : Nat} {xs0 : Nat → Int32} {Q Q' : Int64 → AH → Prop} {K5 K5' : Int64 → Int32 → AH → Prop} {K30 K30' : Int64 → Int32 → AH → Prop} (hQ : ∀ (y0 : Int64) (h : AH), ZZ L0 xs0 h → Q y0 h → Q' y0 h) (hK5 : ∀ (y0 : Int64) (y1 : Int32) (h : AH), ZZ L0 xs0 h → K5 y0 y1 h → K5' y0 y1 h) (hK30 : ∀ (y0 : Int64) (y1 : Int32) (h : AH), ZZ L0 xs0 h → K30 y0 y1 h → K30' y0 y1 h) {v2 : Nat} {v5 : Int32} {v3 : Int64} {v6 : Int32} {h : AH} (z : ZZ L0 xs0 h) : B_X11_digestRows_30 Q K5 K30 v2 v5 v3 v6 h → B_X11_digestRows_30 Q' K5' K30' v2 v5 v3 v6 h := by
  unfold B_X11_digestRows_30
  repeat' first
    | with_reducible exact hQ _ _ (by assumption)
    | with_reducible exact hK5 _ _ _ (by assumption)
    | with_reducible exact hK30 _ _ _ (by assumption)
    | with_reducible refine zm_and ?_ ?_
    | with_reducible refine zm_gI (fun x => ?_)
    | with_reducible refine zm_lQ (fun x => ?_)
    | with_reducible refine z_f_X6_get (fun y0 h1 z1 => ?_) (by assumption)
    | with_reducible refine zm_imp (fun _ => ?_)
    | with_reducible exact id
theorem z_L_X11_digestRows_30 {L0 : Nat} {xs0 : Nat → Int32} {Q Q' : Int64 → AH → Prop} {K5 K5' : Int64 → Int32 → AH → Prop} (hQ : ∀ (y0 : Int64) (h : AH), ZZ L0 xs0 h → Q y0 h → Q' y0 h) (hK5 : ∀ (y0 : Int64) (y1 : Int32) (h : AH), ZZ L0 xs0 h → K5 y0 y1 h → K5' y0 y1 h) {v2 : Nat} {v5 : Int32} : ∀ (n : Nat) (w0 : Int64) (w1 : Int32) (h : AH), ZZ L0 xs0 h → L_X11_digestRows_30 Q K5 v2 v5 n w0 w1 h → L_X11_digestRows_30 Q' K5' v2 v5 n w0 w1 h := by
  intro n
  induction n with
  | zero => intro w0 w1 h z H; exact H.elim
  | succ n ih => intro w0 w1 h z; exact z_B_X11_digestRows_30 hQ hK5 ih z
theorem z_B_X11_digestRows_5 {L0 : Nat} {xs0 : Nat → Int32} {Q Q' : Int64 → AH → Prop} {K5 K5' : Int64 → Int32 → AH → Prop} (hQ : ∀ (y0 : Int64) (h : AH), ZZ L0 xs0 h → Q y0 h → Q' y0 h) (hK5 : ∀ (y0 : Int64) (y1 : Int32) (h : AH), ZZ L0 xs0 h → K5 y0 y1 h → K5' y0 y1 h) {v2 : Nat} {v3 : Int64} {v5 : Int32} {h : AH} (z : ZZ L0 xs0 h) : B_X11_digestRows_5 Q K5 v2 v3 v5 h → B_X11_digestRows_5 Q' K5' v2 v3 v5 h := by
  unfold B_X11_digestRows_5
  repeat' first
    | with_reducible exact hQ _ _ (by assumption)
    | with_reducible exact hK5 _ _ _ (by assumption)
    | with_reducible refine zm_and ?_ ?_
    | with_reducible refine zm_gI (fun x => ?_)
    | with_reducible refine zm_lQ (fun x => ?_)
    | with_reducible refine zm_aL (fun x => ?_)
    | with_reducible refine zm_ex (fun x => ?_)
    | with_reducible refine z_L_X11_digestRows_30 (fun y0 h1 z1 => ?_) (fun y0 y1 h1 z1 => ?_) _ _ _ _ (by assumption)
    | with_reducible refine zm_imp (fun _ => ?_)
    | with_reducible exact id
theorem z_L_X11_digestRows_5 {L0 : Nat} {xs0 : Nat → Int32} {Q Q' : Int64 → AH → Prop} (hQ : ∀ (y0 : Int64) (h : AH), ZZ L0 xs0 h → Q y0 h → Q' y0 h) {v2 : Nat} : ∀ (n : Nat) (w0 : Int64) (w1 : Int32) (h : AH), ZZ L0 xs0 h → L_X11_digestRows_5 Q v2 n w0 w1 h → L_X11_digestRows_5 Q' v2 n w0 w1 h := by
  intro n
  induction n with
  | zero => intro w0 w1 h z H; exact H.elim
  | succ n ih => intro w0 w1 h z; exact z_B_X11_digestRows_5 hQ ih z
theorem z_f_X11_digestRows {L0 : Nat} {xs0 : Nat → Int32} {Q Q' : Int64 → AH → Prop} (hQ : ∀ (y0 : Int64) (h : AH), ZZ L0 xs0 h → Q y0 h → Q' y0 h) {v0 : Int64} {v2 : Nat} {h : AH} (z : ZZ L0 xs0 h) : f_X11_digestRows v0 v2 h Q → f_X11_digestRows v0 v2 h Q' := by
  unfold f_X11_digestRows
  repeat' first
    | with_reducible exact hQ _ _ (by assumption)
    | with_reducible refine zm_and ?_ ?_
    | with_reducible refine zm_ex (fun x => ?_)
    | with_reducible refine z_L_X11_digestRows_5 (fun y0 h1 z1 => ?_) _ _ _ _ (by assumption)
    | with_reducible refine zm_imp (fun _ => ?_)
    | with_reducible exact id
theorem z_B_X11_digest_180 {L0 : Nat} {xs0 : Nat → Int32} {Q Q' : Int64 → AH → Prop} (hQ : ∀ (y0 : Int64) (h : AH), ZZ L0 xs0 h → Q y0 h → Q' y0 h) {v0 : Nat} {v1 : Int64} {h : AH} (z : ZZ L0 xs0 h) : B_X11_digest_180 Q v0 v1 h → B_X11_digest_180 Q' v0 v1 h := by
  unfold B_X11_digest_180
  repeat' first
    | with_reducible exact hQ _ _ (by assumption)
    | with_reducible refine zm_and ?_ ?_
    | with_reducible refine zm_gR (fun x => ?_)
    | with_reducible refine z_f_X11_digestKept (fun y0 h1 z1 => ?_) (by assumption)
    | with_reducible refine z_f_X11_digestRows (fun y0 h1 z1 => ?_) (by assumption)
    | with_reducible refine zm_imp (fun _ => ?_)
    | with_reducible exact id
theorem z_B_X11_digest_59 {L0 : Nat} {xs0 : Nat → Int32} {Q Q' : Int64 → AH → Prop} {K45 K45' : Int64 → Int32 → AH → Prop} {K59 K59' : Int64 → Int32 → AH → Prop} (hQ : ∀ (y0 : Int64) (h : AH), ZZ L0 xs0 h → Q y0 h → Q' y0 h) (hK45 : ∀ (y0 : Int64) (y1 : Int32) (h : AH), ZZ L0 xs0 h → K45 y0 y1 h → K45' y0 y1 h) (hK59 : ∀ (y0 : Int64) (y1 : Int32) (h : AH), ZZ L0 xs0 h → K59 y0 y1 h → K59' y0 y1 h) {v0 : Nat} {v3 : Int32} {v1 : Int64} {v4 : Int32} {h : AH} (z : ZZ L0 xs0 h) : B_X11_digest_59 Q K45 K59 v0 v3 v1 v4 h → B_X11_digest_59 Q' K45' K59' v0 v3 v1 v4 h := by
  unfold B_X11_digest_59
  repeat' first
    | with_reducible exact hQ _ _ (by assumption)
    | with_reducible exact hK45 _ _ _ (by assumption)
    | with_reducible exact hK59 _ _ _ (by assumption)
    | with_reducible refine zm_and ?_ ?_
    | with_reducible refine z_f_X11_ofStone (fun y0 h1 z1 => ?_) (by assumption)
    | with_reducible refine zm_imp (fun _ => ?_)
    | with_reducible exact id
theorem z_L_X11_digest_59 {L0 : Nat} {xs0 : Nat → Int32} {Q Q' : Int64 → AH → Prop} {K45 K45' : Int64 → Int32 → AH → Prop} (hQ : ∀ (y0 : Int64) (h : AH), ZZ L0 xs0 h → Q y0 h → Q' y0 h) (hK45 : ∀ (y0 : Int64) (y1 : Int32) (h : AH), ZZ L0 xs0 h → K45 y0 y1 h → K45' y0 y1 h) {v0 : Nat} {v3 : Int32} : ∀ (n : Nat) (w0 : Int64) (w1 : Int32) (h : AH), ZZ L0 xs0 h → L_X11_digest_59 Q K45 v0 v3 n w0 w1 h → L_X11_digest_59 Q' K45' v0 v3 n w0 w1 h := by
  intro n
  induction n with
  | zero => intro w0 w1 h z H; exact H.elim
  | succ n ih => intro w0 w1 h z; exact z_B_X11_digest_59 hQ hK45 ih z
theorem z_B_X11_digest_108 {L0 : Nat} {xs0 : Nat → Int32} {Q Q' : Int64 → AH → Prop} {K94 K94' : Int64 → Int32 → AH → Prop} {K108 K108' : Int64 → Int32 → AH → Prop} (hQ : ∀ (y0 : Int64) (h : AH), ZZ L0 xs0 h → Q y0 h → Q' y0 h) (hK94 : ∀ (y0 : Int64) (y1 : Int32) (h : AH), ZZ L0 xs0 h → K94 y0 y1 h → K94' y0 y1 h) (hK108 : ∀ (y0 : Int64) (y1 : Int32) (h : AH), ZZ L0 xs0 h → K108 y0 y1 h → K108' y0 y1 h) {v0 : Nat} {v3 : Int32} {v1 : Int64} {v4 : Int32} {h : AH} (z : ZZ L0 xs0 h) : B_X11_digest_108 Q K94 K108 v0 v3 v1 v4 h → B_X11_digest_108 Q' K94' K108' v0 v3 v1 v4 h := by
  unfold B_X11_digest_108
  repeat' first
    | with_reducible exact hQ _ _ (by assumption)
    | with_reducible exact hK94 _ _ _ (by assumption)
    | with_reducible exact hK108 _ _ _ (by assumption)
    | with_reducible refine zm_and ?_ ?_
    | with_reducible refine z_f_X11_ofWalker (fun y0 h1 z1 => ?_) (by assumption)
    | with_reducible refine zm_imp (fun _ => ?_)
    | with_reducible exact id
theorem z_L_X11_digest_108 {L0 : Nat} {xs0 : Nat → Int32} {Q Q' : Int64 → AH → Prop} {K94 K94' : Int64 → Int32 → AH → Prop} (hQ : ∀ (y0 : Int64) (h : AH), ZZ L0 xs0 h → Q y0 h → Q' y0 h) (hK94 : ∀ (y0 : Int64) (y1 : Int32) (h : AH), ZZ L0 xs0 h → K94 y0 y1 h → K94' y0 y1 h) {v0 : Nat} {v3 : Int32} : ∀ (n : Nat) (w0 : Int64) (w1 : Int32) (h : AH), ZZ L0 xs0 h → L_X11_digest_108 Q K94 v0 v3 n w0 w1 h → L_X11_digest_108 Q' K94' v0 v3 n w0 w1 h := by
  intro n
  induction n with
  | zero => intro w0 w1 h z H; exact H.elim
  | succ n ih => intro w0 w1 h z; exact z_B_X11_digest_108 hQ hK94 ih z
theorem z_B_X11_digest_143 {L0 : Nat} {xs0 : Nat → Int32} {Q Q' : Int64 → AH → Prop} {K143 K143' : Int64 → Int32 → AH → Prop} (hQ : ∀ (y0 : Int64) (h : AH), ZZ L0 xs0 h → Q y0 h → Q' y0 h) (hK143 : ∀ (y0 : Int64) (y1 : Int32) (h : AH), ZZ L0 xs0 h → K143 y0 y1 h → K143' y0 y1 h) {v0 : Nat} {v1 : Int64} {v3 : Int32} {h : AH} (z : ZZ L0 xs0 h) : B_X11_digest_143 Q K143 v0 v1 v3 h → B_X11_digest_143 Q' K143' v0 v1 v3 h := by
  unfold B_X11_digest_143
  repeat' first
    | with_reducible exact hQ _ _ (by assumption)
    | with_reducible exact hK143 _ _ _ (by assumption)
    | with_reducible refine zm_and ?_ ?_
    | with_reducible refine zm_gI (fun x => ?_)
    | with_reducible refine zm_gR (fun x => ?_)
    | with_reducible refine zm_lQ (fun x => ?_)
    | with_reducible refine z_B_X11_digest_180 (fun y0 h1 z1 => ?_) (by assumption)
    | with_reducible refine zm_imp (fun _ => ?_)
    | with_reducible exact id
theorem z_L_X11_digest_143 {L0 : Nat} {xs0 : Nat → Int32} {Q Q' : Int64 → AH → Prop} (hQ : ∀ (y0 : Int64) (h : AH), ZZ L0 xs0 h → Q y0 h → Q' y0 h) {v0 : Nat} : ∀ (n : Nat) (w0 : Int64) (w1 : Int32) (h : AH), ZZ L0 xs0 h → L_X11_digest_143 Q v0 n w0 w1 h → L_X11_digest_143 Q' v0 n w0 w1 h := by
  intro n
  induction n with
  | zero => intro w0 w1 h z H; exact H.elim
  | succ n ih => intro w0 w1 h z; exact z_B_X11_digest_143 hQ ih z
theorem z_B_X11_digest_94 {L0 : Nat} {xs0 : Nat → Int32} {Q Q' : Int64 → AH → Prop} {K94 K94' : Int64 → Int32 → AH → Prop} (hQ : ∀ (y0 : Int64) (h : AH), ZZ L0 xs0 h → Q y0 h → Q' y0 h) (hK94 : ∀ (y0 : Int64) (y1 : Int32) (h : AH), ZZ L0 xs0 h → K94 y0 y1 h → K94' y0 y1 h) {v0 : Nat} {v1 : Int64} {v3 : Int32} {h : AH} (z : ZZ L0 xs0 h) : B_X11_digest_94 Q K94 v0 v1 v3 h → B_X11_digest_94 Q' K94' v0 v1 v3 h := by
  unfold B_X11_digest_94
  repeat' first
    | with_reducible exact hQ _ _ (by assumption)
    | with_reducible exact hK94 _ _ _ (by assumption)
    | with_reducible refine zm_and ?_ ?_
    | with_reducible refine zm_gI (fun x => ?_)
    | with_reducible refine zm_gR (fun x => ?_)
    | with_reducible refine zm_ex (fun x => ?_)
    | with_reducible refine z_L_X11_digest_108 (fun y0 h1 z1 => ?_) (fun y0 y1 h1 z1 => ?_) _ _ _ _ (by assumption)
    | with_reducible refine z_L_X11_digest_143 (fun y0 h1 z1 => ?_) _ _ _ _ (by assumption)
    | with_reducible refine zm_imp (fun _ => ?_)
    | with_reducible exact id
theorem z_L_X11_digest_94 {L0 : Nat} {xs0 : Nat → Int32} {Q Q' : Int64 → AH → Prop} (hQ : ∀ (y0 : Int64) (h : AH), ZZ L0 xs0 h → Q y0 h → Q' y0 h) {v0 : Nat} : ∀ (n : Nat) (w0 : Int64) (w1 : Int32) (h : AH), ZZ L0 xs0 h → L_X11_digest_94 Q v0 n w0 w1 h → L_X11_digest_94 Q' v0 n w0 w1 h := by
  intro n
  induction n with
  | zero => intro w0 w1 h z H; exact H.elim
  | succ n ih => intro w0 w1 h z; exact z_B_X11_digest_94 hQ ih z
theorem z_B_X11_digest_45 {L0 : Nat} {xs0 : Nat → Int32} {Q Q' : Int64 → AH → Prop} {K45 K45' : Int64 → Int32 → AH → Prop} (hQ : ∀ (y0 : Int64) (h : AH), ZZ L0 xs0 h → Q y0 h → Q' y0 h) (hK45 : ∀ (y0 : Int64) (y1 : Int32) (h : AH), ZZ L0 xs0 h → K45 y0 y1 h → K45' y0 y1 h) {v0 : Nat} {v1 : Int64} {v3 : Int32} {h : AH} (z : ZZ L0 xs0 h) : B_X11_digest_45 Q K45 v0 v1 v3 h → B_X11_digest_45 Q' K45' v0 v1 v3 h := by
  unfold B_X11_digest_45
  repeat' first
    | with_reducible exact hQ _ _ (by assumption)
    | with_reducible exact hK45 _ _ _ (by assumption)
    | with_reducible refine zm_and ?_ ?_
    | with_reducible refine zm_gI (fun x => ?_)
    | with_reducible refine zm_gR (fun x => ?_)
    | with_reducible refine zm_ex (fun x => ?_)
    | with_reducible refine z_L_X11_digest_59 (fun y0 h1 z1 => ?_) (fun y0 y1 h1 z1 => ?_) _ _ _ _ (by assumption)
    | with_reducible refine z_L_X11_digest_94 (fun y0 h1 z1 => ?_) _ _ _ _ (by assumption)
    | with_reducible refine zm_imp (fun _ => ?_)
    | with_reducible exact id
theorem z_L_X11_digest_45 {L0 : Nat} {xs0 : Nat → Int32} {Q Q' : Int64 → AH → Prop} (hQ : ∀ (y0 : Int64) (h : AH), ZZ L0 xs0 h → Q y0 h → Q' y0 h) {v0 : Nat} : ∀ (n : Nat) (w0 : Int64) (w1 : Int32) (h : AH), ZZ L0 xs0 h → L_X11_digest_45 Q v0 n w0 w1 h → L_X11_digest_45 Q' v0 n w0 w1 h := by
  intro n
  induction n with
  | zero => intro w0 w1 h z H; exact H.elim
  | succ n ih => intro w0 w1 h z; exact z_B_X11_digest_45 hQ ih z
theorem z_B_X11_digest_6 {L0 : Nat} {xs0 : Nat → Int32} {Q Q' : Int64 → AH → Prop} {K6 K6' : Int64 → Int32 → AH → Prop} (hQ : ∀ (y0 : Int64) (h : AH), ZZ L0 xs0 h → Q y0 h → Q' y0 h) (hK6 : ∀ (y0 : Int64) (y1 : Int32) (h : AH), ZZ L0 xs0 h → K6 y0 y1 h → K6' y0 y1 h) {v0 : Nat} {v1 : Int64} {v3 : Int32} {h : AH} (z : ZZ L0 xs0 h) : B_X11_digest_6 Q K6 v0 v1 v3 h → B_X11_digest_6 Q' K6' v0 v1 v3 h := by
  unfold B_X11_digest_6
  repeat' first
    | with_reducible exact hQ _ _ (by assumption)
    | with_reducible exact hK6 _ _ _ (by assumption)
    | with_reducible refine zm_and ?_ ?_
    | with_reducible refine zm_gI (fun x => ?_)
    | with_reducible refine zm_ex (fun x => ?_)
    | with_reducible refine z_L_X11_digest_45 (fun y0 h1 z1 => ?_) _ _ _ _ (by assumption)
    | with_reducible refine z_f_X11_count (fun y0 h1 z1 => ?_) (by assumption)
    | with_reducible refine zm_imp (fun _ => ?_)
    | with_reducible exact id
theorem z_L_X11_digest_6 {L0 : Nat} {xs0 : Nat → Int32} {Q Q' : Int64 → AH → Prop} (hQ : ∀ (y0 : Int64) (h : AH), ZZ L0 xs0 h → Q y0 h → Q' y0 h) {v0 : Nat} : ∀ (n : Nat) (w0 : Int64) (w1 : Int32) (h : AH), ZZ L0 xs0 h → L_X11_digest_6 Q v0 n w0 w1 h → L_X11_digest_6 Q' v0 n w0 w1 h := by
  intro n
  induction n with
  | zero => intro w0 w1 h z H; exact H.elim
  | succ n ih => intro w0 w1 h z; exact z_B_X11_digest_6 hQ ih z
theorem z_f_X11_digest {L0 : Nat} {xs0 : Nat → Int32} {Q Q' : Int64 → AH → Prop} (hQ : ∀ (y0 : Int64) (h : AH), ZZ L0 xs0 h → Q y0 h → Q' y0 h) {v0 : Nat} {h : AH} (z : ZZ L0 xs0 h) : f_X11_digest v0 h Q → f_X11_digest v0 h Q' := by
  unfold f_X11_digest
  repeat' first
    | with_reducible exact hQ _ _ (by assumption)
    | with_reducible refine zm_and ?_ ?_
    | with_reducible refine zm_ex (fun x => ?_)
    | with_reducible refine z_L_X11_digest_6 (fun y0 h1 z1 => ?_) _ _ _ _ (by assumption)
    | with_reducible refine zm_imp (fun _ => ?_)
    | with_reducible exact id
theorem z_B_X12_digest_323 {L0 : Nat} {xs0 : Nat → Int32} {Q Q' : Int64 → AH → Prop} {K300 K300' : Int64 → Int32 → AH → Prop} {K323 K323' : Int64 → Int32 → AH → Prop} (hQ : ∀ (y0 : Int64) (h : AH), ZZ L0 xs0 h → Q y0 h → Q' y0 h) (hK300 : ∀ (y0 : Int64) (y1 : Int32) (h : AH), ZZ L0 xs0 h → K300 y0 y1 h → K300' y0 y1 h) (hK323 : ∀ (y0 : Int64) (y1 : Int32) (h : AH), ZZ L0 xs0 h → K323 y0 y1 h → K323' y0 y1 h) {v0 : Nat} {v3 : Int32} {v1 : Int64} {v4 : Int32} {h : AH} (z : ZZ L0 xs0 h) : B_X12_digest_323 Q K300 K323 v0 v3 v1 v4 h → B_X12_digest_323 Q' K300' K323' v0 v3 v1 v4 h := by
  unfold B_X12_digest_323
  repeat' first
    | with_reducible exact hQ _ _ (by assumption)
    | with_reducible exact hK300 _ _ _ (by assumption)
    | with_reducible exact hK323 _ _ _ (by assumption)
    | with_reducible refine zm_and ?_ ?_
    | with_reducible refine zm_gR (fun x => ?_)
    | with_reducible refine zm_lI (fun x => ?_)
    | with_reducible refine zm_imp (fun _ => ?_)
    | with_reducible exact id
theorem z_L_X12_digest_323 {L0 : Nat} {xs0 : Nat → Int32} {Q Q' : Int64 → AH → Prop} {K300 K300' : Int64 → Int32 → AH → Prop} (hQ : ∀ (y0 : Int64) (h : AH), ZZ L0 xs0 h → Q y0 h → Q' y0 h) (hK300 : ∀ (y0 : Int64) (y1 : Int32) (h : AH), ZZ L0 xs0 h → K300 y0 y1 h → K300' y0 y1 h) {v0 : Nat} {v3 : Int32} : ∀ (n : Nat) (w0 : Int64) (w1 : Int32) (h : AH), ZZ L0 xs0 h → L_X12_digest_323 Q K300 v0 v3 n w0 w1 h → L_X12_digest_323 Q' K300' v0 v3 n w0 w1 h := by
  intro n
  induction n with
  | zero => intro w0 w1 h z H; exact H.elim
  | succ n ih => intro w0 w1 h z; exact z_B_X12_digest_323 hQ hK300 ih z
theorem z_B_X12_digest_265 {L0 : Nat} {xs0 : Nat → Int32} {Q Q' : Int64 → AH → Prop} {K211 K211' : Int64 → Int32 → AH → Prop} (hQ : ∀ (y0 : Int64) (h : AH), ZZ L0 xs0 h → Q y0 h → Q' y0 h) (hK211 : ∀ (y0 : Int64) (y1 : Int32) (h : AH), ZZ L0 xs0 h → K211 y0 y1 h → K211' y0 y1 h) {v0 : Nat} {v1 : Int64} {v3 : Int32} {h : AH} (z : ZZ L0 xs0 h) : B_X12_digest_265 Q K211 v0 v1 v3 h → B_X12_digest_265 Q' K211' v0 v1 v3 h := by
  unfold B_X12_digest_265
  repeat' first
    | with_reducible exact hQ _ _ (by assumption)
    | with_reducible exact hK211 _ _ _ (by assumption)
    | with_reducible refine zm_and ?_ ?_
    | with_reducible refine zm_gR (fun x => ?_)
    | with_reducible refine zm_lI (fun x => ?_)
    | with_reducible refine zm_imp (fun _ => ?_)
    | with_reducible exact id
theorem z_B_X12_digest_219 {L0 : Nat} {xs0 : Nat → Int32} {Q Q' : Int64 → AH → Prop} {K211 K211' : Int64 → Int32 → AH → Prop} {K219 K219' : Int64 → Int32 → AH → Prop} (hQ : ∀ (y0 : Int64) (h : AH), ZZ L0 xs0 h → Q y0 h → Q' y0 h) (hK211 : ∀ (y0 : Int64) (y1 : Int32) (h : AH), ZZ L0 xs0 h → K211 y0 y1 h → K211' y0 y1 h) (hK219 : ∀ (y0 : Int64) (y1 : Int32) (h : AH), ZZ L0 xs0 h → K219 y0 y1 h → K219' y0 y1 h) {v0 : Nat} {v3 : Int32} {v1 : Int64} {v4 : Int32} {h : AH} (z : ZZ L0 xs0 h) : B_X12_digest_219 Q K211 K219 v0 v3 v1 v4 h → B_X12_digest_219 Q' K211' K219' v0 v3 v1 v4 h := by
  unfold B_X12_digest_219
  repeat' first
    | with_reducible exact hQ _ _ (by assumption)
    | with_reducible exact hK211 _ _ _ (by assumption)
    | with_reducible exact hK219 _ _ _ (by assumption)
    | with_reducible refine zm_and ?_ ?_
    | with_reducible refine zm_gI (fun x => ?_)
    | with_reducible refine zm_gR (fun x => ?_)
    | with_reducible refine zm_lI (fun x => ?_)
    | with_reducible refine z_B_X12_digest_265 (fun y0 h1 z1 => ?_) (fun y0 y1 h1 z1 => ?_) (by assumption)
    | with_reducible refine z_f_X12_spotOf (fun y0 h1 z1 => ?_) (by assumption)
    | with_reducible refine z_f_X12_told (fun y0 h1 z1 => ?_) (by assumption)
    | with_reducible refine zm_imp (fun _ => ?_)
    | with_reducible exact id
theorem z_L_X12_digest_219 {L0 : Nat} {xs0 : Nat → Int32} {Q Q' : Int64 → AH → Prop} {K211 K211' : Int64 → Int32 → AH → Prop} (hQ : ∀ (y0 : Int64) (h : AH), ZZ L0 xs0 h → Q y0 h → Q' y0 h) (hK211 : ∀ (y0 : Int64) (y1 : Int32) (h : AH), ZZ L0 xs0 h → K211 y0 y1 h → K211' y0 y1 h) {v0 : Nat} {v3 : Int32} : ∀ (n : Nat) (w0 : Int64) (w1 : Int32) (h : AH), ZZ L0 xs0 h → L_X12_digest_219 Q K211 v0 v3 n w0 w1 h → L_X12_digest_219 Q' K211' v0 v3 n w0 w1 h := by
  intro n
  induction n with
  | zero => intro w0 w1 h z H; exact H.elim
  | succ n ih => intro w0 w1 h z; exact z_B_X12_digest_219 hQ hK211 ih z
theorem z_B_X12_digest_390 {L0 : Nat} {xs0 : Nat → Int32} {Q Q' : Int64 → AH → Prop} {K368 K368' : Int64 → Int32 → AH → Prop} {K390 K390' : Int64 → Int32 → AH → Prop} (hQ : ∀ (y0 : Int64) (h : AH), ZZ L0 xs0 h → Q y0 h → Q' y0 h) (hK368 : ∀ (y0 : Int64) (y1 : Int32) (h : AH), ZZ L0 xs0 h → K368 y0 y1 h → K368' y0 y1 h) (hK390 : ∀ (y0 : Int64) (y1 : Int32) (h : AH), ZZ L0 xs0 h → K390 y0 y1 h → K390' y0 y1 h) {v0 : Nat} {v3 : Int32} {v1 : Int64} {v4 : Int32} {h : AH} (z : ZZ L0 xs0 h) : B_X12_digest_390 Q K368 K390 v0 v3 v1 v4 h → B_X12_digest_390 Q' K368' K390' v0 v3 v1 v4 h := by
  unfold B_X12_digest_390
  repeat' first
    | with_reducible exact hQ _ _ (by assumption)
    | with_reducible exact hK368 _ _ _ (by assumption)
    | with_reducible exact hK390 _ _ _ (by assumption)
    | with_reducible refine zm_and ?_ ?_
    | with_reducible refine zm_gR (fun x => ?_)
    | with_reducible refine zm_lI (fun x => ?_)
    | with_reducible refine zm_imp (fun _ => ?_)
    | with_reducible exact id
theorem z_L_X12_digest_390 {L0 : Nat} {xs0 : Nat → Int32} {Q Q' : Int64 → AH → Prop} {K368 K368' : Int64 → Int32 → AH → Prop} (hQ : ∀ (y0 : Int64) (h : AH), ZZ L0 xs0 h → Q y0 h → Q' y0 h) (hK368 : ∀ (y0 : Int64) (y1 : Int32) (h : AH), ZZ L0 xs0 h → K368 y0 y1 h → K368' y0 y1 h) {v0 : Nat} {v3 : Int32} : ∀ (n : Nat) (w0 : Int64) (w1 : Int32) (h : AH), ZZ L0 xs0 h → L_X12_digest_390 Q K368 v0 v3 n w0 w1 h → L_X12_digest_390 Q' K368' v0 v3 n w0 w1 h := by
  intro n
  induction n with
  | zero => intro w0 w1 h z H; exact H.elim
  | succ n ih => intro w0 w1 h z; exact z_B_X12_digest_390 hQ hK368 ih z
theorem z_B_X12_digest_368 {L0 : Nat} {xs0 : Nat → Int32} {Q Q' : Int64 → AH → Prop} {K368 K368' : Int64 → Int32 → AH → Prop} (hQ : ∀ (y0 : Int64) (h : AH), ZZ L0 xs0 h → Q y0 h → Q' y0 h) (hK368 : ∀ (y0 : Int64) (y1 : Int32) (h : AH), ZZ L0 xs0 h → K368 y0 y1 h → K368' y0 y1 h) {v0 : Nat} {v1 : Int64} {v3 : Int32} {h : AH} (z : ZZ L0 xs0 h) : B_X12_digest_368 Q K368 v0 v1 v3 h → B_X12_digest_368 Q' K368' v0 v1 v3 h := by
  unfold B_X12_digest_368
  repeat' first
    | with_reducible exact hQ _ _ (by assumption)
    | with_reducible exact hK368 _ _ _ (by assumption)
    | with_reducible refine zm_and ?_ ?_
    | with_reducible refine zm_gR (fun x => ?_)
    | with_reducible refine zm_lI (fun x => ?_)
    | with_reducible refine zm_ex (fun x => ?_)
    | with_reducible refine z_L_X12_digest_390 (fun y0 h1 z1 => ?_) (fun y0 y1 h1 z1 => ?_) _ _ _ _ (by assumption)
    | with_reducible refine zm_imp (fun _ => ?_)
    | with_reducible exact id
theorem z_L_X12_digest_368 {L0 : Nat} {xs0 : Nat → Int32} {Q Q' : Int64 → AH → Prop} (hQ : ∀ (y0 : Int64) (h : AH), ZZ L0 xs0 h → Q y0 h → Q' y0 h) {v0 : Nat} : ∀ (n : Nat) (w0 : Int64) (w1 : Int32) (h : AH), ZZ L0 xs0 h → L_X12_digest_368 Q v0 n w0 w1 h → L_X12_digest_368 Q' v0 n w0 w1 h := by
  intro n
  induction n with
  | zero => intro w0 w1 h z H; exact H.elim
  | succ n ih => intro w0 w1 h z; exact z_B_X12_digest_368 hQ ih z
theorem z_B_X12_digest_300 {L0 : Nat} {xs0 : Nat → Int32} {Q Q' : Int64 → AH → Prop} {K300 K300' : Int64 → Int32 → AH → Prop} (hQ : ∀ (y0 : Int64) (h : AH), ZZ L0 xs0 h → Q y0 h → Q' y0 h) (hK300 : ∀ (y0 : Int64) (y1 : Int32) (h : AH), ZZ L0 xs0 h → K300 y0 y1 h → K300' y0 y1 h) {v0 : Nat} {v1 : Int64} {v3 : Int32} {h : AH} (z : ZZ L0 xs0 h) : B_X12_digest_300 Q K300 v0 v1 v3 h → B_X12_digest_300 Q' K300' v0 v1 v3 h := by
  unfold B_X12_digest_300
  repeat' first
    | with_reducible exact hQ _ _ (by assumption)
    | with_reducible exact hK300 _ _ _ (by assumption)
    | with_reducible refine zm_and ?_ ?_
    | with_reducible refine zm_gR (fun x => ?_)
    | with_reducible refine zm_lI (fun x => ?_)
    | with_reducible refine zm_ex (fun x => ?_)
    | with_reducible refine z_L_X12_digest_323 (fun y0 h1 z1 => ?_) (fun y0 y1 h1 z1 => ?_) _ _ _ _ (by assumption)
    | with_reducible refine z_L_X12_digest_368 (fun y0 h1 z1 => ?_) _ _ _ _ (by assumption)
    | with_reducible refine zm_imp (fun _ => ?_)
    | with_reducible exact id
theorem z_L_X12_digest_300 {L0 : Nat} {xs0 : Nat → Int32} {Q Q' : Int64 → AH → Prop} (hQ : ∀ (y0 : Int64) (h : AH), ZZ L0 xs0 h → Q y0 h → Q' y0 h) {v0 : Nat} : ∀ (n : Nat) (w0 : Int64) (w1 : Int32) (h : AH), ZZ L0 xs0 h → L_X12_digest_300 Q v0 n w0 w1 h → L_X12_digest_300 Q' v0 n w0 w1 h := by
  intro n
  induction n with
  | zero => intro w0 w1 h z H; exact H.elim
  | succ n ih => intro w0 w1 h z; exact z_B_X12_digest_300 hQ ih z
theorem z_B_X12_digest_211 {L0 : Nat} {xs0 : Nat → Int32} {Q Q' : Int64 → AH → Prop} {K211 K211' : Int64 → Int32 → AH → Prop} (hQ : ∀ (y0 : Int64) (h : AH), ZZ L0 xs0 h → Q y0 h → Q' y0 h) (hK211 : ∀ (y0 : Int64) (y1 : Int32) (h : AH), ZZ L0 xs0 h → K211 y0 y1 h → K211' y0 y1 h) {v0 : Nat} {v1 : Int64} {v3 : Int32} {h : AH} (z : ZZ L0 xs0 h) : B_X12_digest_211 Q K211 v0 v1 v3 h → B_X12_digest_211 Q' K211' v0 v1 v3 h := by
  unfold B_X12_digest_211
  repeat' first
    | with_reducible exact hQ _ _ (by assumption)
    | with_reducible exact hK211 _ _ _ (by assumption)
    | with_reducible refine zm_and ?_ ?_
    | with_reducible refine zm_ex (fun x => ?_)
    | with_reducible refine z_L_X12_digest_219 (fun y0 h1 z1 => ?_) (fun y0 y1 h1 z1 => ?_) _ _ _ _ (by assumption)
    | with_reducible refine z_L_X12_digest_300 (fun y0 h1 z1 => ?_) _ _ _ _ (by assumption)
    | with_reducible refine zm_imp (fun _ => ?_)
    | with_reducible exact id
theorem z_L_X12_digest_211 {L0 : Nat} {xs0 : Nat → Int32} {Q Q' : Int64 → AH → Prop} (hQ : ∀ (y0 : Int64) (h : AH), ZZ L0 xs0 h → Q y0 h → Q' y0 h) {v0 : Nat} : ∀ (n : Nat) (w0 : Int64) (w1 : Int32) (h : AH), ZZ L0 xs0 h → L_X12_digest_211 Q v0 n w0 w1 h → L_X12_digest_211 Q' v0 n w0 w1 h := by
  intro n
  induction n with
  | zero => intro w0 w1 h z H; exact H.elim
  | succ n ih => intro w0 w1 h z; exact z_B_X12_digest_211 hQ ih z
theorem z_B_X12_digest_181 {L0 : Nat} {xs0 : Nat → Int32} {Q Q' : Int64 → AH → Prop} {K181 K181' : Int64 → Int32 → AH → Prop} (hQ : ∀ (y0 : Int64) (h : AH), ZZ L0 xs0 h → Q y0 h → Q' y0 h) (hK181 : ∀ (y0 : Int64) (y1 : Int32) (h : AH), ZZ L0 xs0 h → K181 y0 y1 h → K181' y0 y1 h) {v0 : Nat} {v1 : Int64} {v3 : Int32} {h : AH} (z : ZZ L0 xs0 h) : B_X12_digest_181 Q K181 v0 v1 v3 h → B_X12_digest_181 Q' K181' v0 v1 v3 h := by
  unfold B_X12_digest_181
  repeat' first
    | with_reducible exact hQ _ _ (by assumption)
    | with_reducible exact hK181 _ _ _ (by assumption)
    | with_reducible refine zm_and ?_ ?_
    | with_reducible refine zm_gI (fun x => ?_)
    | with_reducible refine zm_gR (fun x => ?_)
    | with_reducible refine zm_lI (fun x => ?_)
    | with_reducible refine zm_ex (fun x => ?_)
    | with_reducible refine z_L_X12_digest_211 (fun y0 h1 z1 => ?_) _ _ _ _ (by assumption)
    | with_reducible refine zm_imp (fun _ => ?_)
    | with_reducible exact id
theorem z_L_X12_digest_181 {L0 : Nat} {xs0 : Nat → Int32} {Q Q' : Int64 → AH → Prop} (hQ : ∀ (y0 : Int64) (h : AH), ZZ L0 xs0 h → Q y0 h → Q' y0 h) {v0 : Nat} : ∀ (n : Nat) (w0 : Int64) (w1 : Int32) (h : AH), ZZ L0 xs0 h → L_X12_digest_181 Q v0 n w0 w1 h → L_X12_digest_181 Q' v0 n w0 w1 h := by
  intro n
  induction n with
  | zero => intro w0 w1 h z H; exact H.elim
  | succ n ih => intro w0 w1 h z; exact z_B_X12_digest_181 hQ ih z
theorem z_B_X12_digest_115 {L0 : Nat} {xs0 : Nat → Int32} {Q Q' : Int64 → AH → Prop} {K115 K115' : Int64 → Int32 → AH → Prop} (hQ : ∀ (y0 : Int64) (h : AH), ZZ L0 xs0 h → Q y0 h → Q' y0 h) (hK115 : ∀ (y0 : Int64) (y1 : Int32) (h : AH), ZZ L0 xs0 h → K115 y0 y1 h → K115' y0 y1 h) {v0 : Nat} {v1 : Int64} {v3 : Int32} {h : AH} (z : ZZ L0 xs0 h) : B_X12_digest_115 Q K115 v0 v1 v3 h → B_X12_digest_115 Q' K115' v0 v1 v3 h := by
  unfold B_X12_digest_115
  repeat' first
    | with_reducible exact hQ _ _ (by assumption)
    | with_reducible exact hK115 _ _ _ (by assumption)
    | with_reducible refine zm_and ?_ ?_
    | with_reducible refine zm_gI (fun x => ?_)
    | with_reducible refine zm_gR (fun x => ?_)
    | with_reducible refine zm_lI (fun x => ?_)
    | with_reducible refine zm_ex (fun x => ?_)
    | with_reducible refine z_L_X12_digest_181 (fun y0 h1 z1 => ?_) _ _ _ _ (by assumption)
    | with_reducible refine zm_imp (fun _ => ?_)
    | with_reducible exact id
theorem z_L_X12_digest_115 {L0 : Nat} {xs0 : Nat → Int32} {Q Q' : Int64 → AH → Prop} (hQ : ∀ (y0 : Int64) (h : AH), ZZ L0 xs0 h → Q y0 h → Q' y0 h) {v0 : Nat} : ∀ (n : Nat) (w0 : Int64) (w1 : Int32) (h : AH), ZZ L0 xs0 h → L_X12_digest_115 Q v0 n w0 w1 h → L_X12_digest_115 Q' v0 n w0 w1 h := by
  intro n
  induction n with
  | zero => intro w0 w1 h z H; exact H.elim
  | succ n ih => intro w0 w1 h z; exact z_B_X12_digest_115 hQ ih z
theorem z_B_X12_digest_45 {L0 : Nat} {xs0 : Nat → Int32} {Q Q' : Int64 → AH → Prop} {K45 K45' : Int64 → Int32 → AH → Prop} (hQ : ∀ (y0 : Int64) (h : AH), ZZ L0 xs0 h → Q y0 h → Q' y0 h) (hK45 : ∀ (y0 : Int64) (y1 : Int32) (h : AH), ZZ L0 xs0 h → K45 y0 y1 h → K45' y0 y1 h) {v0 : Nat} {v1 : Int64} {v3 : Int32} {h : AH} (z : ZZ L0 xs0 h) : B_X12_digest_45 Q K45 v0 v1 v3 h → B_X12_digest_45 Q' K45' v0 v1 v3 h := by
  unfold B_X12_digest_45
  repeat' first
    | with_reducible exact hQ _ _ (by assumption)
    | with_reducible exact hK45 _ _ _ (by assumption)
    | with_reducible refine zm_and ?_ ?_
    | with_reducible refine zm_gI (fun x => ?_)
    | with_reducible refine zm_gR (fun x => ?_)
    | with_reducible refine zm_lI (fun x => ?_)
    | with_reducible refine zm_ex (fun x => ?_)
    | with_reducible refine z_L_X12_digest_115 (fun y0 h1 z1 => ?_) _ _ _ _ (by assumption)
    | with_reducible refine z_f_X12_home (fun y0 h1 z1 => ?_) (by assumption)
    | with_reducible refine z_f_X12_spotOf (fun y0 h1 z1 => ?_) (by assumption)
    | with_reducible refine z_f_X12_told (fun y0 h1 z1 => ?_) (by assumption)
    | with_reducible refine zm_imp (fun _ => ?_)
    | with_reducible exact id
theorem z_L_X12_digest_45 {L0 : Nat} {xs0 : Nat → Int32} {Q Q' : Int64 → AH → Prop} (hQ : ∀ (y0 : Int64) (h : AH), ZZ L0 xs0 h → Q y0 h → Q' y0 h) {v0 : Nat} : ∀ (n : Nat) (w0 : Int64) (w1 : Int32) (h : AH), ZZ L0 xs0 h → L_X12_digest_45 Q v0 n w0 w1 h → L_X12_digest_45 Q' v0 n w0 w1 h := by
  intro n
  induction n with
  | zero => intro w0 w1 h z H; exact H.elim
  | succ n ih => intro w0 w1 h z; exact z_B_X12_digest_45 hQ ih z
theorem z_B_X12_digest_6 {L0 : Nat} {xs0 : Nat → Int32} {Q Q' : Int64 → AH → Prop} {K6 K6' : Int64 → Int32 → AH → Prop} (hQ : ∀ (y0 : Int64) (h : AH), ZZ L0 xs0 h → Q y0 h → Q' y0 h) (hK6 : ∀ (y0 : Int64) (y1 : Int32) (h : AH), ZZ L0 xs0 h → K6 y0 y1 h → K6' y0 y1 h) {v0 : Nat} {v1 : Int64} {v3 : Int32} {h : AH} (z : ZZ L0 xs0 h) : B_X12_digest_6 Q K6 v0 v1 v3 h → B_X12_digest_6 Q' K6' v0 v1 v3 h := by
  unfold B_X12_digest_6
  repeat' first
    | with_reducible exact hQ _ _ (by assumption)
    | with_reducible exact hK6 _ _ _ (by assumption)
    | with_reducible refine zm_and ?_ ?_
    | with_reducible refine zm_gI (fun x => ?_)
    | with_reducible refine zm_ex (fun x => ?_)
    | with_reducible refine z_L_X12_digest_45 (fun y0 h1 z1 => ?_) _ _ _ _ (by assumption)
    | with_reducible refine z_f_X12_count (fun y0 h1 z1 => ?_) (by assumption)
    | with_reducible refine zm_imp (fun _ => ?_)
    | with_reducible exact id
theorem z_L_X12_digest_6 {L0 : Nat} {xs0 : Nat → Int32} {Q Q' : Int64 → AH → Prop} (hQ : ∀ (y0 : Int64) (h : AH), ZZ L0 xs0 h → Q y0 h → Q' y0 h) {v0 : Nat} : ∀ (n : Nat) (w0 : Int64) (w1 : Int32) (h : AH), ZZ L0 xs0 h → L_X12_digest_6 Q v0 n w0 w1 h → L_X12_digest_6 Q' v0 n w0 w1 h := by
  intro n
  induction n with
  | zero => intro w0 w1 h z H; exact H.elim
  | succ n ih => intro w0 w1 h z; exact z_B_X12_digest_6 hQ ih z
theorem z_f_X12_digest {L0 : Nat} {xs0 : Nat → Int32} {Q Q' : Int64 → AH → Prop} (hQ : ∀ (y0 : Int64) (h : AH), ZZ L0 xs0 h → Q y0 h → Q' y0 h) {v0 : Nat} {h : AH} (z : ZZ L0 xs0 h) : f_X12_digest v0 h Q → f_X12_digest v0 h Q' := by
  unfold f_X12_digest
  repeat' first
    | with_reducible exact hQ _ _ (by assumption)
    | with_reducible refine zm_and ?_ ?_
    | with_reducible refine zm_ex (fun x => ?_)
    | with_reducible refine z_L_X12_digest_6 (fun y0 h1 z1 => ?_) _ _ _ _ (by assumption)
    | with_reducible refine zm_imp (fun _ => ?_)
    | with_reducible exact id
