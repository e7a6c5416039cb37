/-! the frame, 1 -/
theorem z_B_X9_firstOn_56 {L0 : Nat} {xs0 : Nat → Int32} {Q Q' : Int32 → AH → Prop} {K17 K17' : Int32 → Int32 → Int32 → AH → Prop} (hQ : ∀ (y0 : Int32) (h : AH), ZZ L0 xs0 h → Q y0 h → Q' y0 h) (hK17 : ∀ (y0 : Int32) (y1 : Int32) (y2 : Int32) (h : AH), ZZ L0 xs0 h → K17 y0 y1 y2 h → K17' y0 y1 y2 h) {v0 : Nat} {v1 : Int32} {v2 : Int32} {v3 : Int32} {v4 : Int32} {v5 : Int32} {v6 : Int32} {v7 : Int32} {v8 : Int32} {t0 : Int32} {h : AH} (z : ZZ L0 xs0 h) : B_X9_firstOn_56 Q K17 v0 v1 v2 v3 v4 v5 v6 v7 v8 t0 h → B_X9_firstOn_56 Q' K17' v0 v1 v2 v3 v4 v5 v6 v7 v8 t0 h := by
  unfold B_X9_firstOn_56
  repeat' first
    | with_reducible exact hQ _ _ (by assumption)
    | with_reducible exact hK17 _ _ _ _ (by assumption)
    | with_reducible refine zm_and ?_ ?_
    | with_reducible refine zm_gR (fun x => ?_)
    | with_reducible refine z_B_X9_firstOn_102 (fun y0 h1 z1 => ?_) (fun y0 y1 y2 h1 z1 => ?_) (by assumption)
    | with_reducible refine z_f_X5_turnOf (fun y0 h1 z1 => ?_) (by assumption)
    | with_reducible refine zm_imp (fun _ => ?_)
    | with_reducible exact id
theorem z_B_X9_firstOn_17 {L0 : Nat} {xs0 : Nat → Int32} {Q Q' : Int32 → AH → Prop} {K17 K17' : Int32 → Int32 → Int32 → AH → Prop} (hQ : ∀ (y0 : Int32) (h : AH), ZZ L0 xs0 h → Q y0 h → Q' y0 h) (hK17 : ∀ (y0 : Int32) (y1 : Int32) (y2 : Int32) (h : AH), ZZ L0 xs0 h → K17 y0 y1 y2 h → K17' y0 y1 y2 h) {v0 : Nat} {v1 : Int32} {v2 : Int32} {v3 : Int32} {v6 : Int32} {v4 : Int32} {v5 : Int32} {v7 : Int32} {h : AH} (z : ZZ L0 xs0 h) : B_X9_firstOn_17 Q K17 v0 v1 v2 v3 v6 v4 v5 v7 h → B_X9_firstOn_17 Q' K17' v0 v1 v2 v3 v6 v4 v5 v7 h := by
  unfold B_X9_firstOn_17
  repeat' first
    | with_reducible exact hQ _ _ (by assumption)
    | with_reducible exact hK17 _ _ _ _ (by assumption)
    | with_reducible refine zm_and ?_ ?_
    | with_reducible refine zm_gI (fun x => ?_)
    | with_reducible refine zm_gR (fun x => ?_)
    | with_reducible refine z_B_X9_firstOn_56 (fun y0 h1 z1 => ?_) (fun y0 y1 y2 h1 z1 => ?_) (by assumption)
    | with_reducible refine z_f_X5_postOf (fun y0 h1 z1 => ?_) (by assumption)
    | with_reducible refine zm_imp (fun _ => ?_)
    | with_reducible exact id
theorem z_L_X9_firstOn_17 {L0 : Nat} {xs0 : Nat → Int32} {Q Q' : Int32 → AH → Prop} (hQ : ∀ (y0 : Int32) (h : AH), ZZ L0 xs0 h → Q y0 h → Q' y0 h) {v0 : Nat} {v1 : Int32} {v2 : Int32} {v3 : Int32} {v6 : Int32} : ∀ (n : Nat) (w0 : Int32) (w1 : Int32) (w2 : Int32) (h : AH), ZZ L0 xs0 h → L_X9_firstOn_17 Q v0 v1 v2 v3 v6 n w0 w1 w2 h → L_X9_firstOn_17 Q' v0 v1 v2 v3 v6 n w0 w1 w2 h := by
  intro n
  induction n with
  | zero => intro w0 w1 w2 h z H; exact H.elim
  | succ n ih => intro w0 w1 w2 h z; exact z_B_X9_firstOn_17 hQ ih z
theorem z_f_X9_firstOn {L0 : Nat} {xs0 : Nat → Int32} {Q Q' : Int32 → AH → Prop} (hQ : ∀ (y0 : Int32) (h : AH), ZZ L0 xs0 h → Q y0 h → Q' y0 h) {v0 : Nat} {v1 : Int32} {v2 : Int32} {v3 : Int32} {h : AH} (z : ZZ L0 xs0 h) : f_X9_firstOn v0 v1 v2 v3 h Q → f_X9_firstOn v0 v1 v2 v3 h Q' := by
  unfold f_X9_firstOn
  repeat' first
    | with_reducible exact hQ _ _ (by assumption)
    | with_reducible refine zm_and ?_ ?_
    | with_reducible refine zm_ex (fun x => ?_)
    | with_reducible refine z_L_X9_firstOn_17 (fun y0 h1 z1 => ?_) _ _ _ _ _ (by assumption)
    | with_reducible refine zm_imp (fun _ => ?_)
    | with_reducible exact id
theorem z_f_X9_postNow {L0 : Nat} {xs0 : Nat → Int32} {Q Q' : Int32 → AH → Prop} (hQ : ∀ (y0 : Int32) (h : AH), ZZ L0 xs0 h → Q y0 h → Q' y0 h) {v0 : Nat} {v1 : Int32} {h : AH} (z : ZZ L0 xs0 h) : f_X9_postNow v0 v1 h Q → f_X9_postNow v0 v1 h Q' := by
  unfold f_X9_postNow
  repeat' first
    | with_reducible exact hQ _ _ (by assumption)
    | with_reducible refine zm_and ?_ ?_
    | with_reducible refine zm_gI (fun x => ?_)
    | with_reducible refine z_f_X5_postOf (fun y0 h1 z1 => ?_) (by assumption)
    | with_reducible refine zm_imp (fun _ => ?_)
    | with_reducible exact id
theorem z_f_X10_nextTo {L0 : Nat} {xs0 : Nat → Int32} {Q Q' : Int32 → AH → Prop} (hQ : ∀ (y0 : Int32) (h : AH), ZZ L0 xs0 h → Q y0 h → Q' y0 h) {v0 : Int32} {v1 : Int32} {h : AH} (z : ZZ L0 xs0 h) : f_X10_nextTo v0 v1 h Q → f_X10_nextTo v0 v1 h Q' := by
  unfold f_X10_nextTo
  repeat' first
    | with_reducible exact hQ _ _ (by assumption)
    | with_reducible refine zm_and ?_ ?_
    | with_reducible refine zm_imp (fun _ => ?_)
    | with_reducible exact id
theorem z_f_X10_goalFrom {L0 : Nat} {xs0 : Nat → Int32} {Q Q' : Int32 → AH → Prop} (hQ : ∀ (y0 : Int32) (h : AH), ZZ L0 xs0 h → Q y0 h → Q' y0 h) {v0 : Nat} {v1 : Int32} {v2 : Int32} {h : AH} (z : ZZ L0 xs0 h) : f_X10_goalFrom v0 v1 v2 h Q → f_X10_goalFrom v0 v1 v2 h Q' := by
  unfold f_X10_goalFrom
  repeat' first
    | with_reducible exact hQ _ _ (by assumption)
    | with_reducible refine zm_and ?_ ?_
    | with_reducible refine z_f_X10_nextTo (fun y0 h1 z1 => ?_) (by assumption)
    | with_reducible refine zm_imp (fun _ => ?_)
    | with_reducible exact id
theorem z_f_X3_goalFrom {L0 : Nat} {xs0 : Nat → Int32} {Q Q' : Int32 → AH → Prop} (hQ : ∀ (y0 : Int32) (h : AH), ZZ L0 xs0 h → Q y0 h → Q' y0 h) {v0 : Nat} {v1 : Int32} {v2 : Int32} {h : AH} (z : ZZ L0 xs0 h) : f_X3_goalFrom v0 v1 v2 h Q → f_X3_goalFrom v0 v1 v2 h Q' := by
  unfold f_X3_goalFrom
  repeat' first
    | with_reducible exact hQ _ _ (by assumption)
    | with_reducible refine zm_and ?_ ?_
    | with_reducible refine zm_imp (fun _ => ?_)
    | with_reducible exact id
theorem z_v_goalFrom0 {L0 : Nat} {xs0 : Nat → Int32} {Q Q' : Int32 → AH → Prop} (hQ : ∀ (y0 : Int32) (h : AH), ZZ L0 xs0 h → Q y0 h → Q' y0 h) {a : Nat} {u0 : Int32} {u1 : Int32} {h : AH} (z : ZZ L0 xs0 h) : v_goalFrom0 a u0 u1 h Q → v_goalFrom0 a u0 u1 h Q' := by
  unfold v_goalFrom0
  repeat' first
    | with_reducible exact hQ _ _ (by assumption)
    | with_reducible refine zm_and ?_ ?_
    | with_reducible refine zm_ex (fun x => ?_)
    | with_reducible refine zm_or ?_ ?_
    | with_reducible refine z_f_X10_goalFrom (fun y0 h1 z1 => ?_) (by assumption)
    | with_reducible refine z_f_X3_goalFrom (fun y0 h1 z1 => ?_) (by assumption)
    | with_reducible refine zm_imp (fun _ => ?_)
    | with_reducible exact id
theorem z_f_X9_carry {L0 : Nat} {xs0 : Nat → Int32} {Q Q' : AH → Prop} (hQ : ∀ (h : AH), ZZ L0 xs0 h → Q  h → Q'  h) {v0 : Nat} {v1 : Int32} {v2 : Int32} {h : AH} (z : ZZ L0 xs0 h) : f_X9_carry v0 v1 v2 h Q → f_X9_carry v0 v1 v2 h Q' := by
  unfold f_X9_carry
  repeat' first
    | with_reducible exact hQ _ (by assumption)
    | with_reducible refine zm_and ?_ ?_
    | with_reducible refine zm_gI (fun x => ?_)
    | with_reducible refine zm_gR (fun x => ?_)
    | with_reducible refine zm_lI (fun x => ?_)
    | with_reducible refine zm_pF (by assumption) (fun h1 z1 => ?_)
    | with_reducible refine z_f_X5_withPost (fun y0 h1 z1 => ?_) (by assumption)
    | with_reducible refine zm_imp (fun _ => ?_)
    | with_reducible exact id
theorem z_f_X10_goOneWay {L0 : Nat} {xs0 : Nat → Int32} {Q Q' : AH → Prop} (hQ : ∀ (h : AH), ZZ L0 xs0 h → Q  h → Q'  h) {v0 : Nat} {v1 : Nat} {v2 : Int32} {v3 : Int32} {h : AH} (z : ZZ L0 xs0 h) : f_X10_goOneWay v0 v1 v2 v3 h Q → f_X10_goOneWay v0 v1 v2 v3 h Q' := by
  unfold f_X10_goOneWay
  repeat' first
    | with_reducible exact hQ _ (by assumption)
    | with_reducible refine zm_and ?_ ?_
    | with_reducible refine zm_gI (fun x => ?_)
    | with_reducible refine z_f_X9_carry (fun  h1 z1 => ?_) (by assumption)
    | with_reducible refine z_f_X9_firstOn (fun y0 h1 z1 => ?_) (by assumption)
    | with_reducible refine z_f_X9_postNow (fun y0 h1 z1 => ?_) (by assumption)
    | with_reducible refine z_v_goalFrom0 (fun y0 h1 z1 => ?_) (by assumption)
    | with_reducible refine zm_imp (fun _ => ?_)
    | with_reducible exact id
theorem z_v_goOneWay0 {L0 : Nat} {xs0 : Nat → Int32} {Q Q' : AH → Prop} (hQ : ∀ (h : AH), ZZ L0 xs0 h → Q  h → Q'  h) {a : Nat} {u0 : Nat} {u1 : Int32} {u2 : Int32} {h : AH} (z : ZZ L0 xs0 h) : v_goOneWay0 a u0 u1 u2 h Q → v_goOneWay0 a u0 u1 u2 h Q' := by
  unfold v_goOneWay0
  repeat' first
    | with_reducible exact hQ _ (by assumption)
    | with_reducible refine zm_and ?_ ?_
    | with_reducible refine zm_ex (fun x => ?_)
    | with_reducible refine zm_or ?_ ?_
    | with_reducible refine z_f_X10_goOneWay (fun  h1 z1 => ?_) (by assumption)
    | with_reducible refine zm_imp (fun _ => ?_)
    | with_reducible exact id
theorem z_v_goOneWay1 {L0 : Nat} {xs0 : Nat → Int32} {Q Q' : AH → Prop} (hQ : ∀ (h : AH), ZZ L0 xs0 h → Q  h → Q'  h) {a : Nat} {u0 : Nat} {u1 : Int32} {u2 : Int32} {h : AH} (z : ZZ L0 xs0 h) : v_goOneWay1 a u0 u1 u2 h Q → v_goOneWay1 a u0 u1 u2 h Q' := by
  unfold v_goOneWay1
  repeat' first
    | with_reducible exact hQ _ (by assumption)
    | with_reducible refine zm_and ?_ ?_
    | with_reducible refine zm_ex (fun x => ?_)
    | with_reducible refine zm_or ?_ ?_
    | with_reducible refine z_f_X10_goOneWay (fun  h1 z1 => ?_) (by assumption)
    | with_reducible refine zm_imp (fun _ => ?_)
    | with_reducible exact id
theorem z_v_goOneWay2 {L0 : Nat} {xs0 : Nat → Int32} {Q Q' : AH → Prop} (hQ : ∀ (h : AH), ZZ L0 xs0 h → Q  h → Q'  h) {a : Nat} {u0 : Nat} {u1 : Int32} {u2 : Int32} {h : AH} (z : ZZ L0 xs0 h) : v_goOneWay2 a u0 u1 u2 h Q → v_goOneWay2 a u0 u1 u2 h Q' := by
  unfold v_goOneWay2
  repeat' first
    | with_reducible exact hQ _ (by assumption)
    | with_reducible refine zm_and ?_ ?_
    | with_reducible refine zm_ex (fun x => ?_)
    | with_reducible refine zm_or ?_ ?_
    | with_reducible refine z_f_X10_goOneWay (fun  h1 z1 => ?_) (by assumption)
    | with_reducible refine zm_imp (fun _ => ?_)
    | with_reducible exact id
theorem z_f_X0_go {L0 : Nat} {xs0 : Nat → Int32} {Q Q' : AH → Prop} (hQ : ∀ (h : AH), ZZ L0 xs0 h → Q  h → Q'  h) {v0 : Nat} {v1 : Nat} {h : AH} (z : ZZ L0 xs0 h) : f_X0_go v0 v1 h Q → f_X0_go v0 v1 h Q' := by
  unfold f_X0_go
  repeat' first
    | with_reducible exact hQ _ (by assumption)
    | with_reducible refine zm_and ?_ ?_
    | with_reducible refine zm_gW (fun x => ?_)
    | with_reducible refine z_v_goOneWay0 (fun  h1 z1 => ?_) (by assumption)
    | with_reducible refine zm_imp (fun _ => ?_)
    | with_reducible exact id
theorem z_v_go0 {L0 : Nat} {xs0 : Nat → Int32} {Q Q' : AH → Prop} (hQ : ∀ (h : AH), ZZ L0 xs0 h → Q  h → Q'  h) {a : Nat} {u0 : Nat} {h : AH} (z : ZZ L0 xs0 h) : v_go0 a u0 h Q → v_go0 a u0 h Q' := by
  unfold v_go0
  repeat' first
    | with_reducible exact hQ _ (by assumption)
    | with_reducible refine zm_and ?_ ?_
    | with_reducible refine zm_ex (fun x => ?_)
    | with_reducible refine zm_or ?_ ?_
    | with_reducible refine z_f_X0_go (fun  h1 z1 => ?_) (by assumption)
    | with_reducible refine zm_imp (fun _ => ?_)
    | with_reducible exact id
theorem z_B_X9_unmoved_4 {L0 : Nat} {xs0 : Nat → Int32} {Q Q' : Int32 → AH → Prop} {K4 K4' : Int32 → Int32 → AH → Prop} (hQ : ∀ (y0 : Int32) (h : AH), ZZ L0 xs0 h → Q y0 h → Q' y0 h) (hK4 : ∀ (y0 : Int32) (y1 : Int32) (h : AH), ZZ L0 xs0 h → K4 y0 y1 h → K4' y0 y1 h) {v0 : Nat} {v1 : Int32} {v2 : Int32} {h : AH} (z : ZZ L0 xs0 h) : B_X9_unmoved_4 Q K4 v0 v1 v2 h → B_X9_unmoved_4 Q' K4' v0 v1 v2 h := by
  unfold B_X9_unmoved_4
  repeat' first
    | with_reducible exact hQ _ _ (by assumption)
    | with_reducible exact hK4 _ _ _ (by assumption)
    | with_reducible refine zm_and ?_ ?_
    | with_reducible refine zm_gI (fun x => ?_)
    | with_reducible refine zm_gR (fun x => ?_)
    | with_reducible refine z_f_X5_postOf (fun y0 h1 z1 => ?_) (by assumption)
    | with_reducible refine zm_imp (fun _ => ?_)
    | with_reducible exact id
theorem z_L_X9_unmoved_4 {L0 : Nat} {xs0 : Nat → Int32} {Q Q' : Int32 → AH → Prop} (hQ : ∀ (y0 : Int32) (h : AH), ZZ L0 xs0 h → Q y0 h → Q' y0 h) {v0 : Nat} : ∀ (n : Nat) (w0 : Int32) (w1 : Int32) (h : AH), ZZ L0 xs0 h → L_X9_unmoved_4 Q v0 n w0 w1 h → L_X9_unmoved_4 Q' v0 n w0 w1 h := by
  intro n
  induction n with
  | zero => intro w0 w1 h z H; exact H.elim
  | succ n ih => intro w0 w1 h z; exact z_B_X9_unmoved_4 hQ ih z
theorem z_f_X9_unmoved {L0 : Nat} {xs0 : Nat → Int32} {Q Q' : Int32 → AH → Prop} (hQ : ∀ (y0 : Int32) (h : AH), ZZ L0 xs0 h → Q y0 h → Q' y0 h) {v0 : Nat} {h : AH} (z : ZZ L0 xs0 h) : f_X9_unmoved v0 h Q → f_X9_unmoved v0 h Q' := by
  unfold f_X9_unmoved
  repeat' first
    | with_reducible exact hQ _ _ (by assumption)
    | with_reducible refine zm_and ?_ ?_
    | with_reducible refine zm_ex (fun x => ?_)
    | with_reducible refine z_L_X9_unmoved_4 (fun y0 h1 z1 => ?_) _ _ _ _ (by assumption)
    | with_reducible refine zm_imp (fun _ => ?_)
    | with_reducible exact id
theorem z_f_X0_tell {L0 : Nat} {xs0 : Nat → Int32} {Q Q' : Int32 → AH → Prop} (hQ : ∀ (y0 : Int32) (h : AH), ZZ L0 xs0 h → Q y0 h → Q' y0 h) {v0 : Nat} {v1 : Int32} {v2 : Nat} {h : AH} (z : ZZ L0 xs0 h) : f_X0_tell v0 v1 v2 h Q → f_X0_tell v0 v1 v2 h Q' := by
  unfold f_X0_tell
  repeat' first
    | with_reducible exact hQ _ _ (by assumption)
    | with_reducible refine zm_and ?_ ?_
    | with_reducible refine z_f_X10_tell (fun y0 h1 z1 => ?_) (by assumption)
    | with_reducible refine z_f_X9_unmoved (fun y0 h1 z1 => ?_) (by assumption)
    | with_reducible refine z_v_go0 (fun  h1 z1 => ?_) (by assumption)
    | with_reducible refine zm_imp (fun _ => ?_)
    | with_reducible exact id
theorem z_B_X1_go_40 {L0 : Nat} {xs0 : Nat → Int32} {Q Q' : AH → Prop} {K40 K40' : Int32 → Int32 → AH → Prop} (hQ : ∀ (h : AH), ZZ L0 xs0 h → Q  h → Q'  h) (hK40 : ∀ (y0 : Int32) (y1 : Int32) (h : AH), ZZ L0 xs0 h → K40 y0 y1 h → K40' y0 y1 h) {v1 : Nat} {v3 : Int32} {v4 : Int32} {v2 : Int32} {v5 : Int32} {h : AH} (z : ZZ L0 xs0 h) : B_X1_go_40 Q K40 v1 v3 v4 v2 v5 h → B_X1_go_40 Q' K40' v1 v3 v4 v2 v5 h := by
  unfold B_X1_go_40
  repeat' first
    | with_reducible exact hQ _ (by assumption)
    | with_reducible exact hK40 _ _ _ (by assumption)
    | with_reducible refine zm_and ?_ ?_
    | with_reducible refine zm_gI (fun x => ?_)
    | with_reducible refine z_f_X9_carry (fun  h1 z1 => ?_) (by assumption)
    | with_reducible refine z_f_X9_firstOn (fun y0 h1 z1 => ?_) (by assumption)
    | with_reducible refine zm_imp (fun _ => ?_)
    | with_reducible exact id
theorem z_L_X1_go_40 {L0 : Nat} {xs0 : Nat → Int32} {Q Q' : AH → Prop} (hQ : ∀ (h : AH), ZZ L0 xs0 h → Q  h → Q'  h) {v1 : Nat} {v3 : Int32} {v4 : Int32} : ∀ (n : Nat) (w0 : Int32) (w1 : Int32) (h : AH), ZZ L0 xs0 h → L_X1_go_40 Q v1 v3 v4 n w0 w1 h → L_X1_go_40 Q' v1 v3 v4 n w0 w1 h := by
  intro n
  induction n with
  | zero => intro w0 w1 h z H; exact H.elim
  | succ n ih => intro w0 w1 h z; exact z_B_X1_go_40 hQ ih z
theorem z_f_X1_go {L0 : Nat} {xs0 : Nat → Int32} {Q Q' : AH → Prop} (hQ : ∀ (h : AH), ZZ L0 xs0 h → Q  h → Q'  h) {v0 : Nat} {v1 : Nat} {h : AH} (z : ZZ L0 xs0 h) : f_X1_go v0 v1 h Q → f_X1_go v0 v1 h Q' := by
  unfold f_X1_go
  repeat' first
    | with_reducible exact hQ _ (by assumption)
    | with_reducible refine zm_and ?_ ?_
    | with_reducible refine zm_gI (fun x => ?_)
    | with_reducible refine zm_gW (fun x => ?_)
    | with_reducible refine zm_ex (fun x => ?_)
    | with_reducible refine z_L_X1_go_40 (fun  h1 z1 => ?_) _ _ _ _ (by assumption)
    | with_reducible refine z_f_X10_nextTo (fun y0 h1 z1 => ?_) (by assumption)
    | with_reducible refine z_f_X9_firstOn (fun y0 h1 z1 => ?_) (by assumption)
    | with_reducible refine z_f_X9_postNow (fun y0 h1 z1 => ?_) (by assumption)
    | with_reducible refine zm_imp (fun _ => ?_)
    | with_reducible exact id
theorem z_f_X1_tell {L0 : Nat} {xs0 : Nat → Int32} {Q Q' : Int32 → AH → Prop} (hQ : ∀ (y0 : Int32) (h : AH), ZZ L0 xs0 h → Q y0 h → Q' y0 h) {v0 : Nat} {v1 : Int32} {v2 : Nat} {h : AH} (z : ZZ L0 xs0 h) : f_X1_tell v0 v1 v2 h Q → f_X1_tell v0 v1 v2 h Q' := by
  unfold f_X1_tell
  repeat' first
    | with_reducible exact hQ _ _ (by assumption)
    | with_reducible refine zm_and ?_ ?_
    | with_reducible refine zm_gI (fun x => ?_)
    | with_reducible refine z_f_X10_tell (fun y0 h1 z1 => ?_) (by assumption)
    | with_reducible refine z_f_X1_go (fun  h1 z1 => ?_) (by assumption)
    | with_reducible refine zm_imp (fun _ => ?_)
    | with_reducible exact id
theorem z_f_X2_tell {L0 : Nat} {xs0 : Nat → Int32} {Q Q' : Int32 → AH → Prop} (hQ : ∀ (y0 : Int32) (h : AH), ZZ L0 xs0 h → Q y0 h → Q' y0 h) {v0 : Nat} {v1 : Int32} {v2 : Nat} {h : AH} (z : ZZ L0 xs0 h) : f_X2_tell v0 v1 v2 h Q → f_X2_tell v0 v1 v2 h Q' := by
  unfold f_X2_tell
  repeat' first
    | with_reducible exact hQ _ _ (by assumption)
    | with_reducible refine zm_and ?_ ?_
    | with_reducible refine zm_gW (fun x => ?_)
    | with_reducible refine z_f_X10_nextTo (fun y0 h1 z1 => ?_) (by assumption)
    | with_reducible refine z_f_X10_tell (fun y0 h1 z1 => ?_) (by assumption)
    | with_reducible refine zm_imp (fun _ => ?_)
    | with_reducible exact id
theorem z_f_X3_tell {L0 : Nat} {xs0 : Nat → Int32} {Q Q' : Int32 → AH → Prop} (hQ : ∀ (y0 : Int32) (h : AH), ZZ L0 xs0 h → Q y0 h → Q' y0 h) {v0 : Nat} {v1 : Int32} {v2 : Nat} {h : AH} (z : ZZ L0 xs0 h) : f_X3_tell v0 v1 v2 h Q → f_X3_tell v0 v1 v2 h Q' := by
  unfold f_X3_tell
  repeat' first
    | with_reducible exact hQ _ _ (by assumption)
    | with_reducible refine zm_and ?_ ?_
    | with_reducible refine zm_gW (fun x => ?_)
    | with_reducible refine z_f_X0_tell (fun y0 h1 z1 => ?_) (by assumption)
    | with_reducible refine zm_imp (fun _ => ?_)
    | with_reducible exact id
theorem z_f_X8_chosen {L0 : Nat} {xs0 : Nat → Int32} {Q Q' : Int32 → AH → Prop} (hQ : ∀ (y0 : Int32) (h : AH), ZZ L0 xs0 h → Q y0 h → Q' y0 h) {v0 : Nat} {v1 : Nat} {h : AH} (z : ZZ L0 xs0 h) : f_X8_chosen v0 v1 h Q → f_X8_chosen v0 v1 h Q' := by
  unfold f_X8_chosen
  repeat' first
    | with_reducible exact hQ _ _ (by assumption)
    | with_reducible refine zm_and ?_ ?_
    | with_reducible refine zm_gW (fun x => ?_)
    | with_reducible refine z_f_X10_nextTo (fun y0 h1 z1 => ?_) (by assumption)
    | with_reducible refine z_f_X9_firstOn (fun y0 h1 z1 => ?_) (by assumption)
    | with_reducible refine zm_imp (fun _ => ?_)
    | with_reducible exact id
theorem z_f_X9_numberOf {L0 : Nat} {xs0 : Nat → Int32} {Q Q' : Int32 → AH → Prop} (hQ : ∀ (y0 : Int32) (h : AH), ZZ L0 xs0 h → Q y0 h → Q' y0 h) {v0 : Nat} {v1 : Int32} {h : AH} (z : ZZ L0 xs0 h) : f_X9_numberOf v0 v1 h Q → f_X9_numberOf v0 v1 h Q' := by
  unfold f_X9_numberOf
  repeat' first
    | with_reducible exact hQ _ _ (by assumption)
    | with_reducible refine zm_and ?_ ?_
    | with_reducible refine zm_gI (fun x => ?_)
    | with_reducible refine zm_gR (fun x => ?_)
    | with_reducible refine zm_lI (fun x => ?_)
    | with_reducible refine zm_imp (fun _ => ?_)
    | with_reducible exact id
theorem z_f_X8_tell {L0 : Nat} {xs0 : Nat → Int32} {Q Q' : Int32 → AH → Prop} (hQ : ∀ (y0 : Int32) (h : AH), ZZ L0 xs0 h → Q y0 h → Q' y0 h) {v0 : Nat} {v1 : Int32} {v2 : Nat} {h : AH} (z : ZZ L0 xs0 h) : f_X8_tell v0 v1 v2 h Q → f_X8_tell v0 v1 v2 h Q' := by
  unfold f_X8_tell
  repeat' first
    | with_reducible exact hQ _ _ (by assumption)
    | with_reducible refine zm_and ?_ ?_
    | with_reducible refine z_f_X2_tell (fun y0 h1 z1 => ?_) (by assumption)
    | with_reducible refine z_f_X8_chosen (fun y0 h1 z1 => ?_) (by assumption)
    | with_reducible refine z_f_X9_numberOf (fun y0 h1 z1 => ?_) (by assumption)
    | with_reducible refine zm_imp (fun _ => ?_)
    | with_reducible exact id
theorem z_v_tell0 {L0 : Nat} {xs0 : Nat → Int32} {Q Q' : Int32 → AH → Prop} (hQ : ∀ (y0 : Int32) (h : AH), ZZ L0 xs0 h → Q y0 h → Q' y0 h) {a : Nat} {u0 : Int32} {u1 : Nat} {h : AH} (z : ZZ L0 xs0 h) : v_tell0 a u0 u1 h Q → v_tell0 a u0 u1 h Q' := by
  unfold v_tell0
  repeat' first
    | with_reducible exact hQ _ _ (by assumption)
    | with_reducible refine zm_and ?_ ?_
    | with_reducible refine zm_ex (fun x => ?_)
    | with_reducible refine zm_or ?_ ?_
    | with_reducible refine z_f_X0_tell (fun y0 h1 z1 => ?_) (by assumption)
    | with_reducible refine z_f_X10_tell (fun y0 h1 z1 => ?_) (by assumption)
    | with_reducible refine z_f_X1_tell (fun y0 h1 z1 => ?_) (by assumption)
    | with_reducible refine z_f_X2_tell (fun y0 h1 z1 => ?_) (by assumption)
    | with_reducible refine z_f_X3_tell (fun y0 h1 z1 => ?_) (by assumption)
    | with_reducible refine z_f_X8_tell (fun y0 h1 z1 => ?_) (by assumption)
    | with_reducible refine zm_imp (fun _ => ?_)
    | with_reducible exact id
theorem z_f_X11_mark {L0 : Nat} {xs0 : Nat → Int32} {Q Q' : Int32 → AH → Prop} (hQ : ∀ (y0 : Int32) (h : AH), ZZ L0 xs0 h → Q y0 h → Q' y0 h) {v0 : Nat} {v1 : Int32} {v2 : Int32} {h : AH} (z : ZZ L0 xs0 h) : f_X11_mark v0 v1 v2 h Q → f_X11_mark v0 v1 v2 h Q' := by
  unfold f_X11_mark
  repeat' first
    | with_reducible exact hQ _ _ (by assumption)
    | with_reducible refine zm_and ?_ ?_
    | with_reducible refine zm_gI (fun x => ?_)
    | with_reducible refine zm_gR (fun x => ?_)
    | with_reducible refine zm_all (fun x _ => ?_)
    | with_reducible refine z_f_X11_found (fun y0 h1 z1 => ?_) (by assumption)
    | with_reducible refine z_f_X5_walkerAt (fun y0 h1 z1 => ?_) (by assumption)
    | with_reducible refine z_f_X9_begin (fun  h1 z1 => ?_) (by assumption)
    | with_reducible refine z_v_tell0 (fun y0 h1 z1 => ?_) (by assumption)
    | with_reducible refine zm_imp (fun _ => ?_)
    | with_reducible exact id
theorem z_B_X12_isOf_25 {L0 : Nat} {xs0 : Nat → Int32} {Q Q' : Int32 → AH → Prop} (hQ : ∀ (y0 : Int32) (h : AH), ZZ L0 xs0 h → Q y0 h → Q' y0 h)  {h : AH} (z : ZZ L0 xs0 h) : B_X12_isOf_25 Q h → B_X12_isOf_25 Q' h := by
  unfold B_X12_isOf_25
  repeat' first
    | with_reducible exact hQ _ _ (by assumption)
    | with_reducible refine zm_and ?_ ?_
    | with_reducible refine zm_imp (fun _ => ?_)
    | with_reducible exact id
theorem z_B_X12_isOf_15 {L0 : Nat} {xs0 : Nat → Int32} {Q Q' : Int32 → AH → Prop} (hQ : ∀ (y0 : Int32) (h : AH), ZZ L0 xs0 h → Q y0 h → Q' y0 h) {v0 : Int32} {v1 : Int32} {h : AH} (z : ZZ L0 xs0 h) : B_X12_isOf_15 Q v0 v1 h → B_X12_isOf_15 Q' v0 v1 h := by
  unfold B_X12_isOf_15
  repeat' first
    | with_reducible exact hQ _ _ (by assumption)
    | with_reducible refine zm_and ?_ ?_
    | with_reducible refine z_B_X12_isOf_25 (fun y0 h1 z1 => ?_) (by assumption)
    | with_reducible refine zm_imp (fun _ => ?_)
    | with_reducible exact id
theorem z_f_X12_isOf {L0 : Nat} {xs0 : Nat → Int32} {Q Q' : Int32 → AH → Prop} (hQ : ∀ (y0 : Int32) (h : AH), ZZ L0 xs0 h → Q y0 h → Q' y0 h) {v0 : Int32} {v1 : Int32} {h : AH} (z : ZZ L0 xs0 h) : f_X12_isOf v0 v1 h Q → f_X12_isOf v0 v1 h Q' := by
  unfold f_X12_isOf
  repeat' first
    | with_reducible exact hQ _ _ (by assumption)
    | with_reducible refine zm_and ?_ ?_
    | with_reducible refine z_B_X12_isOf_15 (fun y0 h1 z1 => ?_) (by assumption)
    | with_reducible refine z_B_X12_isOf_25 (fun y0 h1 z1 => ?_) (by assumption)
    | with_reducible refine zm_imp (fun _ => ?_)
    | with_reducible exact id
theorem z_B_X12_spread_33 {L0 : Nat} {xs0 : Nat → Int32} {Q Q' : AH → Prop} {K2 K2' : Int32 → AH → Prop} (hQ : ∀ (h : AH), ZZ L0 xs0 h → Q  h → Q'  h) (hK2 : ∀ (y0 : Int32) (h : AH), ZZ L0 xs0 h → K2 y0 h → K2' y0 h) {v0 : Nat} {v1 : Int32} {v2 : Int32} {t0 : Nat} {t1 : Int32} {t2 : Int32} {h : AH} (z : ZZ L0 xs0 h) : B_X12_spread_33 Q K2 v0 v1 v2 t0 t1 t2 h → B_X12_spread_33 Q' K2' v0 v1 v2 t0 t1 t2 h := by
  unfold B_X12_spread_33
  repeat' first
    | with_reducible exact hQ _ (by assumption)
    | with_reducible exact hK2 _ _ (by assumption)
    | with_reducible refine zm_and ?_ ?_
    | with_reducible refine zm_gR (fun x => ?_)
    | with_reducible refine zm_sI (by assumption) (fun h1 z1 => ?_)
    | with_reducible refine zm_imp (fun _ => ?_)
    | with_reducible exact id
theorem z_B_X12_spread_2 {L0 : Nat} {xs0 : Nat → Int32} {Q Q' : AH → Prop} {K2 K2' : Int32 → AH → Prop} (hQ : ∀ (h : AH), ZZ L0 xs0 h → Q  h → Q'  h) (hK2 : ∀ (y0 : Int32) (h : AH), ZZ L0 xs0 h → K2 y0 h → K2' y0 h) {v0 : Nat} {v1 : Int32} {v2 : Int32} {h : AH} (z : ZZ L0 xs0 h) : B_X12_spread_2 Q K2 v0 v1 v2 h → B_X12_spread_2 Q' K2' v0 v1 v2 h := by
  unfold B_X12_spread_2
  repeat' first
    | with_reducible exact hQ _ (by assumption)
    | with_reducible exact hK2 _ _ (by assumption)
    | with_reducible refine zm_and ?_ ?_
    | with_reducible refine zm_gI (fun x => ?_)
    | with_reducible refine zm_gR (fun x => ?_)
    | with_reducible refine zm_pF (by assumption) (fun h1 z1 => ?_)
    | with_reducible refine z_B_X12_spread_33 (fun  h1 z1 => ?_) (fun y0 h1 z1 => ?_) (by assumption)
    | with_reducible refine zm_imp (fun _ => ?_)
    | with_reducible exact id
theorem z_L_X12_spread_2 {L0 : Nat} {xs0 : Nat → Int32} {Q Q' : AH → Prop} (hQ : ∀ (h : AH), ZZ L0 xs0 h → Q  h → Q'  h) {v0 : Nat} {v1 : Int32} : ∀ (n : Nat) (w0 : Int32) (h : AH), ZZ L0 xs0 h → L_X12_spread_2 Q v0 v1 n w0 h → L_X12_spread_2 Q' v0 v1 n w0 h := by
  intro n
  induction n with
  | zero => intro w0 h z H; exact H.elim
  | succ n ih => intro w0 h z; exact z_B_X12_spread_2 hQ ih z
theorem z_f_X12_spread {L0 : Nat} {xs0 : Nat → Int32} {Q Q' : AH → Prop} (hQ : ∀ (h : AH), ZZ L0 xs0 h → Q  h → Q'  h) {v0 : Nat} {v1 : Int32} {h : AH} (z : ZZ L0 xs0 h) : f_X12_spread v0 v1 h Q → f_X12_spread v0 v1 h Q' := by
  unfold f_X12_spread
  repeat' first
    | with_reducible exact hQ _ (by assumption)
    | with_reducible refine zm_and ?_ ?_
    | with_reducible refine zm_ex (fun x => ?_)
    | with_reducible refine z_L_X12_spread_2 (fun  h1 z1 => ?_) _ _ _ (by assumption)
    | with_reducible refine zm_imp (fun _ => ?_)
    | with_reducible exact id
theorem z_f_X12_size {L0 : Nat} {xs0 : Nat → Int32} {Q Q' : Int32 → AH → Prop} (hQ : ∀ (y0 : Int32) (h : AH), ZZ L0 xs0 h → Q y0 h → Q' y0 h) {v0 : Int32} {h : AH} (z : ZZ L0 xs0 h) : f_X12_size v0 h Q → f_X12_size v0 h Q' := by
  unfold f_X12_size
  repeat' first
    | with_reducible exact hQ _ _ (by assumption)
    | with_reducible refine zm_and ?_ ?_
    | with_reducible refine zm_imp (fun _ => ?_)
    | with_reducible exact id
theorem z_B_X12_isAhead_105 {L0 : Nat} {xs0 : Nat → Int32} {Q Q' : Int32 → AH → Prop} (hQ : ∀ (y0 : Int32) (h : AH), ZZ L0 xs0 h → Q y0 h → Q' y0 h) {v0 : Nat} {v1 : Int32} {v2 : Int32} {h : AH} (z : ZZ L0 xs0 h) : B_X12_isAhead_105 Q v0 v1 v2 h → B_X12_isAhead_105 Q' v0 v1 v2 h := by
  unfold B_X12_isAhead_105
  repeat' first
    | with_reducible exact hQ _ _ (by assumption)
    | with_reducible refine zm_and ?_ ?_
    | with_reducible refine zm_gR (fun x => ?_)
    | with_reducible refine zm_lI (fun x => ?_)
    | with_reducible refine zm_imp (fun _ => ?_)
    | with_reducible exact id
theorem z_B_X12_isAhead_75 {L0 : Nat} {xs0 : Nat → Int32} {Q Q' : Int32 → AH → Prop} (hQ : ∀ (y0 : Int32) (h : AH), ZZ L0 xs0 h → Q y0 h → Q' y0 h) {v0 : Nat} {v1 : Int32} {v2 : Int32} {v4 : Int32} {v5 : Int32} {t0 : Int32} {h : AH} (z : ZZ L0 xs0 h) : B_X12_isAhead_75 Q v0 v1 v2 v4 v5 t0 h → B_X12_isAhead_75 Q' v0 v1 v2 v4 v5 t0 h := by
  unfold B_X12_isAhead_75
  repeat' first
    | with_reducible exact hQ _ _ (by assumption)
    | with_reducible refine zm_and ?_ ?_
    | with_reducible refine z_B_X12_isAhead_105 (fun y0 h1 z1 => ?_) (by assumption)
    | with_reducible refine zm_imp (fun _ => ?_)
    | with_reducible exact id
theorem z_B_X12_isAhead_50 {L0 : Nat} {xs0 : Nat → Int32} {Q Q' : Int32 → AH → Prop} (hQ : ∀ (y0 : Int32) (h : AH), ZZ L0 xs0 h → Q y0 h → Q' y0 h) {v0 : Nat} {v1 : Int32} {v2 : Int32} {v3 : Int32} {v4 : Int32} {t0 : Int32} {h : AH} (z : ZZ L0 xs0 h) : B_X12_isAhead_50 Q v0 v1 v2 v3 v4 t0 h → B_X12_isAhead_50 Q' v0 v1 v2 v3 v4 t0 h := by
  unfold B_X12_isAhead_50
  repeat' first
    | with_reducible exact hQ _ _ (by assumption)
    | with_reducible refine zm_and ?_ ?_
    | with_reducible refine z_B_X12_isAhead_75 (fun y0 h1 z1 => ?_) (by assumption)
    | with_reducible refine z_f_X12_home (fun y0 h1 z1 => ?_) (by assumption)
    | with_reducible refine z_f_X12_size (fun y0 h1 z1 => ?_) (by assumption)
    | with_reducible refine zm_imp (fun _ => ?_)
    | with_reducible exact id
theorem z_f_X12_isAhead {L0 : Nat} {xs0 : Nat → Int32} {Q Q' : Int32 → AH → Prop} (hQ : ∀ (y0 : Int32) (h : AH), ZZ L0 xs0 h → Q y0 h → Q' y0 h) {v0 : Nat} {v1 : Int32} {v2 : Int32} {v3 : Int32} {v4 : Int32} {h : AH} (z : ZZ L0 xs0 h) : f_X12_isAhead v0 v1 v2 v3 v4 h Q → f_X12_isAhead v0 v1 v2 v3 v4 h Q' := by
  unfold f_X12_isAhead
  repeat' first
    | with_reducible exact hQ _ _ (by assumption)
    | with_reducible refine zm_and ?_ ?_
    | with_reducible refine zm_gR (fun x => ?_)
    | with_reducible refine zm_lI (fun x => ?_)
    | with_reducible refine z_B_X12_isAhead_50 (fun y0 h1 z1 => ?_) (by assumption)
    | with_reducible refine z_f_X12_home (fun y0 h1 z1 => ?_) (by assumption)
    | with_reducible refine z_f_X12_size (fun y0 h1 z1 => ?_) (by assumption)
    | with_reducible refine zm_imp (fun _ => ?_)
    | with_reducible exact id
theorem z_B_X12_taken_6 {L0 : Nat} {xs0 : Nat → Int32} {Q Q' : Int32 → AH → Prop} {K6 K6' : Int32 → Int32 → AH → Prop} (hQ : ∀ (y0 : Int32) (h : AH), ZZ L0 xs0 h → Q y0 h → Q' y0 h) (hK6 : ∀ (y0 : Int32) (y1 : Int32) (h : AH), ZZ L0 xs0 h → K6 y0 y1 h → K6' y0 y1 h) {v0 : Nat} {v1 : Int32} {v2 : Int32} {v3 : Int32} {v4 : Int32} {h : AH} (z : ZZ L0 xs0 h) : B_X12_taken_6 Q K6 v0 v1 v2 v3 v4 h → B_X12_taken_6 Q' K6' v0 v1 v2 v3 v4 h := by
  unfold B_X12_taken_6
  repeat' first
    | with_reducible exact hQ _ _ (by assumption)
    | with_reducible exact hK6 _ _ _ (by assumption)
    | with_reducible refine zm_and ?_ ?_
    | with_reducible refine zm_gI (fun x => ?_)
    | with_reducible refine zm_gR (fun x => ?_)
    | with_reducible refine zm_lI (fun x => ?_)
    | with_reducible refine z_f_X12_isAhead (fun y0 h1 z1 => ?_) (by assumption)
    | with_reducible refine zm_imp (fun _ => ?_)
    | with_reducible exact id
theorem z_L_X12_taken_6 {L0 : Nat} {xs0 : Nat → Int32} {Q Q' : Int32 → AH → Prop} (hQ : ∀ (y0 : Int32) (h : AH), ZZ L0 xs0 h → Q y0 h → Q' y0 h) {v0 : Nat} {v1 : Int32} {v2 : Int32} : ∀ (n : Nat) (w0 : Int32) (w1 : Int32) (h : AH), ZZ L0 xs0 h → L_X12_taken_6 Q v0 v1 v2 n w0 w1 h → L_X12_taken_6 Q' v0 v1 v2 n w0 w1 h := by
  intro n
  induction n with
  | zero => intro w0 w1 h z H; exact H.elim
  | succ n ih => intro w0 w1 h z; exact z_B_X12_taken_6 hQ ih z
theorem z_f_X12_taken {L0 : Nat} {xs0 : Nat → Int32} {Q Q' : Int32 → AH → Prop} (hQ : ∀ (y0 : Int32) (h : AH), ZZ L0 xs0 h → Q y0 h → Q' y0 h) {v0 : Nat} {v1 : Int32} {v2 : Int32} {h : AH} (z : ZZ L0 xs0 h) : f_X12_taken v0 v1 v2 h Q → f_X12_taken v0 v1 v2 h Q' := by
  unfold f_X12_taken
  repeat' first
    | with_reducible exact hQ _ _ (by assumption)
    | with_reducible refine zm_and ?_ ?_
    | with_reducible refine zm_ex (fun x => ?_)
    | with_reducible refine z_L_X12_taken_6 (fun y0 h1 z1 => ?_) _ _ _ _ (by assumption)
    | with_reducible refine zm_imp (fun _ => ?_)
    | with_reducible exact id
theorem z_f_X12_put_ {L0 : Nat} {xs0 : Nat → Int32} {Q Q' : AH → Prop} (hQ : ∀ (h : AH), ZZ L0 xs0 h → Q  h → Q'  h) {v0 : Nat} {v1 : Int32} {v2 : Int32} {h : AH} (z : ZZ L0 xs0 h) : f_X12_put_ v0 v1 v2 h Q → f_X12_put_ v0 v1 v2 h Q' := by
  unfold f_X12_put_
  repeat' first
    | with_reducible exact hQ _ (by assumption)
    | with_reducible refine zm_and ?_ ?_
    | with_reducible refine zm_gI (fun x => ?_)
    | with_reducible refine zm_gR (fun x => ?_)
    | with_reducible refine zm_lI (fun x => ?_)
    | with_reducible refine zm_pF (by assumption) (fun h1 z1 => ?_)
    | with_reducible refine zm_sI (by assumption) (fun h1 z1 => ?_)
    | with_reducible refine zm_imp (fun _ => ?_)
    | with_reducible exact id
theorem z_B_X12_carries_92 {L0 : Nat} {xs0 : Nat → Int32} {Q Q' : AH → Prop} {K46 K46' : Int32 → AH → Prop} (hQ : ∀ (h : AH), ZZ L0 xs0 h → Q  h → Q'  h) (hK46 : ∀ (y0 : Int32) (h : AH), ZZ L0 xs0 h → K46 y0 h → K46' y0 h) {v0 : Nat} {v2 : Int32} {v3 : Int32} {v4 : Int32} {v5 : Int32} {v6 : Int32} {v7 : Int32} {v8 : Int32} {t0 : Nat} {t1 : Int32} {t2 : Int32} {h : AH} (z : ZZ L0 xs0 h) : B_X12_carries_92 Q K46 v0 v2 v3 v4 v5 v6 v7 v8 t0 t1 t2 h → B_X12_carries_92 Q' K46' v0 v2 v3 v4 v5 v6 v7 v8 t0 t1 t2 h := by
  unfold B_X12_carries_92
  repeat' first
    | with_reducible exact hQ _ (by assumption)
    | with_reducible exact hK46 _ _ (by assumption)
    | with_reducible refine zm_and ?_ ?_
    | with_reducible refine z_f_X12_put_ (fun  h1 z1 => ?_) (by assumption)
    | with_reducible refine zm_imp (fun _ => ?_)
    | with_reducible exact id
theorem z_B_X12_carries_46 {L0 : Nat} {xs0 : Nat → Int32} {Q Q' : AH → Prop} {K46 K46' : Int32 → AH → Prop} (hQ : ∀ (h : AH), ZZ L0 xs0 h → Q  h → Q'  h) (hK46 : ∀ (y0 : Int32) (h : AH), ZZ L0 xs0 h → K46 y0 h → K46' y0 h) {v0 : Nat} {v2 : Int32} {v3 : Int32} {v4 : Int32} {v5 : Int32} {v6 : Int32} {v7 : Int32} {v8 : Int32} {h : AH} (z : ZZ L0 xs0 h) : B_X12_carries_46 Q K46 v0 v2 v3 v4 v5 v6 v7 v8 h → B_X12_carries_46 Q' K46' v0 v2 v3 v4 v5 v6 v7 v8 h := by
  unfold B_X12_carries_46
  repeat' first
    | with_reducible exact hQ _ (by assumption)
    | with_reducible exact hK46 _ _ (by assumption)
    | with_reducible refine zm_and ?_ ?_
    | with_reducible refine z_B_X12_carries_92 (fun  h1 z1 => ?_) (fun y0 h1 z1 => ?_) (by assumption)
    | with_reducible refine z_f_X12_taken (fun y0 h1 z1 => ?_) (by assumption)
    | with_reducible refine zm_imp (fun _ => ?_)
    | with_reducible exact id
theorem z_L_X12_carries_46 {L0 : Nat} {xs0 : Nat → Int32} {Q Q' : AH → Prop} (hQ : ∀ (h : AH), ZZ L0 xs0 h → Q  h → Q'  h) {v0 : Nat} {v2 : Int32} {v3 : Int32} {v4 : Int32} {v5 : Int32} {v6 : Int32} {v7 : Int32} : ∀ (n : Nat) (w0 : Int32) (h : AH), ZZ L0 xs0 h → L_X12_carries_46 Q v0 v2 v3 v4 v5 v6 v7 n w0 h → L_X12_carries_46 Q' v0 v2 v3 v4 v5 v6 v7 n w0 h := by
  intro n
  induction n with
  | zero => intro w0 h z H; exact H.elim
  | succ n ih => intro w0 h z; exact z_B_X12_carries_46 hQ ih z
theorem z_B_X12_carries_15 {L0 : Nat} {xs0 : Nat → Int32} {Q Q' : AH → Prop} {K15 K15' : Int32 → AH → Prop} (hQ : ∀ (h : AH), ZZ L0 xs0 h → Q  h → Q'  h) (hK15 : ∀ (y0 : Int32) (h : AH), ZZ L0 xs0 h → K15 y0 h → K15' y0 h) {v0 : Nat} {v2 : Int32} {v3 : Int32} {v4 : Int32} {v5 : Int32} {v6 : Int32} {v7 : Int32} {h : AH} (z : ZZ L0 xs0 h) : B_X12_carries_15 Q K15 v0 v2 v3 v4 v5 v6 v7 h → B_X12_carries_15 Q' K15' v0 v2 v3 v4 v5 v6 v7 h := by
  unfold B_X12_carries_15
  repeat' first
    | with_reducible exact hQ _ (by assumption)
    | with_reducible exact hK15 _ _ (by assumption)
    | with_reducible refine zm_and ?_ ?_
    | with_reducible refine zm_ex (fun x => ?_)
    | with_reducible refine z_L_X12_carries_46 (fun  h1 z1 => ?_) _ _ _ (by assumption)
    | with_reducible refine z_f_X12_taken (fun y0 h1 z1 => ?_) (by assumption)
    | with_reducible refine zm_imp (fun _ => ?_)
    | with_reducible exact id
theorem z_L_X12_carries_15 {L0 : Nat} {xs0 : Nat → Int32} {Q Q' : AH → Prop} (hQ : ∀ (h : AH), ZZ L0 xs0 h → Q  h → Q'  h) {v0 : Nat} {v2 : Int32} {v3 : Int32} {v4 : Int32} {v5 : Int32} {v6 : Int32} : ∀ (n : Nat) (w0 : Int32) (h : AH), ZZ L0 xs0 h → L_X12_carries_15 Q v0 v2 v3 v4 v5 v6 n w0 h → L_X12_carries_15 Q' v0 v2 v3 v4 v5 v6 n w0 h := by
  intro n
  induction n with
  | zero => intro w0 h z H; exact H.elim
  | succ n ih => intro w0 h z; exact z_B_X12_carries_15 hQ ih z
theorem z_f_X12_carries {L0 : Nat} {xs0 : Nat → Int32} {Q Q' : AH → Prop} (hQ : ∀ (h : AH), ZZ L0 xs0 h → Q  h → Q'  h) {v0 : Nat} {v1 : Int32} {v2 : Int32} {v3 : Int32} {v4 : Int32} {v5 : Int32} {h : AH} (z : ZZ L0 xs0 h) : f_X12_carries v0 v1 v2 v3 v4 v5 h Q → f_X12_carries v0 v1 v2 v3 v4 v5 h Q' := by
  unfold f_X12_carries
  repeat' first
    | with_reducible exact hQ _ (by assumption)
    | with_reducible refine zm_and ?_ ?_
    | with_reducible refine zm_ex (fun x => ?_)
    | with_reducible refine z_L_X12_carries_15 (fun  h1 z1 => ?_) _ _ _ (by assumption)
    | with_reducible refine zm_imp (fun _ => ?_)
    | with_reducible exact id
theorem z_B_X12_behind_169 {L0 : Nat} {xs0 : Nat → Int32} {Q Q' : Int32 → AH → Prop} {K169 K169' : Int32 → Int32 → AH → Prop} (hQ : ∀ (y0 : Int32) (h : AH), ZZ L0 xs0 h → Q y0 h → Q' y0 h) (hK169 : ∀ (y0 : Int32) (y1 : Int32) (h : AH), ZZ L0 xs0 h → K169 y0 y1 h → K169' y0 y1 h) {v0 : Nat} {v8 : Int32} {v9 : Int32} {h : AH} (z : ZZ L0 xs0 h) : B_X12_behind_169 Q K169 v0 v8 v9 h → B_X12_behind_169 Q' K169' v0 v8 v9 h := by
  unfold B_X12_behind_169
  repeat' first
    | with_reducible exact hQ _ _ (by assumption)
    | with_reducible exact hK169 _ _ _ (by assumption)
    | with_reducible refine zm_and ?_ ?_
    | with_reducible refine zm_gI (fun x => ?_)
    | with_reducible refine zm_gR (fun x => ?_)
    | with_reducible refine zm_lI (fun x => ?_)
    | with_reducible refine zm_imp (fun _ => ?_)
    | with_reducible exact id
theorem z_L_X12_behind_169 {L0 : Nat} {xs0 : Nat → Int32} {Q Q' : Int32 → AH → Prop} (hQ : ∀ (y0 : Int32) (h : AH), ZZ L0 xs0 h → Q y0 h → Q' y0 h) {v0 : Nat} : ∀ (n : Nat) (w0 : Int32) (w1 : Int32) (h : AH), ZZ L0 xs0 h → L_X12_behind_169 Q v0 n w0 w1 h → L_X12_behind_169 Q' v0 n w0 w1 h := by
  intro n
  induction n with
  | zero => intro w0 w1 h z H; exact H.elim
  | succ n ih => intro w0 w1 h z; exact z_B_X12_behind_169 hQ ih z
theorem z_B_X12_behind_151 {L0 : Nat} {xs0 : Nat → Int32} {Q Q' : Int32 → AH → Prop} (hQ : ∀ (y0 : Int32) (h : AH), ZZ L0 xs0 h → Q y0 h → Q' y0 h) {v0 : Nat} {v3 : Int32} {v4 : Int32} {v5 : Int32} {v7 : Int32} {h : AH} (z : ZZ L0 xs0 h) : B_X12_behind_151 Q v0 v3 v4 v5 v7 h → B_X12_behind_151 Q' v0 v3 v4 v5 v7 h := by
  unfold B_X12_behind_151
  repeat' first
    | with_reducible exact hQ _ _ (by assumption)
    | with_reducible refine zm_and ?_ ?_
    | with_reducible refine zm_ex (fun x => ?_)
    | with_reducible refine z_L_X12_behind_169 (fun y0 h1 z1 => ?_) _ _ _ _ (by assumption)
    | with_reducible refine z_f_X12_carries (fun  h1 z1 => ?_) (by assumption)
    | with_reducible refine zm_imp (fun _ => ?_)
    | with_reducible exact id
theorem z_B_X12_behind_136 {L0 : Nat} {xs0 : Nat → Int32} {Q Q' : Int32 → AH → Prop} (hQ : ∀ (y0 : Int32) (h : AH), ZZ L0 xs0 h → Q y0 h → Q' y0 h) {v0 : Nat} {v2 : Int32} {v3 : Int32} {v4 : Int32} {v5 : Int32} {v7 : Int32} {h : AH} (z : ZZ L0 xs0 h) : B_X12_behind_136 Q v0 v2 v3 v4 v5 v7 h → B_X12_behind_136 Q' v0 v2 v3 v4 v5 v7 h := by
  unfold B_X12_behind_136
  repeat' first
    | with_reducible exact hQ _ _ (by assumption)
    | with_reducible refine zm_and ?_ ?_
    | with_reducible refine zm_gR (fun x => ?_)
    | with_reducible refine zm_lI (fun x => ?_)
    | with_reducible refine zm_ex (fun x => ?_)
    | with_reducible refine z_B_X12_behind_151 (fun y0 h1 z1 => ?_) (by assumption)
    | with_reducible refine z_L_X12_behind_169 (fun y0 h1 z1 => ?_) _ _ _ _ (by assumption)
    | with_reducible refine zm_imp (fun _ => ?_)
    | with_reducible exact id
theorem z_B_X12_behind_131 {L0 : Nat} {xs0 : Nat → Int32} {Q Q' : Int32 → AH → Prop} (hQ : ∀ (y0 : Int32) (h : AH), ZZ L0 xs0 h → Q y0 h → Q' y0 h) {v0 : Nat} {v2 : Int32} {v3 : Int32} {v4 : Int32} {v5 : Int32} {v7 : Int32} {t0 : Nat} {t1 : Int32} {t2 : Int32} {t3 : Int32} {t4 : Int32} {h : AH} (z : ZZ L0 xs0 h) : B_X12_behind_131 Q v0 v2 v3 v4 v5 v7 t0 t1 t2 t3 t4 h → B_X12_behind_131 Q' v0 v2 v3 v4 v5 v7 t0 t1 t2 t3 t4 h := by
  unfold B_X12_behind_131
  repeat' first
    | with_reducible exact hQ _ _ (by assumption)
    | with_reducible refine zm_and ?_ ?_
    | with_reducible refine z_B_X12_behind_136 (fun y0 h1 z1 => ?_) (by assumption)
    | with_reducible refine z_f_X12_carries (fun  h1 z1 => ?_) (by assumption)
    | with_reducible refine zm_imp (fun _ => ?_)
    | with_reducible exact id
theorem z_B_X12_behind_115 {L0 : Nat} {xs0 : Nat → Int32} {Q Q' : Int32 → AH → Prop} (hQ : ∀ (y0 : Int32) (h : AH), ZZ L0 xs0 h → Q y0 h → Q' y0 h) {v0 : Nat} {v2 : Int32} {v3 : Int32} {v4 : Int32} {v5 : Int32} {v7 : Int32} {t0 : Nat} {t1 : Int32} {t2 : Int32} {h : AH} (z : ZZ L0 xs0 h) : B_X12_behind_115 Q v0 v2 v3 v4 v5 v7 t0 t1 t2 h → B_X12_behind_115 Q' v0 v2 v3 v4 v5 v7 t0 t1 t2 h := by
  unfold B_X12_behind_115
  repeat' first
    | with_reducible exact hQ _ _ (by assumption)
    | with_reducible refine zm_and ?_ ?_
    | with_reducible refine zm_gR (fun x => ?_)
    | with_reducible refine zm_lI (fun x => ?_)
    | with_reducible refine z_B_X12_behind_131 (fun y0 h1 z1 => ?_) (by assumption)
    | with_reducible refine zm_imp (fun _ => ?_)
    | with_reducible exact id
theorem z_B_X12_behind_56 {L0 : Nat} {xs0 : Nat → Int32} {Q Q' : Int32 → AH → Prop} (hQ : ∀ (y0 : Int32) (h : AH), ZZ L0 xs0 h → Q y0 h → Q' y0 h) {v0 : Nat} {v2 : Int32} {v3 : Int32} {v4 : Int32} {v5 : Int32} {v6 : Int32} {t0 : Int32} {h : AH} (z : ZZ L0 xs0 h) : B_X12_behind_56 Q v0 v2 v3 v4 v5 v6 t0 h → B_X12_behind_56 Q' v0 v2 v3 v4 v5 v6 t0 h := by
  unfold B_X12_behind_56
  repeat' first
    | with_reducible exact hQ _ _ (by assumption)
    | with_reducible refine zm_and ?_ ?_
    | with_reducible refine zm_gR (fun x => ?_)
    | with_reducible refine zm_lI (fun x => ?_)
    | with_reducible refine z_B_X12_behind_115 (fun y0 h1 z1 => ?_) (by assumption)
    | with_reducible refine z_B_X12_behind_136 (fun y0 h1 z1 => ?_) (by assumption)
    | with_reducible refine z_f_X12_put_ (fun  h1 z1 => ?_) (by assumption)
    | with_reducible refine z_f_X12_taken (fun y0 h1 z1 => ?_) (by assumption)
    | with_reducible refine zm_imp (fun _ => ?_)
    | with_reducible exact id
theorem z_B_X12_behind_39 {L0 : Nat} {xs0 : Nat → Int32} {Q Q' : Int32 → AH → Prop} (hQ : ∀ (y0 : Int32) (h : AH), ZZ L0 xs0 h → Q y0 h → Q' y0 h) {v0 : Nat} {v2 : Int32} {v3 : Int32} {v4 : Int32} {v5 : Int32} {t0 : Int32} {h : AH} (z : ZZ L0 xs0 h) : B_X12_behind_39 Q v0 v2 v3 v4 v5 t0 h → B_X12_behind_39 Q' v0 v2 v3 v4 v5 t0 h := by
  unfold B_X12_behind_39
  repeat' first
    | with_reducible exact hQ _ _ (by assumption)
    | with_reducible refine zm_and ?_ ?_
    | with_reducible refine zm_gR (fun x => ?_)
    | with_reducible refine zm_lI (fun x => ?_)
    | with_reducible refine z_B_X12_behind_56 (fun y0 h1 z1 => ?_) (by assumption)
    | with_reducible refine zm_imp (fun _ => ?_)
    | with_reducible exact id
theorem z_f_X12_behind {L0 : Nat} {xs0 : Nat → Int32} {Q Q' : Int32 → AH → Prop} (hQ : ∀ (y0 : Int32) (h : AH), ZZ L0 xs0 h → Q y0 h → Q' y0 h) {v0 : Nat} {v1 : Int32} {v2 : Int32} {v3 : Int32} {h : AH} (z : ZZ L0 xs0 h) : f_X12_behind v0 v1 v2 v3 h Q → f_X12_behind v0 v1 v2 v3 h Q' := by
  unfold f_X12_behind
  repeat' first
    | with_reducible exact hQ _ _ (by assumption)
    | with_reducible refine zm_and ?_ ?_
    | with_reducible refine zm_gR (fun x => ?_)
    | with_reducible refine zm_lI (fun x => ?_)
    | with_reducible refine z_B_X12_behind_39 (fun y0 h1 z1 => ?_) (by assumption)
    | with_reducible refine z_f_X12_spread (fun  h1 z1 => ?_) (by assumption)
    | with_reducible refine zm_imp (fun _ => ?_)
    | with_reducible exact id
theorem z_B_X12_mark_129 {L0 : Nat} {xs0 : Nat → Int32} {Q Q' : Int32 → AH → Prop} {K129 K129' : Int32 → Int32 → AH → Prop} (hQ : ∀ (y0 : Int32) (h : AH), ZZ L0 xs0 h → Q y0 h → Q' y0 h) (hK129 : ∀ (y0 : Int32) (y1 : Int32) (h : AH), ZZ L0 xs0 h → K129 y0 y1 h → K129' y0 y1 h) {v0 : Nat} {v3 : Int32} {v4 : Int32} {v5 : Int32} {h : AH} (z : ZZ L0 xs0 h) : B_X12_mark_129 Q K129 v0 v3 v4 v5 h → B_X12_mark_129 Q' K129' v0 v3 v4 v5 h := by
  unfold B_X12_mark_129
  repeat' first
    | with_reducible exact hQ _ _ (by assumption)
    | with_reducible exact hK129 _ _ _ (by assumption)
    | with_reducible refine zm_and ?_ ?_
    | with_reducible refine zm_gI (fun x => ?_)
    | with_reducible refine z_f_X12_spotOf (fun y0 h1 z1 => ?_) (by assumption)
    | with_reducible refine zm_imp (fun _ => ?_)
    | with_reducible exact id
theorem z_L_X12_mark_129 {L0 : Nat} {xs0 : Nat → Int32} {Q Q' : Int32 → AH → Prop} (hQ : ∀ (y0 : Int32) (h : AH), ZZ L0 xs0 h → Q y0 h → Q' y0 h) {v0 : Nat} {v3 : Int32} : ∀ (n : Nat) (w0 : Int32) (w1 : Int32) (h : AH), ZZ L0 xs0 h → L_X12_mark_129 Q v0 v3 n w0 w1 h → L_X12_mark_129 Q' v0 v3 n w0 w1 h := by
  intro n
  induction n with
  | zero => intro w0 w1 h z H; exact H.elim
  | succ n ih => intro w0 w1 h z; exact z_B_X12_mark_129 hQ ih z
theorem z_f_X12_mark {L0 : Nat} {xs0 : Nat → Int32} {Q Q' : Int32 → AH → Prop} (hQ : ∀ (y0 : Int32) (h : AH), ZZ L0 xs0 h → Q y0 h → Q' y0 h) {v0 : Nat} {v1 : Int32} {v2 : Int32} {h : AH} (z : ZZ L0 xs0 h) : f_X12_mark v0 v1 v2 h Q → f_X12_mark v0 v1 v2 h Q' := by
  unfold f_X12_mark
  repeat' first
    | with_reducible exact hQ _ _ (by assumption)
    | with_reducible refine zm_and ?_ ?_
    | with_reducible refine zm_gI (fun x => ?_)
    | with_reducible refine zm_gR (fun x => ?_)
    | with_reducible refine zm_lI (fun x => ?_)
    | with_reducible refine zm_ex (fun x => ?_)
    | with_reducible refine z_L_X12_mark_129 (fun y0 h1 z1 => ?_) _ _ _ _ (by assumption)
    | with_reducible refine z_f_X12_behind (fun y0 h1 z1 => ?_) (by assumption)
    | with_reducible refine z_f_X12_find (fun y0 h1 z1 => ?_) (by assumption)
    | with_reducible refine z_f_X12_in (fun y0 h1 z1 => ?_) (by assumption)
    | with_reducible refine z_f_X12_isOf (fun y0 h1 z1 => ?_) (by assumption)
    | with_reducible refine z_f_X12_isWalker (fun y0 h1 z1 => ?_) (by assumption)
    | with_reducible refine z_f_X12_size (fun y0 h1 z1 => ?_) (by assumption)
    | with_reducible refine zm_imp (fun _ => ?_)
    | with_reducible exact id
theorem z_f_X11_law {L0 : Nat} {xs0 : Nat → Int32} {Q Q' : Int32 → AH → Prop} (hQ : ∀ (y0 : Int32) (h : AH), ZZ L0 xs0 h → Q y0 h → Q' y0 h) {v0 : Nat} {v1 : Int32} {h : AH} (z : ZZ L0 xs0 h) : f_X11_law v0 v1 h Q → f_X11_law v0 v1 h Q' := by
  unfold f_X11_law
  repeat' first
    | with_reducible exact hQ _ _ (by assumption)
    | with_reducible refine zm_and ?_ ?_
    | with_reducible refine zm_gI (fun x => ?_)
    | with_reducible refine zm_pF (by assumption) (fun h1 z1 => ?_)
    | with_reducible refine z_f_X11_isBelow (fun y0 h1 z1 => ?_) (by assumption)
    | with_reducible refine zm_imp (fun _ => ?_)
    | with_reducible exact id
theorem z_f_X12_law {L0 : Nat} {xs0 : Nat → Int32} {Q Q' : Int32 → AH → Prop} (hQ : ∀ (y0 : Int32) (h : AH), ZZ L0 xs0 h → Q y0 h → Q' y0 h) {v0 : Nat} {v1 : Int32} {h : AH} (z : ZZ L0 xs0 h) : f_X12_law v0 v1 h Q → f_X12_law v0 v1 h Q' := by
  unfold f_X12_law
  repeat' first
    | with_reducible exact hQ _ _ (by assumption)
    | with_reducible refine zm_and ?_ ?_
    | with_reducible refine zm_gI (fun x => ?_)
    | with_reducible refine zm_pF (by assumption) (fun h1 z1 => ?_)
    | with_reducible refine z_f_X12_in (fun y0 h1 z1 => ?_) (by assumption)
    | with_reducible refine zm_imp (fun _ => ?_)
    | with_reducible exact id
theorem z_f_X2_go {L0 : Nat} {xs0 : Nat → Int32} {Q Q' : AH → Prop} (hQ : ∀ (h : AH), ZZ L0 xs0 h → Q  h → Q'  h) {v0 : Nat} {v1 : Nat} {h : AH} (z : ZZ L0 xs0 h) : f_X2_go v0 v1 h Q → f_X2_go v0 v1 h Q' := by
  unfold f_X2_go
  repeat' first
    | with_reducible exact hQ _ (by assumption)
    | with_reducible refine zm_and ?_ ?_
    | with_reducible refine zm_gW (fun x => ?_)
    | with_reducible refine z_f_X10_nextTo (fun y0 h1 z1 => ?_) (by assumption)
    | with_reducible refine z_v_goOneWay1 (fun  h1 z1 => ?_) (by assumption)
    | with_reducible refine zm_imp (fun _ => ?_)
    | with_reducible exact id
theorem z_f_X8_go {L0 : Nat} {xs0 : Nat → Int32} {Q Q' : AH → Prop} (hQ : ∀ (h : AH), ZZ L0 xs0 h → Q  h → Q'  h) {v0 : Nat} {v1 : Nat} {h : AH} (z : ZZ L0 xs0 h) : f_X8_go v0 v1 h Q → f_X8_go v0 v1 h Q' := by
  unfold f_X8_go
  repeat' first
    | with_reducible exact hQ _ (by assumption)
    | with_reducible refine zm_and ?_ ?_
    | with_reducible refine z_f_X8_chosen (fun y0 h1 z1 => ?_) (by assumption)
    | with_reducible refine z_f_X9_carry (fun  h1 z1 => ?_) (by assumption)
    | with_reducible refine zm_imp (fun _ => ?_)
    | with_reducible exact id
theorem z_f_X10_go {L0 : Nat} {xs0 : Nat → Int32} {Q Q' : AH → Prop} (hQ : ∀ (h : AH), ZZ L0 xs0 h → Q  h → Q'  h) {v0 : Nat} {v1 : Nat} {h : AH} (z : ZZ L0 xs0 h) : f_X10_go v0 v1 h Q → f_X10_go v0 v1 h Q' := by
  unfold f_X10_go
  repeat' first
    | with_reducible exact hQ _ (by assumption)
    | with_reducible refine zm_and ?_ ?_
    | with_reducible refine zm_gW (fun x => ?_)
    | with_reducible refine z_v_goOneWay2 (fun  h1 z1 => ?_) (by assumption)
    | with_reducible refine zm_imp (fun _ => ?_)
    | with_reducible exact id
theorem z_v_go1 {L0 : Nat} {xs0 : Nat → Int32} {Q Q' : AH → Prop} (hQ : ∀ (h : AH), ZZ L0 xs0 h → Q  h → Q'  h) {a : Nat} {u0 : Nat} {h : AH} (z : ZZ L0 xs0 h) : v_go1 a u0 h Q → v_go1 a u0 h Q' := by
  unfold v_go1
  repeat' first
    | with_reducible exact hQ _ (by assumption)
    | with_reducible refine zm_and ?_ ?_
    | with_reducible refine zm_ex (fun x => ?_)
    | with_reducible refine zm_or ?_ ?_
    | with_reducible refine z_f_X0_go (fun  h1 z1 => ?_) (by assumption)
    | with_reducible refine z_f_X10_go (fun  h1 z1 => ?_) (by assumption)
    | with_reducible refine z_f_X1_go (fun  h1 z1 => ?_) (by assumption)
    | with_reducible refine z_f_X2_go (fun  h1 z1 => ?_) (by assumption)
    | with_reducible refine z_f_X8_go (fun  h1 z1 => ?_) (by assumption)
    | with_reducible refine zm_imp (fun _ => ?_)
    | with_reducible exact id
theorem z_f_X9_send {L0 : Nat} {xs0 : Nat → Int32} {Q Q' : AH → Prop} (hQ : ∀ (h : AH), ZZ L0 xs0 h → Q  h → Q'  h) {v0 : Nat} {v1 : Int32} {h : AH} (z : ZZ L0 xs0 h) : f_X9_send v0 v1 h Q → f_X9_send v0 v1 h Q' := by
  unfold f_X9_send
  repeat' first
    | with_reducible exact hQ _ (by assumption)
    | with_reducible refine zm_and ?_ ?_
    | with_reducible refine zm_gR (fun x => ?_)
    | with_reducible refine zm_pF (by assumption) (fun h1 z1 => ?_)
    | with_reducible refine zm_all (fun x _ => ?_)
    | with_reducible refine z_f_X5_walkerAt (fun y0 h1 z1 => ?_) (by assumption)
    | with_reducible refine z_v_go1 (fun  h1 z1 => ?_) (by assumption)
    | with_reducible refine zm_imp (fun _ => ?_)
    | with_reducible exact id
theorem z_f_X11_doWalk {L0 : Nat} {xs0 : Nat → Int32} {Q Q' : Int32 → AH → Prop} (hQ : ∀ (y0 : Int32) (h : AH), ZZ L0 xs0 h → Q y0 h → Q' y0 h) {v0 : Nat} {v1 : Int32} {h : AH} (z : ZZ L0 xs0 h) : f_X11_doWalk v0 v1 h Q → f_X11_doWalk v0 v1 h Q' := by
  unfold f_X11_doWalk
  repeat' first
    | with_reducible exact hQ _ _ (by assumption)
    | with_reducible refine zm_and ?_ ?_
    | with_reducible refine zm_gI (fun x => ?_)
    | with_reducible refine zm_gR (fun x => ?_)
    | with_reducible refine zm_lQ (fun x => ?_)
    | with_reducible refine zm_pF (by assumption) (fun h1 z1 => ?_)
    | with_reducible refine z_f_X11_isBelow (fun y0 h1 z1 => ?_) (by assumption)
    | with_reducible refine z_f_X9_begin (fun  h1 z1 => ?_) (by assumption)
    | with_reducible refine z_f_X9_send (fun  h1 z1 => ?_) (by assumption)
    | with_reducible refine zm_imp (fun _ => ?_)
    | with_reducible exact id
theorem z_f_X11_walk {L0 : Nat} {xs0 : Nat → Int32} {Q Q' : Int32 → AH → Prop} (hQ : ∀ (y0 : Int32) (h : AH), ZZ L0 xs0 h → Q y0 h → Q' y0 h) {v0 : Nat} {v1 : Int32} {h : AH} (z : ZZ L0 xs0 h) : f_X11_walk v0 v1 h Q → f_X11_walk v0 v1 h Q' := by
  unfold f_X11_walk
  repeat' first
    | with_reducible exact hQ _ _ (by assumption)
    | with_reducible refine zm_and ?_ ?_
    | with_reducible refine zm_gI (fun x => ?_)
    | with_reducible refine zm_gR (fun x => ?_)
    | with_reducible refine z_f_X11_doWalk (fun y0 h1 z1 => ?_) (by assumption)
    | with_reducible refine z_f_X11_isBelow (fun y0 h1 z1 => ?_) (by assumption)
    | with_reducible refine zm_imp (fun _ => ?_)
    | with_reducible exact id
theorem z_B_X12_walks1_68 {L0 : Nat} {xs0 : Nat → Int32} {Q Q' : Int32 → AH → Prop} {K68 K68' : Int32 → AH → Prop} (hQ : ∀ (y0 : Int32) (h : AH), ZZ L0 xs0 h → Q y0 h → Q' y0 h) (hK68 : ∀ (y0 : Int32) (h : AH), ZZ L0 xs0 h → K68 y0 h → K68' y0 h) {v0 : Nat} {v2 : Int32} {h : AH} (z : ZZ L0 xs0 h) : B_X12_walks1_68 Q K68 v0 v2 h → B_X12_walks1_68 Q' K68' v0 v2 h := by
  unfold B_X12_walks1_68
  repeat' first
    | with_reducible exact hQ _ _ (by assumption)
    | with_reducible exact hK68 _ _ (by assumption)
    | with_reducible refine zm_and ?_ ?_
    | with_reducible refine zm_gI (fun x => ?_)
    | with_reducible refine zm_gR (fun x => ?_)
    | with_reducible refine zm_lI (fun x => ?_)
    | with_reducible refine zm_pF (by assumption) (fun h1 z1 => ?_)
    | with_reducible refine zm_sI (by assumption) (fun h1 z1 => ?_)
    | with_reducible refine zm_imp (fun _ => ?_)
    | with_reducible exact id
theorem z_L_X12_walks1_68 {L0 : Nat} {xs0 : Nat → Int32} {Q Q' : Int32 → AH → Prop} (hQ : ∀ (y0 : Int32) (h : AH), ZZ L0 xs0 h → Q y0 h → Q' y0 h) {v0 : Nat} : ∀ (n : Nat) (w0 : Int32) (h : AH), ZZ L0 xs0 h → L_X12_walks1_68 Q v0 n w0 h → L_X12_walks1_68 Q' v0 n w0 h := by
  intro n
  induction n with
  | zero => intro w0 h z H; exact H.elim
  | succ n ih => intro w0 h z; exact z_B_X12_walks1_68 hQ ih z
theorem z_f_X12_walks1 {L0 : Nat} {xs0 : Nat → Int32} {Q Q' : Int32 → AH → Prop} (hQ : ∀ (y0 : Int32) (h : AH), ZZ L0 xs0 h → Q y0 h → Q' y0 h) {v0 : Nat} {v1 : Int32} {h : AH} (z : ZZ L0 xs0 h) : f_X12_walks1 v0 v1 h Q → f_X12_walks1 v0 v1 h Q' := by
  unfold f_X12_walks1
  repeat' first
    | with_reducible exact hQ _ _ (by assumption)
    | with_reducible refine zm_and ?_ ?_
    | with_reducible refine zm_gI (fun x => ?_)
    | with_reducible refine zm_gR (fun x => ?_)
    | with_reducible refine zm_lI (fun x => ?_)
    | with_reducible refine zm_pF (by assumption) (fun h1 z1 => ?_)
    | with_reducible refine zm_sI (by assumption) (fun h1 z1 => ?_)
    | with_reducible refine zm_ex (fun x => ?_)
    | with_reducible refine z_L_X12_walks1_68 (fun y0 h1 z1 => ?_) _ _ _ (by assumption)
    | with_reducible refine z_f_X12_behind (fun y0 h1 z1 => ?_) (by assumption)
    | with_reducible refine zm_imp (fun _ => ?_)
    | with_reducible exact id
theorem z_f_X12_walk {L0 : Nat} {xs0 : Nat → Int32} {Q Q' : Int32 → AH → Prop} (hQ : ∀ (y0 : Int32) (h : AH), ZZ L0 xs0 h → Q y0 h → Q' y0 h) {v0 : Nat} {v1 : Int32} {h : AH} (z : ZZ L0 xs0 h) : f_X12_walk v0 v1 h Q → f_X12_walk v0 v1 h Q' := by
  unfold f_X12_walk
  repeat' first
    | with_reducible exact hQ _ _ (by assumption)
    | with_reducible refine zm_and ?_ ?_
    | with_reducible refine zm_gI (fun x => ?_)
    | with_reducible refine z_f_X12_isWalker (fun y0 h1 z1 => ?_) (by assumption)
    | with_reducible refine z_f_X12_walks1 (fun y0 h1 z1 => ?_) (by assumption)
    | with_reducible refine zm_imp (fun _ => ?_)
    | with_reducible exact id
theorem z_B_X5_farFromHome_4 {L0 : Nat} {xs0 : Nat → Int32} {Q Q' : Int32 → AH → Prop} {K4 K4' : Int32 → Int32 → AH → Prop} (hQ : ∀ (y0 : Int32) (h : AH), ZZ L0 xs0 h → Q y0 h → Q' y0 h) (hK4 : ∀ (y0 : Int32) (y1 : Int32) (h : AH), ZZ L0 xs0 h → K4 y0 y1 h → K4' y0 y1 h) {v0 : Nat} {v1 : Int32} {v2 : Int32} {v3 : Int32} {h : AH} (z : ZZ L0 xs0 h) : B_X5_farFromHome_4 Q K4 v0 v1 v2 v3 h → B_X5_farFromHome_4 Q' K4' v0 v1 v2 v3 h := by
  unfold B_X5_farFromHome_4
  repeat' first
    | with_reducible exact hQ _ _ (by assumption)
    | with_reducible exact hK4 _ _ _ (by assumption)
    | with_reducible refine zm_and ?_ ?_
    | with_reducible refine zm_gI (fun x => ?_)
    | with_reducible refine zm_gR (fun x => ?_)
    | with_reducible refine zm_lI (fun x => ?_)
    | with_reducible refine z_f_X5_postOf (fun y0 h1 z1 => ?_) (by assumption)
    | with_reducible refine zm_imp (fun _ => ?_)
    | with_reducible exact id
theorem z_L_X5_farFromHome_4 {L0 : Nat} {xs0 : Nat → Int32} {Q Q' : Int32 → AH → Prop} (hQ : ∀ (y0 : Int32) (h : AH), ZZ L0 xs0 h → Q y0 h → Q' y0 h) {v0 : Nat} {v1 : Int32} : ∀ (n : Nat) (w0 : Int32) (w1 : Int32) (h : AH), ZZ L0 xs0 h → L_X5_farFromHome_4 Q v0 v1 n w0 w1 h → L_X5_farFromHome_4 Q' v0 v1 n w0 w1 h := by
  intro n
  induction n with
  | zero => intro w0 w1 h z H; exact H.elim
  | succ n ih => intro w0 w1 h z; exact z_B_X5_farFromHome_4 hQ ih z
theorem z_f_X5_farFromHome {L0 : Nat} {xs0 : Nat → Int32} {Q Q' : Int32 → AH → Prop} (hQ : ∀ (y0 : Int32) (h : AH), ZZ L0 xs0 h → Q y0 h → Q' y0 h) {v0 : Nat} {v1 : Int32} {h : AH} (z : ZZ L0 xs0 h) : f_X5_farFromHome v0 v1 h Q → f_X5_farFromHome v0 v1 h Q' := by
  unfold f_X5_farFromHome
  repeat' first
    | with_reducible exact hQ _ _ (by assumption)
    | with_reducible refine zm_and ?_ ?_
    | with_reducible refine zm_ex (fun x => ?_)
    | with_reducible refine z_L_X5_farFromHome_4 (fun y0 h1 z1 => ?_) _ _ _ _ (by assumption)
    | with_reducible refine zm_imp (fun _ => ?_)
    | with_reducible exact id
theorem z_f_X11_pays {L0 : Nat} {xs0 : Nat → Int32} {Q Q' : Int32 → AH → Prop} (hQ : ∀ (y0 : Int32) (h : AH), ZZ L0 xs0 h → Q y0 h → Q' y0 h) {v0 : Nat} {v1 : Int32} {h : AH} (z : ZZ L0 xs0 h) : f_X11_pays v0 v1 h Q → f_X11_pays v0 v1 h Q' := by
  unfold f_X11_pays
  repeat' first
    | with_reducible exact hQ _ _ (by assumption)
    | with_reducible refine zm_and ?_ ?_
    | with_reducible refine zm_gI (fun x => ?_)
    | with_reducible refine zm_gR (fun x => ?_)
    | with_reducible refine zm_pF (by assumption) (fun h1 z1 => ?_)
    | with_reducible refine z_f_X11_isBelow (fun y0 h1 z1 => ?_) (by assumption)
    | with_reducible refine z_f_X5_farFromHome (fun y0 h1 z1 => ?_) (by assumption)
    | with_reducible refine z_f_X9_begin (fun  h1 z1 => ?_) (by assumption)
    | with_reducible refine z_f_X9_send (fun  h1 z1 => ?_) (by assumption)
    | with_reducible refine zm_imp (fun _ => ?_)
    | with_reducible exact id
theorem z_B_X12_apartOf_4 {L0 : Nat} {xs0 : Nat → Int32} {Q Q' : Int32 → AH → Prop} {K4 K4' : Int32 → Int32 → AH → Prop} (hQ : ∀ (y0 : Int32) (h : AH), ZZ L0 xs0 h → Q y0 h → Q' y0 h) (hK4 : ∀ (y0 : Int32) (y1 : Int32) (h : AH), ZZ L0 xs0 h → K4 y0 y1 h → K4' y0 y1 h) {v0 : Nat} {v1 : Int32} {v2 : Int32} {v3 : Int32} {h : AH} (z : ZZ L0 xs0 h) : B_X12_apartOf_4 Q K4 v0 v1 v2 v3 h → B_X12_apartOf_4 Q' K4' v0 v1 v2 v3 h := by
  unfold B_X12_apartOf_4
  repeat' first
    | with_reducible exact hQ _ _ (by assumption)
    | with_reducible exact hK4 _ _ _ (by assumption)
    | with_reducible refine zm_and ?_ ?_
    | with_reducible refine zm_gI (fun x => ?_)
    | with_reducible refine z_f_X12_home (fun y0 h1 z1 => ?_) (by assumption)
    | with_reducible refine z_f_X12_size (fun y0 h1 z1 => ?_) (by assumption)
    | with_reducible refine z_f_X12_spotOf (fun y0 h1 z1 => ?_) (by assumption)
    | with_reducible refine zm_imp (fun _ => ?_)
    | with_reducible exact id
theorem z_L_X12_apartOf_4 {L0 : Nat} {xs0 : Nat → Int32} {Q Q' : Int32 → AH → Prop} (hQ : ∀ (y0 : Int32) (h : AH), ZZ L0 xs0 h → Q y0 h → Q' y0 h) {v0 : Nat} {v1 : Int32} : ∀ (n : Nat) (w0 : Int32) (w1 : Int32) (h : AH), ZZ L0 xs0 h → L_X12_apartOf_4 Q v0 v1 n w0 w1 h → L_X12_apartOf_4 Q' v0 v1 n w0 w1 h := by
  intro n
  induction n with
  | zero => intro w0 w1 h z H; exact H.elim
  | succ n ih => intro w0 w1 h z; exact z_B_X12_apartOf_4 hQ ih z
theorem z_f_X12_apartOf {L0 : Nat} {xs0 : Nat → Int32} {Q Q' : Int32 → AH → Prop} (hQ : ∀ (y0 : Int32) (h : AH), ZZ L0 xs0 h → Q y0 h → Q' y0 h) {v0 : Nat} {v1 : Int32} {h : AH} (z : ZZ L0 xs0 h) : f_X12_apartOf v0 v1 h Q → f_X12_apartOf v0 v1 h Q' := by
  unfold f_X12_apartOf
  repeat' first
    | with_reducible exact hQ _ _ (by assumption)
    | with_reducible refine zm_and ?_ ?_
    | with_reducible refine zm_ex (fun x => ?_)
    | with_reducible refine z_L_X12_apartOf_4 (fun y0 h1 z1 => ?_) _ _ _ _ (by assumption)
    | with_reducible refine zm_imp (fun _ => ?_)
    | with_reducible exact id
theorem z_f_X12_pays {L0 : Nat} {xs0 : Nat → Int32} {Q Q' : Int32 → AH → Prop} (hQ : ∀ (y0 : Int32) (h : AH), ZZ L0 xs0 h → Q y0 h → Q' y0 h) {v0 : Nat} {v1 : Int32} {h : AH} (z : ZZ L0 xs0 h) : f_X12_pays v0 v1 h Q → f_X12_pays v0 v1 h Q' := by
  unfold f_X12_pays
  repeat' first
    | with_reducible exact hQ _ _ (by assumption)
    | with_reducible refine zm_and ?_ ?_
    | with_reducible refine zm_gI (fun x => ?_)
    | with_reducible refine zm_pF (by assumption) (fun h1 z1 => ?_)
    | with_reducible refine z_f_X12_apartOf (fun y0 h1 z1 => ?_) (by assumption)
    | with_reducible refine z_f_X12_behind (fun y0 h1 z1 => ?_) (by assumption)
    | with_reducible refine z_f_X12_isWalker (fun y0 h1 z1 => ?_) (by assumption)
    | with_reducible refine zm_imp (fun _ => ?_)
    | with_reducible exact id
theorem z_f_X11_undo {L0 : Nat} {xs0 : Nat → Int32} {Q Q' : Int32 → AH → Prop} (hQ : ∀ (y0 : Int32) (h : AH), ZZ L0 xs0 h → Q y0 h → Q' y0 h) {v0 : Nat} {v1 : Int32} {h : AH} (z : ZZ L0 xs0 h) : f_X11_undo v0 v1 h Q → f_X11_undo v0 v1 h Q' := by
  unfold f_X11_undo
  repeat' first
    | with_reducible exact hQ _ _ (by assumption)
    | with_reducible refine zm_and ?_ ?_
    | with_reducible refine zm_gI (fun x => ?_)
    | with_reducible refine zm_gR (fun x => ?_)
    | with_reducible refine zm_lQ (fun x => ?_)
    | with_reducible refine zm_pF (by assumption) (fun h1 z1 => ?_)
    | with_reducible refine z_f_X11_isBelow (fun y0 h1 z1 => ?_) (by assumption)
    | with_reducible refine zm_imp (fun _ => ?_)
    | with_reducible exact id
theorem z_B_X12_undo_82 {L0 : Nat} {xs0 : Nat → Int32} {Q Q' : Int32 → AH → Prop} {K23 K23' : AH → Prop} {K82 K82' : Int32 → AH → Prop} (hQ : ∀ (y0 : Int32) (h : AH), ZZ L0 xs0 h → Q y0 h → Q' y0 h) (hK23 : ∀ (h : AH), ZZ L0 xs0 h → K23  h → K23'  h) (hK82 : ∀ (y0 : Int32) (h : AH), ZZ L0 xs0 h → K82 y0 h → K82' y0 h) {v0 : Nat} {v1 : Int32} {v2 : Int32} {v3 : Int32} {h : AH} (z : ZZ L0 xs0 h) : B_X12_undo_82 Q K23 K82 v0 v1 v2 v3 h → B_X12_undo_82 Q' K23' K82' v0 v1 v2 v3 h := by
  unfold B_X12_undo_82
  repeat' first
    | with_reducible exact hQ _ _ (by assumption)
    | with_reducible exact hK23 _ (by assumption)
    | with_reducible exact hK82 _ _ (by assumption)
    | with_reducible refine zm_and ?_ ?_
    | with_reducible refine zm_gI (fun x => ?_)
    | with_reducible refine zm_gR (fun x => ?_)
    | with_reducible refine zm_lI (fun x => ?_)
    | with_reducible refine zm_sI (by assumption) (fun h1 z1 => ?_)
    | with_reducible refine zm_imp (fun _ => ?_)
    | with_reducible exact id
theorem z_L_X12_undo_82 {L0 : Nat} {xs0 : Nat → Int32} {Q Q' : Int32 → AH → Prop} {K23 K23' : AH → Prop} (hQ : ∀ (y0 : Int32) (h : AH), ZZ L0 xs0 h → Q y0 h → Q' y0 h) (hK23 : ∀ (h : AH), ZZ L0 xs0 h → K23  h → K23'  h) {v0 : Nat} {v1 : Int32} {v2 : Int32} : ∀ (n : Nat) (w0 : Int32) (h : AH), ZZ L0 xs0 h → L_X12_undo_82 Q K23 v0 v1 v2 n w0 h → L_X12_undo_82 Q' K23' v0 v1 v2 n w0 h := by
  intro n
  induction n with
  | zero => intro w0 h z H; exact H.elim
  | succ n ih => intro w0 h z; exact z_B_X12_undo_82 hQ hK23 ih z
theorem z_B_X12_undo_23 {L0 : Nat} {xs0 : Nat → Int32} {Q Q' : Int32 → AH → Prop} {K23 K23' : AH → Prop} (hQ : ∀ (y0 : Int32) (h : AH), ZZ L0 xs0 h → Q y0 h → Q' y0 h) (hK23 : ∀ (h : AH), ZZ L0 xs0 h → K23  h → K23'  h) {v0 : Nat} {v1 : Int32} {v2 : Int32} {h : AH} (z : ZZ L0 xs0 h) : B_X12_undo_23 Q K23 v0 v1 v2 h → B_X12_undo_23 Q' K23' v0 v1 v2 h := by
  unfold B_X12_undo_23
  repeat' first
    | with_reducible exact hQ _ _ (by assumption)
    | with_reducible exact hK23 _ (by assumption)
    | with_reducible refine zm_and ?_ ?_
    | with_reducible refine zm_gI (fun x => ?_)
    | with_reducible refine zm_gR (fun x => ?_)
    | with_reducible refine zm_lI (fun x => ?_)
    | with_reducible refine zm_pF (by assumption) (fun h1 z1 => ?_)
    | with_reducible refine zm_sI (by assumption) (fun h1 z1 => ?_)
    | with_reducible refine zm_ex (fun x => ?_)
    | with_reducible refine z_L_X12_undo_82 (fun y0 h1 z1 => ?_) (fun  h1 z1 => ?_) _ _ _ (by assumption)
    | with_reducible refine zm_imp (fun _ => ?_)
    | with_reducible exact id
theorem z_L_X12_undo_23 {L0 : Nat} {xs0 : Nat → Int32} {Q Q' : Int32 → AH → Prop} (hQ : ∀ (y0 : Int32) (h : AH), ZZ L0 xs0 h → Q y0 h → Q' y0 h) {v0 : Nat} {v1 : Int32} {v2 : Int32} : ∀ (n : Nat)  (h : AH), ZZ L0 xs0 h → L_X12_undo_23 Q v0 v1 v2 n  h → L_X12_undo_23 Q' v0 v1 v2 n  h := by
  intro n
  induction n with
  | zero => intro  h z H; exact H.elim
  | succ n ih => intro  h z; exact z_B_X12_undo_23 hQ ih z
theorem z_f_X12_undo {L0 : Nat} {xs0 : Nat → Int32} {Q Q' : Int32 → AH → Prop} (hQ : ∀ (y0 : Int32) (h : AH), ZZ L0 xs0 h → Q y0 h → Q' y0 h) {v0 : Nat} {v1 : Int32} {h : AH} (z : ZZ L0 xs0 h) : f_X12_undo v0 v1 h Q → f_X12_undo v0 v1 h Q' := by
  unfold f_X12_undo
  repeat' first
    | with_reducible exact hQ _ _ (by assumption)
    | with_reducible refine zm_and ?_ ?_
    | with_reducible refine zm_gI (fun x => ?_)
    | with_reducible refine zm_ex (fun x => ?_)
    | with_reducible refine z_L_X12_undo_23 (fun y0 h1 z1 => ?_) _ _ (by assumption)
    | with_reducible refine z_f_X12_in (fun y0 h1 z1 => ?_) (by assumption)
    | with_reducible refine zm_imp (fun _ => ?_)
    | with_reducible exact id
theorem z_B_X11_walks_89 {L0 : Nat} {xs0 : Nat → Int32} {Q Q' : Int32 → AH → Prop} {K89 K89' : Int32 → Int32 → AH → Prop} (hQ : ∀ (y0 : Int32) (h : AH), ZZ L0 xs0 h → Q y0 h → Q' y0 h) (hK89 : ∀ (y0 : Int32) (y1 : Int32) (h : AH), ZZ L0 xs0 h → K89 y0 y1 h → K89' y0 y1 h) {v0 : Nat} {v3 : Nat} {v4 : Int32} {v5 : Int32} {h : AH} (z : ZZ L0 xs0 h) : B_X11_walks_89 Q K89 v0 v3 v4 v5 h → B_X11_walks_89 Q' K89' v0 v3 v4 v5 h := by
  unfold B_X11_walks_89
  repeat' first
    | with_reducible exact hQ _ _ (by assumption)
    | with_reducible exact hK89 _ _ _ (by assumption)
    | with_reducible refine zm_and ?_ ?_
    | with_reducible refine zm_gI (fun x => ?_)
    | with_reducible refine z_f_X11_doWalk (fun y0 h1 z1 => ?_) (by assumption)
    | with_reducible refine z_f_X6_get (fun y0 h1 z1 => ?_) (by assumption)
    | with_reducible refine zm_imp (fun _ => ?_)
    | with_reducible exact id
theorem z_L_X11_walks_89 {L0 : Nat} {xs0 : Nat → Int32} {Q Q' : Int32 → AH → Prop} (hQ : ∀ (y0 : Int32) (h : AH), ZZ L0 xs0 h → Q y0 h → Q' y0 h) {v0 : Nat} {v3 : Nat} : ∀ (n : Nat) (w0 : Int32) (w1 : Int32) (h : AH), ZZ L0 xs0 h → L_X11_walks_89 Q v0 v3 n w0 w1 h → L_X11_walks_89 Q' v0 v3 n w0 w1 h := by
  intro n
  induction n with
  | zero => intro w0 w1 h z H; exact H.elim
  | succ n ih => intro w0 w1 h z; exact z_B_X11_walks_89 hQ ih z
theorem z_B_X11_walks_26 {L0 : Nat} {xs0 : Nat → Int32} {Q Q' : Int32 → AH → Prop} {K26 K26' : Int32 → AH → Prop} (hQ : ∀ (y0 : Int32) (h : AH), ZZ L0 xs0 h → Q y0 h → Q' y0 h) (hK26 : ∀ (y0 : Int32) (h : AH), ZZ L0 xs0 h → K26 y0 h → K26' y0 h) {v0 : Nat} {v3 : Nat} {v4 : Int32} {h : AH} (z : ZZ L0 xs0 h) : B_X11_walks_26 Q K26 v0 v3 v4 h → B_X11_walks_26 Q' K26' v0 v3 v4 h := by
  unfold B_X11_walks_26
  repeat' first
    | with_reducible exact hQ _ _ (by assumption)
    | with_reducible exact hK26 _ _ (by assumption)
    | with_reducible refine zm_and ?_ ?_
    | with_reducible refine zm_gI (fun x => ?_)
    | with_reducible refine zm_gR (fun x => ?_)
    | with_reducible refine zm_ex (fun x => ?_)
    | with_reducible refine z_L_X11_walks_89 (fun y0 h1 z1 => ?_) _ _ _ _ (by assumption)
    | with_reducible refine z_f_X11_found (fun y0 h1 z1 => ?_) (by assumption)
    | with_reducible refine z_f_X11_isBelow (fun y0 h1 z1 => ?_) (by assumption)
    | with_reducible refine z_f_X6_get (fun y0 h1 z1 => ?_) (by assumption)
    | with_reducible refine zm_imp (fun _ => ?_)
    | with_reducible exact id
theorem z_L_X11_walks_26 {L0 : Nat} {xs0 : Nat → Int32} {Q Q' : Int32 → AH → Prop} (hQ : ∀ (y0 : Int32) (h : AH), ZZ L0 xs0 h → Q y0 h → Q' y0 h) {v0 : Nat} {v3 : Nat} : ∀ (n : Nat) (w0 : Int32) (h : AH), ZZ L0 xs0 h → L_X11_walks_26 Q v0 v3 n w0 h → L_X11_walks_26 Q' v0 v3 n w0 h := by
  intro n
  induction n with
  | zero => intro w0 h z H; exact H.elim
  | succ n ih => intro w0 h z; exact z_B_X11_walks_26 hQ ih z
theorem z_f_X11_walks {L0 : Nat} {xs0 : Nat → Int32} {Q Q' : Int32 → AH → Prop} (hQ : ∀ (y0 : Int32) (h : AH), ZZ L0 xs0 h → Q y0 h → Q' y0 h) {v0 : Nat} {v1 : Int32} {h : AH} (z : ZZ L0 xs0 h) : f_X11_walks v0 v1 h Q → f_X11_walks v0 v1 h Q' := by
  unfold f_X11_walks
  repeat' first
    | with_reducible exact hQ _ _ (by assumption)
    | with_reducible refine zm_and ?_ ?_
    | with_reducible refine zm_gR (fun x => ?_)
    | with_reducible refine zm_lQ (fun x => ?_)
    | with_reducible refine zm_ex (fun x => ?_)
    | with_reducible refine z_L_X11_walks_26 (fun y0 h1 z1 => ?_) _ _ _ (by assumption)
    | with_reducible refine z_f_X11_refuseMissing (fun y0 h1 z1 => ?_) (by assumption)
    | with_reducible refine zm_imp (fun _ => ?_)
    | with_reducible exact id
theorem z_B_X12_walks_89 {L0 : Nat} {xs0 : Nat → Int32} {Q Q' : Int32 → AH → Prop} {K89 K89' : Int32 → Int32 → AH → Prop} (hQ : ∀ (y0 : Int32) (h : AH), ZZ L0 xs0 h → Q y0 h → Q' y0 h) (hK89 : ∀ (y0 : Int32) (y1 : Int32) (h : AH), ZZ L0 xs0 h → K89 y0 y1 h → K89' y0 y1 h) {v0 : Nat} {v1 : Int32} {v2 : Int32} {v3 : Int32} {h : AH} (z : ZZ L0 xs0 h) : B_X12_walks_89 Q K89 v0 v1 v2 v3 h → B_X12_walks_89 Q' K89' v0 v1 v2 v3 h := by
  unfold B_X12_walks_89
  repeat' first
    | with_reducible exact hQ _ _ (by assumption)
    | with_reducible exact hK89 _ _ _ (by assumption)
    | with_reducible refine zm_and ?_ ?_
    | with_reducible refine zm_gR (fun x => ?_)
    | with_reducible refine zm_lI (fun x => ?_)
    | with_reducible refine z_f_X12_walks1 (fun y0 h1 z1 => ?_) (by assumption)
    | with_reducible refine zm_imp (fun _ => ?_)
    | with_reducible exact id
theorem z_L_X12_walks_89 {L0 : Nat} {xs0 : Nat → Int32} {Q Q' : Int32 → AH → Prop} (hQ : ∀ (y0 : Int32) (h : AH), ZZ L0 xs0 h → Q y0 h → Q' y0 h) {v0 : Nat} {v1 : Int32} : ∀ (n : Nat) (w0 : Int32) (w1 : Int32) (h : AH), ZZ L0 xs0 h → L_X12_walks_89 Q v0 v1 n w0 w1 h → L_X12_walks_89 Q' v0 v1 n w0 w1 h := by
  intro n
  induction n with
  | zero => intro w0 w1 h z H; exact H.elim
  | succ n ih => intro w0 w1 h z; exact z_B_X12_walks_89 hQ ih z
theorem z_B_X12_walks_26 {L0 : Nat} {xs0 : Nat → Int32} {Q Q' : Int32 → AH → Prop} {K26 K26' : Int32 → AH → Prop} (hQ : ∀ (y0 : Int32) (h : AH), ZZ L0 xs0 h → Q y0 h → Q' y0 h) (hK26 : ∀ (y0 : Int32) (h : AH), ZZ L0 xs0 h → K26 y0 h → K26' y0 h) {v0 : Nat} {v1 : Int32} {v2 : Int32} {h : AH} (z : ZZ L0 xs0 h) : B_X12_walks_26 Q K26 v0 v1 v2 h → B_X12_walks_26 Q' K26' v0 v1 v2 h := by
  unfold B_X12_walks_26
  repeat' first
    | with_reducible exact hQ _ _ (by assumption)
    | with_reducible exact hK26 _ _ (by assumption)
    | with_reducible refine zm_and ?_ ?_
    | with_reducible refine zm_gI (fun x => ?_)
    | with_reducible refine zm_gR (fun x => ?_)
    | with_reducible refine zm_lI (fun x => ?_)
    | with_reducible refine zm_ex (fun x => ?_)
    | with_reducible refine z_L_X12_walks_89 (fun y0 h1 z1 => ?_) _ _ _ _ (by assumption)
    | with_reducible refine z_f_X12_find (fun y0 h1 z1 => ?_) (by assumption)
    | with_reducible refine z_f_X12_isWalker (fun y0 h1 z1 => ?_) (by assumption)
    | with_reducible refine zm_imp (fun _ => ?_)
    | with_reducible exact id
theorem z_L_X12_walks_26 {L0 : Nat} {xs0 : Nat → Int32} {Q Q' : Int32 → AH → Prop} (hQ : ∀ (y0 : Int32) (h : AH), ZZ L0 xs0 h → Q y0 h → Q' y0 h) {v0 : Nat} {v1 : Int32} : ∀ (n : Nat) (w0 : Int32) (h : AH), ZZ L0 xs0 h → L_X12_walks_26 Q v0 v1 n w0 h → L_X12_walks_26 Q' v0 v1 n w0 h := by
  intro n
  induction n with
  | zero => intro w0 h z H; exact H.elim
  | succ n ih => intro w0 h z; exact z_B_X12_walks_26 hQ ih z
theorem z_f_X12_walks {L0 : Nat} {xs0 : Nat → Int32} {Q Q' : Int32 → AH → Prop} (hQ : ∀ (y0 : Int32) (h : AH), ZZ L0 xs0 h → Q y0 h → Q' y0 h) {v0 : Nat} {v1 : Int32} {h : AH} (z : ZZ L0 xs0 h) : f_X12_walks v0 v1 h Q → f_X12_walks v0 v1 h Q' := by
  unfold f_X12_walks
  repeat' first
    | with_reducible exact hQ _ _ (by assumption)
    | with_reducible refine zm_and ?_ ?_
    | with_reducible refine zm_gR (fun x => ?_)
    | with_reducible refine zm_lI (fun x => ?_)
    | with_reducible refine zm_ex (fun x => ?_)
    | with_reducible refine z_L_X12_walks_26 (fun y0 h1 z1 => ?_) _ _ _ (by assumption)
    | with_reducible refine z_f_X12_find (fun y0 h1 z1 => ?_) (by assumption)
    | with_reducible refine z_f_X12_isRow (fun y0 h1 z1 => ?_) (by assumption)
    | with_reducible refine zm_imp (fun _ => ?_)
    | with_reducible exact id
theorem z_B_X5_heapAt_5 {L0 : Nat} {xs0 : Nat → Int32} {Q Q' : Int32 → AH → Prop} {K5 K5' : Int32 → Int32 → AH → Prop} (hQ : ∀ (y0 : Int32) (h : AH), ZZ L0 xs0 h → Q y0 h → Q' y0 h) (hK5 : ∀ (y0 : Int32) (y1 : Int32) (h : AH), ZZ L0 xs0 h → K5 y0 y1 h → K5' y0 y1 h) {v0 : Nat} {v1 : Int32} {v2 : Int32} {v3 : Int32} {v4 : Int32} {h : AH} (z : ZZ L0 xs0 h) : B_X5_heapAt_5 Q K5 v0 v1 v2 v3 v4 h → B_X5_heapAt_5 Q' K5' v0 v1 v2 v3 v4 h := by
  unfold B_X5_heapAt_5
  repeat' first
    | with_reducible exact hQ _ _ (by assumption)
    | with_reducible exact hK5 _ _ _ (by assumption)
    | with_reducible refine zm_and ?_ ?_
    | with_reducible refine zm_gI (fun x => ?_)
    | with_reducible refine z_f_X5_postOf (fun y0 h1 z1 => ?_) (by assumption)
    | with_reducible refine zm_imp (fun _ => ?_)
    | with_reducible exact id
theorem z_L_X5_heapAt_5 {L0 : Nat} {xs0 : Nat → Int32} {Q Q' : Int32 → AH → Prop} (hQ : ∀ (y0 : Int32) (h : AH), ZZ L0 xs0 h → Q y0 h → Q' y0 h) {v0 : Nat} {v1 : Int32} {v2 : Int32} : ∀ (n : Nat) (w0 : Int32) (w1 : Int32) (h : AH), ZZ L0 xs0 h → L_X5_heapAt_5 Q v0 v1 v2 n w0 w1 h → L_X5_heapAt_5 Q' v0 v1 v2 n w0 w1 h := by
  intro n
  induction n with
  | zero => intro w0 w1 h z H; exact H.elim
  | succ n ih => intro w0 w1 h z; exact z_B_X5_heapAt_5 hQ ih z
theorem z_f_X5_heapAt {L0 : Nat} {xs0 : Nat → Int32} {Q Q' : Int32 → AH → Prop} (hQ : ∀ (y0 : Int32) (h : AH), ZZ L0 xs0 h → Q y0 h → Q' y0 h) {v0 : Nat} {v1 : Int32} {v2 : Int32} {h : AH} (z : ZZ L0 xs0 h) : f_X5_heapAt v0 v1 v2 h Q → f_X5_heapAt v0 v1 v2 h Q' := by
  unfold f_X5_heapAt
  repeat' first
    | with_reducible exact hQ _ _ (by assumption)
    | with_reducible refine zm_and ?_ ?_
    | with_reducible refine zm_ex (fun x => ?_)
    | with_reducible refine z_L_X5_heapAt_5 (fun y0 h1 z1 => ?_) _ _ _ _ (by assumption)
    | with_reducible refine zm_imp (fun _ => ?_)
    | with_reducible exact id
theorem z_f_X5_lostOf {L0 : Nat} {xs0 : Nat → Int32} {Q Q' : Int32 → AH → Prop} (hQ : ∀ (y0 : Int32) (h : AH), ZZ L0 xs0 h → Q y0 h → Q' y0 h) {v0 : Nat} {v1 : Int32} {h : AH} (z : ZZ L0 xs0 h) : f_X5_lostOf v0 v1 h Q → f_X5_lostOf v0 v1 h Q' := by
  unfold f_X5_lostOf
  repeat' first
    | with_reducible exact hQ _ _ (by assumption)
    | with_reducible refine zm_and ?_ ?_
    | with_reducible refine z_f_X5_heapAt (fun y0 h1 z1 => ?_) (by assumption)
    | with_reducible refine zm_imp (fun _ => ?_)
    | with_reducible exact id
theorem z_B_X11_where_30 {L0 : Nat} {xs0 : Nat → Int32} {Q Q' : Int32 → AH → Prop} {K30 K30' : Int32 → AH → Prop} (hQ : ∀ (y0 : Int32) (h : AH), ZZ L0 xs0 h → Q y0 h → Q' y0 h) (hK30 : ∀ (y0 : Int32) (h : AH), ZZ L0 xs0 h → K30 y0 h → K30' y0 h) {v0 : Nat} {v1 : Int32} {v2 : Int32} {h : AH} (z : ZZ L0 xs0 h) : B_X11_where_30 Q K30 v0 v1 v2 h → B_X11_where_30 Q' K30' v0 v1 v2 h := by
  unfold B_X11_where_30
  repeat' first
    | with_reducible exact hQ _ _ (by assumption)
    | with_reducible exact hK30 _ _ (by assumption)
    | with_reducible refine zm_and ?_ ?_
    | with_reducible refine zm_gI (fun x => ?_)
    | with_reducible refine zm_gR (fun x => ?_)
    | with_reducible refine zm_lQ (fun x => ?_)
    | with_reducible refine z_f_X5_lostOf (fun y0 h1 z1 => ?_) (by assumption)
    | with_reducible refine z_f_X5_tellPost (fun y0 h1 z1 => ?_) (by assumption)
    | with_reducible refine z_f_X6_set (fun  h1 z1 => ?_) (by assumption)
    | with_reducible refine zm_imp (fun _ => ?_)
    | with_reducible exact id
theorem z_L_X11_where_30 {L0 : Nat} {xs0 : Nat → Int32} {Q Q' : Int32 → AH → Prop} (hQ : ∀ (y0 : Int32) (h : AH), ZZ L0 xs0 h → Q y0 h → Q' y0 h) {v0 : Nat} {v1 : Int32} : ∀ (n : Nat) (w0 : Int32) (h : AH), ZZ L0 xs0 h → L_X11_where_30 Q v0 v1 n w0 h → L_X11_where_30 Q' v0 v1 n w0 h := by
  intro n
  induction n with
  | zero => intro w0 h z H; exact H.elim
  | succ n ih => intro w0 h z; exact z_B_X11_where_30 hQ ih z
theorem z_f_X11_where {L0 : Nat} {xs0 : Nat → Int32} {Q Q' : Int32 → AH → Prop} (hQ : ∀ (y0 : Int32) (h : AH), ZZ L0 xs0 h → Q y0 h → Q' y0 h) {v0 : Nat} {v1 : Int32} {h : AH} (z : ZZ L0 xs0 h) : f_X11_where v0 v1 h Q → f_X11_where v0 v1 h Q' := by
  unfold f_X11_where
  repeat' first
    | with_reducible exact hQ _ _ (by assumption)
    | with_reducible refine zm_and ?_ ?_
    | with_reducible refine zm_gI (fun x => ?_)
    | with_reducible refine zm_gR (fun x => ?_)
    | with_reducible refine zm_lQ (fun x => ?_)
    | with_reducible refine zm_ex (fun x => ?_)
    | with_reducible refine z_L_X11_where_30 (fun y0 h1 z1 => ?_) _ _ _ (by assumption)
    | with_reducible refine z_f_X11_isBelow (fun y0 h1 z1 => ?_) (by assumption)
    | with_reducible refine z_f_X6_begin (fun  h1 z1 => ?_) (by assumption)
    | with_reducible refine zm_imp (fun _ => ?_)
    | with_reducible exact id
theorem z_B_X12_where_22 {L0 : Nat} {xs0 : Nat → Int32} {Q Q' : Int32 → AH → Prop} {K22 K22' : Int32 → Int32 → AH → Prop} (hQ : ∀ (y0 : Int32) (h : AH), ZZ L0 xs0 h → Q y0 h → Q' y0 h) (hK22 : ∀ (y0 : Int32) (y1 : Int32) (h : AH), ZZ L0 xs0 h → K22 y0 y1 h → K22' y0 y1 h) {v0 : Nat} {v1 : Int32} {v2 : Int32} {v3 : Int32} {h : AH} (z : ZZ L0 xs0 h) : B_X12_where_22 Q K22 v0 v1 v2 v3 h → B_X12_where_22 Q' K22' v0 v1 v2 v3 h := by
  unfold B_X12_where_22
  repeat' first
    | with_reducible exact hQ _ _ (by assumption)
    | with_reducible exact hK22 _ _ _ (by assumption)
    | with_reducible refine zm_and ?_ ?_
    | with_reducible refine zm_gI (fun x => ?_)
    | with_reducible refine zm_gR (fun x => ?_)
    | with_reducible refine zm_sI (by assumption) (fun h1 z1 => ?_)
    | with_reducible refine z_f_X12_spotOf (fun y0 h1 z1 => ?_) (by assumption)
    | with_reducible refine z_f_X12_told (fun y0 h1 z1 => ?_) (by assumption)
    | with_reducible refine zm_imp (fun _ => ?_)
    | with_reducible exact id
theorem z_L_X12_where_22 {L0 : Nat} {xs0 : Nat → Int32} {Q Q' : Int32 → AH → Prop} (hQ : ∀ (y0 : Int32) (h : AH), ZZ L0 xs0 h → Q y0 h → Q' y0 h) {v0 : Nat} {v1 : Int32} : ∀ (n : Nat) (w0 : Int32) (w1 : Int32) (h : AH), ZZ L0 xs0 h → L_X12_where_22 Q v0 v1 n w0 w1 h → L_X12_where_22 Q' v0 v1 n w0 w1 h := by
  intro n
  induction n with
  | zero => intro w0 w1 h z H; exact H.elim
  | succ n ih => intro w0 w1 h z; exact z_B_X12_where_22 hQ ih z
theorem z_f_X12_where {L0 : Nat} {xs0 : Nat → Int32} {Q Q' : Int32 → AH → Prop} (hQ : ∀ (y0 : Int32) (h : AH), ZZ L0 xs0 h → Q y0 h → Q' y0 h) {v0 : Nat} {v1 : Int32} {h : AH} (z : ZZ L0 xs0 h) : f_X12_where v0 v1 h Q → f_X12_where v0 v1 h Q' := by
  unfold f_X12_where
  repeat' first
    | with_reducible exact hQ _ _ (by assumption)
    | with_reducible refine zm_and ?_ ?_
    | with_reducible refine zm_gI (fun x => ?_)
    | with_reducible refine zm_ex (fun x => ?_)
    | with_reducible refine z_L_X12_where_22 (fun y0 h1 z1 => ?_) _ _ _ _ (by assumption)
    | with_reducible refine z_f_X12_isRow (fun y0 h1 z1 => ?_) (by assumption)
    | with_reducible refine z_f_X12_makes (fun  h1 z1 => ?_) (by assumption)
    | with_reducible refine zm_imp (fun _ => ?_)
    | with_reducible exact id
theorem z_B_X5_homeOf_4 {L0 : Nat} {xs0 : Nat → Int32} {Q Q' : Int32 → AH → Prop} {K4 K4' : Int32 → Int32 → AH → Prop} (hQ : ∀ (y0 : Int32) (h : AH), ZZ L0 xs0 h → Q y0 h → Q' y0 h) (hK4 : ∀ (y0 : Int32) (y1 : Int32) (h : AH), ZZ L0 xs0 h → K4 y0 y1 h → K4' y0 y1 h) {v0 : Nat} {v1 : Int32} {v2 : Int32} {v3 : Int32} {h : AH} (z : ZZ L0 xs0 h) : B_X5_homeOf_4 Q K4 v0 v1 v2 v3 h → B_X5_homeOf_4 Q' K4' v0 v1 v2 v3 h := by
  unfold B_X5_homeOf_4
  repeat' first
    | with_reducible exact hQ _ _ (by assumption)
    | with_reducible exact hK4 _ _ _ (by assumption)
    | with_reducible refine zm_and ?_ ?_
    | with_reducible refine zm_gI (fun x => ?_)
    | with_reducible refine zm_gR (fun x => ?_)
    | with_reducible refine zm_lI (fun x => ?_)
    | with_reducible refine z_f_X5_postOf (fun y0 h1 z1 => ?_) (by assumption)
    | with_reducible refine zm_imp (fun _ => ?_)
    | with_reducible exact id
theorem z_L_X5_homeOf_4 {L0 : Nat} {xs0 : Nat → Int32} {Q Q' : Int32 → AH → Prop} (hQ : ∀ (y0 : Int32) (h : AH), ZZ L0 xs0 h → Q y0 h → Q' y0 h) {v0 : Nat} {v1 : Int32} : ∀ (n : Nat) (w0 : Int32) (w1 : Int32) (h : AH), ZZ L0 xs0 h → L_X5_homeOf_4 Q v0 v1 n w0 w1 h → L_X5_homeOf_4 Q' v0 v1 n w0 w1 h := by
  intro n
  induction n with
  | zero => intro w0 w1 h z H; exact H.elim
  | succ n ih => intro w0 w1 h z; exact z_B_X5_homeOf_4 hQ ih z
theorem z_f_X5_homeOf {L0 : Nat} {xs0 : Nat → Int32} {Q Q' : Int32 → AH → Prop} (hQ : ∀ (y0 : Int32) (h : AH), ZZ L0 xs0 h → Q y0 h → Q' y0 h) {v0 : Nat} {v1 : Int32} {h : AH} (z : ZZ L0 xs0 h) : f_X5_homeOf v0 v1 h Q → f_X5_homeOf v0 v1 h Q' := by
  unfold f_X5_homeOf
  repeat' first
    | with_reducible exact hQ _ _ (by assumption)
    | with_reducible refine zm_and ?_ ?_
    | with_reducible refine zm_ex (fun x => ?_)
    | with_reducible refine z_L_X5_homeOf_4 (fun y0 h1 z1 => ?_) _ _ _ _ (by assumption)
    | with_reducible refine zm_imp (fun _ => ?_)
    | with_reducible exact id
theorem z_f_X11_apart {L0 : Nat} {xs0 : Nat → Int32} {Q Q' : Int32 → AH → Prop} (hQ : ∀ (y0 : Int32) (h : AH), ZZ L0 xs0 h → Q y0 h → Q' y0 h) {v0 : Nat} {h : AH} (z : ZZ L0 xs0 h) : f_X11_apart v0 h Q → f_X11_apart v0 h Q' := by
  unfold f_X11_apart
  repeat' first
    | with_reducible exact hQ _ _ (by assumption)
    | with_reducible refine zm_and ?_ ?_
    | with_reducible refine zm_gI (fun x => ?_)
    | with_reducible refine zm_gR (fun x => ?_)
    | with_reducible refine zm_pF (by assumption) (fun h1 z1 => ?_)
    | with_reducible refine z_f_X5_farFromHome (fun y0 h1 z1 => ?_) (by assumption)
    | with_reducible refine z_f_X5_homeOf (fun y0 h1 z1 => ?_) (by assumption)
    | with_reducible refine zm_imp (fun _ => ?_)
    | with_reducible exact id
theorem z_f_X12_isHome {L0 : Nat} {xs0 : Nat → Int32} {Q Q' : Int32 → AH → Prop} (hQ : ∀ (y0 : Int32) (h : AH), ZZ L0 xs0 h → Q y0 h → Q' y0 h) {v0 : Nat} {v1 : Int32} {v2 : Int32} {h : AH} (z : ZZ L0 xs0 h) : f_X12_isHome v0 v1 v2 h Q → f_X12_isHome v0 v1 v2 h Q' := by
  unfold f_X12_isHome
  repeat' first
    | with_reducible exact hQ _ _ (by assumption)
    | with_reducible refine zm_and ?_ ?_
    | with_reducible refine z_f_X12_home (fun y0 h1 z1 => ?_) (by assumption)
    | with_reducible refine z_f_X12_spotOf (fun y0 h1 z1 => ?_) (by assumption)
    | with_reducible refine zm_imp (fun _ => ?_)
    | with_reducible exact id
theorem z_B_X12_apart_7 {L0 : Nat} {xs0 : Nat → Int32} {Q Q' : Int32 → AH → Prop} {K7 K7' : Int32 → AH → Prop} (hQ : ∀ (y0 : Int32) (h : AH), ZZ L0 xs0 h → Q y0 h → Q' y0 h) (hK7 : ∀ (y0 : Int32) (h : AH), ZZ L0 xs0 h → K7 y0 h → K7' y0 h) {v0 : Nat} {v1 : Int32} {h : AH} (z : ZZ L0 xs0 h) : B_X12_apart_7 Q K7 v0 v1 h → B_X12_apart_7 Q' K7' v0 v1 h := by
  unfold B_X12_apart_7
  repeat' first
    | with_reducible exact hQ _ _ (by assumption)
    | with_reducible exact hK7 _ _ (by assumption)
    | with_reducible refine zm_and ?_ ?_
    | with_reducible refine zm_gI (fun x => ?_)
    | with_reducible refine zm_pF (by assumption) (fun h1 z1 => ?_)
    | with_reducible refine z_f_X12_apartOf (fun y0 h1 z1 => ?_) (by assumption)
    | with_reducible refine z_f_X12_isHome (fun y0 h1 z1 => ?_) (by assumption)
    | with_reducible refine zm_imp (fun _ => ?_)
    | with_reducible exact id
theorem z_L_X12_apart_7 {L0 : Nat} {xs0 : Nat → Int32} {Q Q' : Int32 → AH → Prop} (hQ : ∀ (y0 : Int32) (h : AH), ZZ L0 xs0 h → Q y0 h → Q' y0 h) {v0 : Nat} : ∀ (n : Nat) (w0 : Int32) (h : AH), ZZ L0 xs0 h → L_X12_apart_7 Q v0 n w0 h → L_X12_apart_7 Q' v0 n w0 h := by
  intro n
  induction n with
  | zero => intro w0 h z H; exact H.elim
  | succ n ih => intro w0 h z; exact z_B_X12_apart_7 hQ ih z
theorem z_f_X12_apart {L0 : Nat} {xs0 : Nat → Int32} {Q Q' : Int32 → AH → Prop} (hQ : ∀ (y0 : Int32) (h : AH), ZZ L0 xs0 h → Q y0 h → Q' y0 h) {v0 : Nat} {h : AH} (z : ZZ L0 xs0 h) : f_X12_apart v0 h Q → f_X12_apart v0 h Q' := by
  unfold f_X12_apart
  repeat' first
    | with_reducible exact hQ _ _ (by assumption)
    | with_reducible refine zm_and ?_ ?_
    | with_reducible refine zm_pF (by assumption) (fun h1 z1 => ?_)
    | with_reducible refine zm_ex (fun x => ?_)
    | with_reducible refine z_L_X12_apart_7 (fun y0 h1 z1 => ?_) _ _ _ (by assumption)
    | with_reducible refine zm_imp (fun _ => ?_)
    | with_reducible exact id
theorem z_f_X11_keep {L0 : Nat} {xs0 : Nat → Int32} {Q Q' : Int32 → AH → Prop} (hQ : ∀ (y0 : Int32) (h : AH), ZZ L0 xs0 h → Q y0 h → Q' y0 h) {v0 : Nat} {v1 : Int32} {h : AH} (z : ZZ L0 xs0 h) : f_X11_keep v0 v1 h Q → f_X11_keep v0 v1 h Q' := by
  unfold f_X11_keep
  repeat' first
    | with_reducible exact hQ _ _ (by assumption)
    | with_reducible refine zm_and ?_ ?_
    | with_reducible refine zm_gI (fun x => ?_)
    | with_reducible refine zm_gR (fun x => ?_)
    | with_reducible refine zm_sI (by assumption) (fun h1 z1 => ?_)
    | with_reducible refine z_f_X11_isBelow (fun y0 h1 z1 => ?_) (by assumption)
    | with_reducible refine zm_imp (fun _ => ?_)
    | with_reducible exact id
theorem z_f_X12_keep {L0 : Nat} {xs0 : Nat → Int32} {Q Q' : Int32 → AH → Prop} (hQ : ∀ (y0 : Int32) (h : AH), ZZ L0 xs0 h → Q y0 h → Q' y0 h) {v0 : Nat} {v1 : Int32} {h : AH} (z : ZZ L0 xs0 h) : f_X12_keep v0 v1 h Q → f_X12_keep v0 v1 h Q' := by
  unfold f_X12_keep
  repeat' first
    | with_reducible exact hQ _ _ (by assumption)
    | with_reducible refine zm_and ?_ ?_
    | with_reducible refine zm_gI (fun x => ?_)
    | with_reducible refine zm_gR (fun x => ?_)
    | with_reducible refine zm_sI (by assumption) (fun h1 z1 => ?_)
    | with_reducible refine z_f_X12_in (fun y0 h1 z1 => ?_) (by assumption)
    | with_reducible refine zm_imp (fun _ => ?_)
    | with_reducible exact id
theorem z_f_X11_on {L0 : Nat} {xs0 : Nat → Int32} {Q Q' : Int32 → AH → Prop} (hQ : ∀ (y0 : Int32) (h : AH), ZZ L0 xs0 h → Q y0 h → Q' y0 h) {v0 : Nat} {v1 : Int32} {h : AH} (z : ZZ L0 xs0 h) : f_X11_on v0 v1 h Q → f_X11_on v0 v1 h Q' := by
  unfold f_X11_on
  repeat' first
    | with_reducible exact hQ _ _ (by assumption)
    | with_reducible refine zm_and ?_ ?_
    | with_reducible refine zm_gR (fun x => ?_)
    | with_reducible refine zm_lI (fun x => ?_)
    | with_reducible refine zm_pF (by assumption) (fun h1 z1 => ?_)
    | with_reducible refine z_f_X11_found (fun y0 h1 z1 => ?_) (by assumption)
    | with_reducible refine z_f_X11_isBelow (fun y0 h1 z1 => ?_) (by assumption)
    | with_reducible refine zm_imp (fun _ => ?_)
    | with_reducible exact id
theorem z_f_X12_on {L0 : Nat} {xs0 : Nat → Int32} {Q Q' : Int32 → AH → Prop} (hQ : ∀ (y0 : Int32) (h : AH), ZZ L0 xs0 h → Q y0 h → Q' y0 h) {v0 : Nat} {v1 : Int32} {h : AH} (z : ZZ L0 xs0 h) : f_X12_on v0 v1 h Q → f_X12_on v0 v1 h Q' := by
  unfold f_X12_on
  repeat' first
    | with_reducible exact hQ _ _ (by assumption)
    | with_reducible refine zm_and ?_ ?_
    | with_reducible refine zm_gR (fun x => ?_)
    | with_reducible refine zm_lI (fun x => ?_)
    | with_reducible refine zm_pF (by assumption) (fun h1 z1 => ?_)
    | with_reducible refine z_f_X12_clear (fun  h1 z1 => ?_) (by assumption)
    | with_reducible refine z_f_X12_find (fun y0 h1 z1 => ?_) (by assumption)
    | with_reducible refine z_f_X12_in (fun y0 h1 z1 => ?_) (by assumption)
    | with_reducible refine zm_imp (fun _ => ?_)
    | with_reducible exact id
theorem z_B_X5_leastAt_39 {L0 : Nat} {xs0 : Nat → Int32} {Q Q' : Int32 → AH → Prop} {K5 K5' : Int32 → Int32 → AH → Prop} (hQ : ∀ (y0 : Int32) (h : AH), ZZ L0 xs0 h → Q y0 h → Q' y0 h) (hK5 : ∀ (y0 : Int32) (y1 : Int32) (h : AH), ZZ L0 xs0 h → K5 y0 y1 h → K5' y0 y1 h) {v0 : Nat} {v1 : Int32} {v2 : Int32} {v4 : Int32} {h : AH} (z : ZZ L0 xs0 h) : B_X5_leastAt_39 Q K5 v0 v1 v2 v4 h → B_X5_leastAt_39 Q' K5' v0 v1 v2 v4 h := by
  unfold B_X5_leastAt_39
  repeat' first
    | with_reducible exact hQ _ _ (by assumption)
    | with_reducible exact hK5 _ _ _ (by assumption)
    | with_reducible refine zm_and ?_ ?_
    | with_reducible refine zm_gR (fun x => ?_)
    | with_reducible refine zm_lI (fun x => ?_)
    | with_reducible refine zm_imp (fun _ => ?_)
    | with_reducible exact id
theorem z_B_X5_leastAt_5 {L0 : Nat} {xs0 : Nat → Int32} {Q Q' : Int32 → AH → Prop} {K5 K5' : Int32 → Int32 → AH → Prop} (hQ : ∀ (y0 : Int32) (h : AH), ZZ L0 xs0 h → Q y0 h → Q' y0 h) (hK5 : ∀ (y0 : Int32) (y1 : Int32) (h : AH), ZZ L0 xs0 h → K5 y0 y1 h → K5' y0 y1 h) {v0 : Nat} {v1 : Int32} {v2 : Int32} {v3 : Int32} {v4 : Int32} {h : AH} (z : ZZ L0 xs0 h) : B_X5_leastAt_5 Q K5 v0 v1 v2 v3 v4 h → B_X5_leastAt_5 Q' K5' v0 v1 v2 v3 v4 h := by
  unfold B_X5_leastAt_5
  repeat' first
    | with_reducible exact hQ _ _ (by assumption)
    | with_reducible exact hK5 _ _ _ (by assumption)
    | with_reducible refine zm_and ?_ ?_
    | with_reducible refine zm_gI (fun x => ?_)
    | with_reducible refine zm_gR (fun x => ?_)
    | with_reducible refine zm_lI (fun x => ?_)
    | with_reducible refine z_B_X5_leastAt_39 (fun y0 h1 z1 => ?_) (fun y0 y1 h1 z1 => ?_) (by assumption)
    | with_reducible refine z_f_X5_postOf (fun y0 h1 z1 => ?_) (by assumption)
    | with_reducible refine zm_imp (fun _ => ?_)
    | with_reducible exact id
theorem z_L_X5_leastAt_5 {L0 : Nat} {xs0 : Nat → Int32} {Q Q' : Int32 → AH → Prop} (hQ : ∀ (y0 : Int32) (h : AH), ZZ L0 xs0 h → Q y0 h → Q' y0 h) {v0 : Nat} {v1 : Int32} {v2 : Int32} : ∀ (n : Nat) (w0 : Int32) (w1 : Int32) (h : AH), ZZ L0 xs0 h → L_X5_leastAt_5 Q v0 v1 v2 n w0 w1 h → L_X5_leastAt_5 Q' v0 v1 v2 n w0 w1 h := by
  intro n
  induction n with
  | zero => intro w0 w1 h z H; exact H.elim
  | succ n ih => intro w0 w1 h z; exact z_B_X5_leastAt_5 hQ ih z
theorem z_f_X5_leastAt {L0 : Nat} {xs0 : Nat → Int32} {Q Q' : Int32 → AH → Prop} (hQ : ∀ (y0 : Int32) (h : AH), ZZ L0 xs0 h → Q y0 h → Q' y0 h) {v0 : Nat} {v1 : Int32} {v2 : Int32} {h : AH} (z : ZZ L0 xs0 h) : f_X5_leastAt v0 v1 v2 h Q → f_X5_leastAt v0 v1 v2 h Q' := by
  unfold f_X5_leastAt
  repeat' first
    | with_reducible exact hQ _ _ (by assumption)
    | with_reducible refine zm_and ?_ ?_
    | with_reducible refine zm_ex (fun x => ?_)
    | with_reducible refine z_L_X5_leastAt_5 (fun y0 h1 z1 => ?_) _ _ _ _ (by assumption)
    | with_reducible refine zm_imp (fun _ => ?_)
    | with_reducible exact id
theorem z_f_X11_sees {L0 : Nat} {xs0 : Nat → Int32} {Q Q' : Int32 → AH → Prop} (hQ : ∀ (y0 : Int32) (h : AH), ZZ L0 xs0 h → Q y0 h → Q' y0 h) {v0 : Nat} {v1 : Int32} {h : AH} (z : ZZ L0 xs0 h) : f_X11_sees v0 v1 h Q → f_X11_sees v0 v1 h Q' := by
  unfold f_X11_sees
  repeat' first
    | with_reducible exact hQ _ _ (by assumption)
    | with_reducible refine zm_and ?_ ?_
    | with_reducible refine zm_gI (fun x => ?_)
    | with_reducible refine zm_gR (fun x => ?_)
    | with_reducible refine zm_pF (by assumption) (fun h1 z1 => ?_)
    | with_reducible refine z_f_X11_isBelow (fun y0 h1 z1 => ?_) (by assumption)
    | with_reducible refine z_f_X5_heapAt (fun y0 h1 z1 => ?_) (by assumption)
    | with_reducible refine z_f_X5_leastAt (fun y0 h1 z1 => ?_) (by assumption)
    | with_reducible refine zm_imp (fun _ => ?_)
    | with_reducible exact id
theorem z_f_X12_isPost {L0 : Nat} {xs0 : Nat → Int32} {Q Q' : Int32 → AH → Prop} (hQ : ∀ (y0 : Int32) (h : AH), ZZ L0 xs0 h → Q y0 h → Q' y0 h) {v0 : Nat} {v1 : Int32} {h : AH} (z : ZZ L0 xs0 h) : f_X12_isPost v0 v1 h Q → f_X12_isPost v0 v1 h Q' := by
  unfold f_X12_isPost
  repeat' first
    | with_reducible exact hQ _ _ (by assumption)
    | with_reducible refine zm_and ?_ ?_
    | with_reducible refine zm_gI (fun x => ?_)
    | with_reducible refine z_f_X12_in (fun y0 h1 z1 => ?_) (by assumption)
    | with_reducible refine zm_imp (fun _ => ?_)
    | with_reducible exact id
theorem z_B_X12_seen_39 {L0 : Nat} {xs0 : Nat → Int32} {Q Q' : Int32 → AH → Prop} {K5 K5' : Int32 → Int32 → AH → Prop} (hQ : ∀ (y0 : Int32) (h : AH), ZZ L0 xs0 h → Q y0 h → Q' y0 h) (hK5 : ∀ (y0 : Int32) (y1 : Int32) (h : AH), ZZ L0 xs0 h → K5 y0 y1 h → K5' y0 y1 h) {v0 : Nat} {v1 : Int32} {v2 : Int32} {v4 : Int32} {h : AH} (z : ZZ L0 xs0 h) : B_X12_seen_39 Q K5 v0 v1 v2 v4 h → B_X12_seen_39 Q' K5' v0 v1 v2 v4 h := by
  unfold B_X12_seen_39
  repeat' first
    | with_reducible exact hQ _ _ (by assumption)
    | with_reducible exact hK5 _ _ _ (by assumption)
    | with_reducible refine zm_and ?_ ?_
    | with_reducible refine zm_gR (fun x => ?_)
    | with_reducible refine zm_lI (fun x => ?_)
    | with_reducible refine zm_imp (fun _ => ?_)
    | with_reducible exact id
theorem z_B_X12_seen_5 {L0 : Nat} {xs0 : Nat → Int32} {Q Q' : Int32 → AH → Prop} {K5 K5' : Int32 → Int32 → AH → Prop} (hQ : ∀ (y0 : Int32) (h : AH), ZZ L0 xs0 h → Q y0 h → Q' y0 h) (hK5 : ∀ (y0 : Int32) (y1 : Int32) (h : AH), ZZ L0 xs0 h → K5 y0 y1 h → K5' y0 y1 h) {v0 : Nat} {v1 : Int32} {v2 : Int32} {v3 : Int32} {v4 : Int32} {h : AH} (z : ZZ L0 xs0 h) : B_X12_seen_5 Q K5 v0 v1 v2 v3 v4 h → B_X12_seen_5 Q' K5' v0 v1 v2 v3 v4 h := by
  unfold B_X12_seen_5
  repeat' first
    | with_reducible exact hQ _ _ (by assumption)
    | with_reducible exact hK5 _ _ _ (by assumption)
    | with_reducible refine zm_and ?_ ?_
    | with_reducible refine zm_gI (fun x => ?_)
    | with_reducible refine zm_gR (fun x => ?_)
    | with_reducible refine zm_lI (fun x => ?_)
    | with_reducible refine z_B_X12_seen_39 (fun y0 h1 z1 => ?_) (fun y0 y1 h1 z1 => ?_) (by assumption)
    | with_reducible refine z_f_X12_spotOf (fun y0 h1 z1 => ?_) (by assumption)
    | with_reducible refine zm_imp (fun _ => ?_)
    | with_reducible exact id
theorem z_L_X12_seen_5 {L0 : Nat} {xs0 : Nat → Int32} {Q Q' : Int32 → AH → Prop} (hQ : ∀ (y0 : Int32) (h : AH), ZZ L0 xs0 h → Q y0 h → Q' y0 h) {v0 : Nat} {v1 : Int32} {v2 : Int32} : ∀ (n : Nat) (w0 : Int32) (w1 : Int32) (h : AH), ZZ L0 xs0 h → L_X12_seen_5 Q v0 v1 v2 n w0 w1 h → L_X12_seen_5 Q' v0 v1 v2 n w0 w1 h := by
  intro n
  induction n with
  | zero => intro w0 w1 h z H; exact H.elim
  | succ n ih => intro w0 w1 h z; exact z_B_X12_seen_5 hQ ih z
theorem z_f_X12_seen {L0 : Nat} {xs0 : Nat → Int32} {Q Q' : Int32 → AH → Prop} (hQ : ∀ (y0 : Int32) (h : AH), ZZ L0 xs0 h → Q y0 h → Q' y0 h) {v0 : Nat} {v1 : Int32} {v2 : Int32} {h : AH} (z : ZZ L0 xs0 h) : f_X12_seen v0 v1 v2 h Q → f_X12_seen v0 v1 v2 h Q' := by
  unfold f_X12_seen
  repeat' first
    | with_reducible exact hQ _ _ (by assumption)
    | with_reducible refine zm_and ?_ ?_
    | with_reducible refine zm_ex (fun x => ?_)
    | with_reducible refine z_L_X12_seen_5 (fun y0 h1 z1 => ?_) _ _ _ _ (by assumption)
    | with_reducible refine zm_imp (fun _ => ?_)
    | with_reducible exact id
theorem z_B_X12_sees_17 {L0 : Nat} {xs0 : Nat → Int32} {Q Q' : Int32 → AH → Prop} {K17 K17' : Int32 → AH → Prop} (hQ : ∀ (y0 : Int32) (h : AH), ZZ L0 xs0 h → Q y0 h → Q' y0 h) (hK17 : ∀ (y0 : Int32) (h : AH), ZZ L0 xs0 h → K17 y0 h → K17' y0 h) {v0 : Nat} {v1 : Int32} {v2 : Int32} {h : AH} (z : ZZ L0 xs0 h) : B_X12_sees_17 Q K17 v0 v1 v2 h → B_X12_sees_17 Q' K17' v0 v1 v2 h := by
  unfold B_X12_sees_17
  repeat' first
    | with_reducible exact hQ _ _ (by assumption)
    | with_reducible exact hK17 _ _ (by assumption)
    | with_reducible refine zm_and ?_ ?_
    | with_reducible refine zm_gI (fun x => ?_)
    | with_reducible refine zm_pF (by assumption) (fun h1 z1 => ?_)
    | with_reducible refine z_f_X12_seen (fun y0 h1 z1 => ?_) (by assumption)
    | with_reducible refine z_f_X12_spotOf (fun y0 h1 z1 => ?_) (by assumption)
    | with_reducible refine zm_imp (fun _ => ?_)
    | with_reducible exact id
theorem z_L_X12_sees_17 {L0 : Nat} {xs0 : Nat → Int32} {Q Q' : Int32 → AH → Prop} (hQ : ∀ (y0 : Int32) (h : AH), ZZ L0 xs0 h → Q y0 h → Q' y0 h) {v0 : Nat} {v1 : Int32} : ∀ (n : Nat) (w0 : Int32) (h : AH), ZZ L0 xs0 h → L_X12_sees_17 Q v0 v1 n w0 h → L_X12_sees_17 Q' v0 v1 n w0 h := by
  intro n
  induction n with
  | zero => intro w0 h z H; exact H.elim
  | succ n ih => intro w0 h z; exact z_B_X12_sees_17 hQ ih z
theorem z_f_X12_sees {L0 : Nat} {xs0 : Nat → Int32} {Q Q' : Int32 → AH → Prop} (hQ : ∀ (y0 : Int32) (h : AH), ZZ L0 xs0 h → Q y0 h → Q' y0 h) {v0 : Nat} {v1 : Int32} {h : AH} (z : ZZ L0 xs0 h) : f_X12_sees v0 v1 h Q → f_X12_sees v0 v1 h Q' := by
  unfold f_X12_sees
  repeat' first
    | with_reducible exact hQ _ _ (by assumption)
    | with_reducible refine zm_and ?_ ?_
    | with_reducible refine zm_pF (by assumption) (fun h1 z1 => ?_)
    | with_reducible refine zm_ex (fun x => ?_)
    | with_reducible refine z_L_X12_sees_17 (fun y0 h1 z1 => ?_) _ _ _ (by assumption)
    | with_reducible refine z_f_X12_isPost (fun y0 h1 z1 => ?_) (by assumption)
    | with_reducible refine zm_imp (fun _ => ?_)
    | with_reducible exact id
theorem z_B_X11_isSeenFrom_2 {L0 : Nat} {xs0 : Nat → Int32} {Q Q' : Int32 → AH → Prop} {K2 K2' : Int32 → AH → Prop} (hQ : ∀ (y0 : Int32) (h : AH), ZZ L0 xs0 h → Q y0 h → Q' y0 h) (hK2 : ∀ (y0 : Int32) (h : AH), ZZ L0 xs0 h → K2 y0 h → K2' y0 h) {v0 : Nat} {v1 : Nat} {v2 : Int32} {v3 : Int32} {h : AH} (z : ZZ L0 xs0 h) : B_X11_isSeenFrom_2 Q K2 v0 v1 v2 v3 h → B_X11_isSeenFrom_2 Q' K2' v0 v1 v2 v3 h := by
  unfold B_X11_isSeenFrom_2
  repeat' first
    | with_reducible exact hQ _ _ (by assumption)
    | with_reducible exact hK2 _ _ (by assumption)
    | with_reducible refine zm_and ?_ ?_
    | with_reducible refine zm_gI (fun x => ?_)
    | with_reducible refine zm_gR (fun x => ?_)
    | with_reducible refine z_f_X5_leastAt (fun y0 h1 z1 => ?_) (by assumption)
    | with_reducible refine z_f_X6_get (fun y0 h1 z1 => ?_) (by assumption)
    | with_reducible refine zm_imp (fun _ => ?_)
    | with_reducible exact id
theorem z_L_X11_isSeenFrom_2 {L0 : Nat} {xs0 : Nat → Int32} {Q Q' : Int32 → AH → Prop} (hQ : ∀ (y0 : Int32) (h : AH), ZZ L0 xs0 h → Q y0 h → Q' y0 h) {v0 : Nat} {v1 : Nat} {v2 : Int32} : ∀ (n : Nat) (w0 : Int32) (h : AH), ZZ L0 xs0 h → L_X11_isSeenFrom_2 Q v0 v1 v2 n w0 h → L_X11_isSeenFrom_2 Q' v0 v1 v2 n w0 h := by
  intro n
  induction n with
  | zero => intro w0 h z H; exact H.elim
  | succ n ih => intro w0 h z; exact z_B_X11_isSeenFrom_2 hQ ih z
theorem z_f_X11_isSeenFrom {L0 : Nat} {xs0 : Nat → Int32} {Q Q' : Int32 → AH → Prop} (hQ : ∀ (y0 : Int32) (h : AH), ZZ L0 xs0 h → Q y0 h → Q' y0 h) {v0 : Nat} {v1 : Nat} {v2 : Int32} {h : AH} (z : ZZ L0 xs0 h) : f_X11_isSeenFrom v0 v1 v2 h Q → f_X11_isSeenFrom v0 v1 v2 h Q' := by
  unfold f_X11_isSeenFrom
  repeat' first
    | with_reducible exact hQ _ _ (by assumption)
    | with_reducible refine zm_and ?_ ?_
    | with_reducible refine zm_ex (fun x => ?_)
    | with_reducible refine z_L_X11_isSeenFrom_2 (fun y0 h1 z1 => ?_) _ _ _ (by assumption)
    | with_reducible refine zm_imp (fun _ => ?_)
    | with_reducible exact id
theorem z_B_X11_may_44 {L0 : Nat} {xs0 : Nat → Int32} {Q Q' : Int32 → AH → Prop} (hQ : ∀ (y0 : Int32) (h : AH), ZZ L0 xs0 h → Q y0 h → Q' y0 h) {v0 : Nat} {h : AH} (z : ZZ L0 xs0 h) : B_X11_may_44 Q v0 h → B_X11_may_44 Q' v0 h := by
  unfold B_X11_may_44
  repeat' first
    | with_reducible exact hQ _ _ (by assumption)
    | with_reducible refine zm_and ?_ ?_
    | with_reducible refine z_f_X11_found (fun y0 h1 z1 => ?_) (by assumption)
    | with_reducible refine zm_imp (fun _ => ?_)
    | with_reducible exact id
theorem z_B_X11_may_94 {L0 : Nat} {xs0 : Nat → Int32} {Q Q' : Int32 → AH → Prop} {K94 K94' : Int32 → Int32 → AH → Prop} (hQ : ∀ (y0 : Int32) (h : AH), ZZ L0 xs0 h → Q y0 h → Q' y0 h) (hK94 : ∀ (y0 : Int32) (y1 : Int32) (h : AH), ZZ L0 xs0 h → K94 y0 y1 h → K94' y0 y1 h) {v0 : Nat} {v3 : Nat} {v4 : Int32} {v5 : Int32} {h : AH} (z : ZZ L0 xs0 h) : B_X11_may_94 Q K94 v0 v3 v4 v5 h → B_X11_may_94 Q' K94' v0 v3 v4 v5 h := by
  unfold B_X11_may_94
  repeat' first
    | with_reducible exact hQ _ _ (by assumption)
    | with_reducible exact hK94 _ _ _ (by assumption)
    | with_reducible refine zm_and ?_ ?_
    | with_reducible refine zm_gI (fun x => ?_)
    | with_reducible refine zm_gR (fun x => ?_)
    | with_reducible refine z_f_X11_isSeenFrom (fun y0 h1 z1 => ?_) (by assumption)
    | with_reducible refine zm_imp (fun _ => ?_)
    | with_reducible exact id
theorem z_L_X11_may_94 {L0 : Nat} {xs0 : Nat → Int32} {Q Q' : Int32 → AH → Prop} (hQ : ∀ (y0 : Int32) (h : AH), ZZ L0 xs0 h → Q y0 h → Q' y0 h) {v0 : Nat} {v3 : Nat} : ∀ (n : Nat) (w0 : Int32) (w1 : Int32) (h : AH), ZZ L0 xs0 h → L_X11_may_94 Q v0 v3 n w0 w1 h → L_X11_may_94 Q' v0 v3 n w0 w1 h := by
  intro n
  induction n with
  | zero => intro w0 w1 h z H; exact H.elim
  | succ n ih => intro w0 w1 h z; exact z_B_X11_may_94 hQ ih z
theorem z_B_X11_may_53 {L0 : Nat} {xs0 : Nat → Int32} {Q Q' : Int32 → AH → Prop} {K53 K53' : Int32 → AH → Prop} (hQ : ∀ (y0 : Int32) (h : AH), ZZ L0 xs0 h → Q y0 h → Q' y0 h) (hK53 : ∀ (y0 : Int32) (h : AH), ZZ L0 xs0 h → K53 y0 h → K53' y0 h) {v0 : Nat} {v3 : Nat} {v4 : Int32} {h : AH} (z : ZZ L0 xs0 h) : B_X11_may_53 Q K53 v0 v3 v4 h → B_X11_may_53 Q' K53' v0 v3 v4 h := by
  unfold B_X11_may_53
  repeat' first
    | with_reducible exact hQ _ _ (by assumption)
    | with_reducible exact hK53 _ _ (by assumption)
    | with_reducible refine zm_and ?_ ?_
    | with_reducible refine zm_gI (fun x => ?_)
    | with_reducible refine zm_ex (fun x => ?_)
    | with_reducible refine z_L_X11_may_94 (fun y0 h1 z1 => ?_) _ _ _ _ (by assumption)
    | with_reducible refine z_f_X11_found (fun y0 h1 z1 => ?_) (by assumption)
    | with_reducible refine z_f_X11_isBelow (fun y0 h1 z1 => ?_) (by assumption)
    | with_reducible refine z_f_X6_get (fun y0 h1 z1 => ?_) (by assumption)
    | with_reducible refine zm_imp (fun _ => ?_)
    | with_reducible exact id
theorem z_L_X11_may_53 {L0 : Nat} {xs0 : Nat → Int32} {Q Q' : Int32 → AH → Prop} (hQ : ∀ (y0 : Int32) (h : AH), ZZ L0 xs0 h → Q y0 h → Q' y0 h) {v0 : Nat} {v3 : Nat} : ∀ (n : Nat) (w0 : Int32) (h : AH), ZZ L0 xs0 h → L_X11_may_53 Q v0 v3 n w0 h → L_X11_may_53 Q' v0 v3 n w0 h := by
  intro n
  induction n with
  | zero => intro w0 h z H; exact H.elim
  | succ n ih => intro w0 h z; exact z_B_X11_may_53 hQ ih z
theorem z_f_X11_may {L0 : Nat} {xs0 : Nat → Int32} {Q Q' : Int32 → AH → Prop} (hQ : ∀ (y0 : Int32) (h : AH), ZZ L0 xs0 h → Q y0 h → Q' y0 h) {v0 : Nat} {v1 : Int32} {h : AH} (z : ZZ L0 xs0 h) : f_X11_may v0 v1 h Q → f_X11_may v0 v1 h Q' := by
  unfold f_X11_may
  repeat' first
    | with_reducible exact hQ _ _ (by assumption)
    | with_reducible refine zm_and ?_ ?_
    | with_reducible refine zm_gI (fun x => ?_)
    | with_reducible refine zm_gR (fun x => ?_)
    | with_reducible refine zm_lQ (fun x => ?_)
    | with_reducible refine zm_ex (fun x => ?_)
    | with_reducible refine z_B_X11_may_44 (fun y0 h1 z1 => ?_) (by assumption)
    | with_reducible refine z_L_X11_may_53 (fun y0 h1 z1 => ?_) _ _ _ (by assumption)
    | with_reducible refine z_f_X11_refuseMissing (fun y0 h1 z1 => ?_) (by assumption)
    | with_reducible refine zm_imp (fun _ => ?_)
    | with_reducible exact id
