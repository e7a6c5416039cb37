/-! the frame, 2 -/
theorem z_B_X12_may_38 {L0 : Nat} {xs0 : Nat → Int32} {Q Q' : Int32 → AH → Prop} (hQ : ∀ (y0 : Int32) (h : AH), ZZ L0 xs0 h → Q y0 h → Q' y0 h) {v0 : Nat} {h : AH} (z : ZZ L0 xs0 h) : B_X12_may_38 Q v0 h → B_X12_may_38 Q' v0 h := by
  unfold B_X12_may_38
  repeat' first
    | with_reducible exact hQ _ _ (by assumption)
    | with_reducible refine zm_and ?_ ?_
    | with_reducible refine z_f_X12_find (fun y0 h1 z1 => ?_) (by assumption)
    | with_reducible refine zm_imp (fun _ => ?_)
    | with_reducible exact id
theorem z_B_X12_may_107 {L0 : Nat} {xs0 : Nat → Int32} {Q Q' : Int32 → AH → Prop} {K90 K90' : Int32 → Int32 → AH → Prop} {K107 K107' : Int32 → Int32 → AH → Prop} (hQ : ∀ (y0 : Int32) (h : AH), ZZ L0 xs0 h → Q y0 h → Q' y0 h) (hK90 : ∀ (y0 : Int32) (y1 : Int32) (h : AH), ZZ L0 xs0 h → K90 y0 y1 h → K90' y0 y1 h) (hK107 : ∀ (y0 : Int32) (y1 : Int32) (h : AH), ZZ L0 xs0 h → K107 y0 y1 h → K107' y0 y1 h) {v0 : Nat} {v1 : Int32} {v2 : Int32} {v3 : Int32} {v4 : Int32} {v5 : Int32} {v6 : Int32} {h : AH} (z : ZZ L0 xs0 h) : B_X12_may_107 Q K90 K107 v0 v1 v2 v3 v4 v5 v6 h → B_X12_may_107 Q' K90' K107' v0 v1 v2 v3 v4 v5 v6 h := by
  unfold B_X12_may_107
  repeat' first
    | with_reducible exact hQ _ _ (by assumption)
    | with_reducible exact hK90 _ _ _ (by assumption)
    | with_reducible exact hK107 _ _ _ (by assumption)
    | with_reducible refine zm_and ?_ ?_
    | with_reducible refine zm_gI (fun x => ?_)
    | with_reducible refine zm_gR (fun x => ?_)
    | with_reducible refine zm_lI (fun x => ?_)
    | with_reducible refine z_f_X12_seen (fun y0 h1 z1 => ?_) (by assumption)
    | with_reducible refine zm_imp (fun _ => ?_)
    | with_reducible exact id
theorem z_L_X12_may_107 {L0 : Nat} {xs0 : Nat → Int32} {Q Q' : Int32 → AH → Prop} {K90 K90' : Int32 → Int32 → AH → Prop} (hQ : ∀ (y0 : Int32) (h : AH), ZZ L0 xs0 h → Q y0 h → Q' y0 h) (hK90 : ∀ (y0 : Int32) (y1 : Int32) (h : AH), ZZ L0 xs0 h → K90 y0 y1 h → K90' y0 y1 h) {v0 : Nat} {v1 : Int32} {v2 : Int32} {v3 : Int32} {v4 : Int32} : ∀ (n : Nat) (w0 : Int32) (w1 : Int32) (h : AH), ZZ L0 xs0 h → L_X12_may_107 Q K90 v0 v1 v2 v3 v4 n w0 w1 h → L_X12_may_107 Q' K90' v0 v1 v2 v3 v4 n w0 w1 h := by
  intro n
  induction n with
  | zero => intro w0 w1 h z H; exact H.elim
  | succ n ih => intro w0 w1 h z; exact z_B_X12_may_107 hQ hK90 ih z
theorem z_B_X12_may_90 {L0 : Nat} {xs0 : Nat → Int32} {Q Q' : Int32 → AH → Prop} {K90 K90' : Int32 → Int32 → AH → Prop} (hQ : ∀ (y0 : Int32) (h : AH), ZZ L0 xs0 h → Q y0 h → Q' y0 h) (hK90 : ∀ (y0 : Int32) (y1 : Int32) (h : AH), ZZ L0 xs0 h → K90 y0 y1 h → K90' y0 y1 h) {v0 : Nat} {v1 : Int32} {v2 : Int32} {v3 : Int32} {v4 : Int32} {h : AH} (z : ZZ L0 xs0 h) : B_X12_may_90 Q K90 v0 v1 v2 v3 v4 h → B_X12_may_90 Q' K90' v0 v1 v2 v3 v4 h := by
  unfold B_X12_may_90
  repeat' first
    | with_reducible exact hQ _ _ (by assumption)
    | with_reducible exact hK90 _ _ _ (by assumption)
    | with_reducible refine zm_and ?_ ?_
    | with_reducible refine zm_gI (fun x => ?_)
    | with_reducible refine zm_ex (fun x => ?_)
    | with_reducible refine z_L_X12_may_107 (fun y0 h1 z1 => ?_) (fun y0 y1 h1 z1 => ?_) _ _ _ _ (by assumption)
    | with_reducible refine zm_imp (fun _ => ?_)
    | with_reducible exact id
theorem z_L_X12_may_90 {L0 : Nat} {xs0 : Nat → Int32} {Q Q' : Int32 → AH → Prop} (hQ : ∀ (y0 : Int32) (h : AH), ZZ L0 xs0 h → Q y0 h → Q' y0 h) {v0 : Nat} {v1 : Int32} {v2 : Int32} : ∀ (n : Nat) (w0 : Int32) (w1 : Int32) (h : AH), ZZ L0 xs0 h → L_X12_may_90 Q v0 v1 v2 n w0 w1 h → L_X12_may_90 Q' v0 v1 v2 n w0 w1 h := by
  intro n
  induction n with
  | zero => intro w0 w1 h z H; exact H.elim
  | succ n ih => intro w0 w1 h z; exact z_B_X12_may_90 hQ ih z
theorem z_B_X12_may_46 {L0 : Nat} {xs0 : Nat → Int32} {Q Q' : Int32 → AH → Prop} {K46 K46' : Int32 → AH → Prop} (hQ : ∀ (y0 : Int32) (h : AH), ZZ L0 xs0 h → Q y0 h → Q' y0 h) (hK46 : ∀ (y0 : Int32) (h : AH), ZZ L0 xs0 h → K46 y0 h → K46' y0 h) {v0 : Nat} {v1 : Int32} {v2 : Int32} {v3 : Int32} {h : AH} (z : ZZ L0 xs0 h) : B_X12_may_46 Q K46 v0 v1 v2 v3 h → B_X12_may_46 Q' K46' v0 v1 v2 v3 h := by
  unfold B_X12_may_46
  repeat' first
    | with_reducible exact hQ _ _ (by assumption)
    | with_reducible exact hK46 _ _ (by assumption)
    | with_reducible refine zm_and ?_ ?_
    | with_reducible refine zm_gR (fun x => ?_)
    | with_reducible refine zm_lI (fun x => ?_)
    | with_reducible refine zm_ex (fun x => ?_)
    | with_reducible refine z_L_X12_may_90 (fun y0 h1 z1 => ?_) _ _ _ _ (by assumption)
    | with_reducible refine z_f_X12_find (fun y0 h1 z1 => ?_) (by assumption)
    | with_reducible refine z_f_X12_in (fun y0 h1 z1 => ?_) (by assumption)
    | with_reducible refine zm_imp (fun _ => ?_)
    | with_reducible exact id
theorem z_L_X12_may_46 {L0 : Nat} {xs0 : Nat → Int32} {Q Q' : Int32 → AH → Prop} (hQ : ∀ (y0 : Int32) (h : AH), ZZ L0 xs0 h → Q y0 h → Q' y0 h) {v0 : Nat} {v1 : Int32} {v2 : Int32} : ∀ (n : Nat) (w0 : Int32) (h : AH), ZZ L0 xs0 h → L_X12_may_46 Q v0 v1 v2 n w0 h → L_X12_may_46 Q' v0 v1 v2 n w0 h := by
  intro n
  induction n with
  | zero => intro w0 h z H; exact H.elim
  | succ n ih => intro w0 h z; exact z_B_X12_may_46 hQ ih z
theorem z_f_X12_may {L0 : Nat} {xs0 : Nat → Int32} {Q Q' : Int32 → AH → Prop} (hQ : ∀ (y0 : Int32) (h : AH), ZZ L0 xs0 h → Q y0 h → Q' y0 h) {v0 : Nat} {v1 : Int32} {h : AH} (z : ZZ L0 xs0 h) : f_X12_may v0 v1 h Q → f_X12_may v0 v1 h Q' := by
  unfold f_X12_may
  repeat' first
    | with_reducible exact hQ _ _ (by assumption)
    | with_reducible refine zm_and ?_ ?_
    | with_reducible refine zm_gI (fun x => ?_)
    | with_reducible refine zm_gR (fun x => ?_)
    | with_reducible refine zm_lI (fun x => ?_)
    | with_reducible refine zm_ex (fun x => ?_)
    | with_reducible refine z_B_X12_may_38 (fun y0 h1 z1 => ?_) (by assumption)
    | with_reducible refine z_L_X12_may_46 (fun y0 h1 z1 => ?_) _ _ _ (by assumption)
    | with_reducible refine z_f_X12_find (fun y0 h1 z1 => ?_) (by assumption)
    | with_reducible refine z_f_X12_isRow (fun y0 h1 z1 => ?_) (by assumption)
    | with_reducible refine zm_imp (fun _ => ?_)
    | with_reducible exact id
theorem z_B_X7_from_24 {L0 : Nat} {xs0 : Nat → Int32} {Q Q' : AH → Prop} (hQ : ∀ (h : AH), ZZ L0 xs0 h → Q  h → Q'  h) {v0 : Nat} {v1 : Nat} {v2 : Int32} {v3 : Int32} {h : AH} (z : ZZ L0 xs0 h) : B_X7_from_24 Q v0 v1 v2 v3 h → B_X7_from_24 Q' v0 v1 v2 v3 h := by
  unfold B_X7_from_24
  repeat' first
    | with_reducible exact hQ _ (by assumption)
    | with_reducible refine zm_and ?_ ?_
    | with_reducible refine zm_pF (by assumption) (fun h1 z1 => ?_)
    | with_reducible refine zm_imp (fun _ => ?_)
    | with_reducible exact id
theorem z_f_X7_from {L0 : Nat} {xs0 : Nat → Int32} {Q Q' : AH → Prop} (hQ : ∀ (h : AH), ZZ L0 xs0 h → Q  h → Q'  h) {v0 : Nat} {v1 : Nat} {v2 : Int32} {v3 : Int32} {h : AH} (z : ZZ L0 xs0 h) : f_X7_from v0 v1 v2 v3 h Q → f_X7_from v0 v1 v2 v3 h Q' := by
  unfold f_X7_from
  repeat' first
    | with_reducible exact hQ _ (by assumption)
    | with_reducible refine zm_and ?_ ?_
    | with_reducible refine zm_gI (fun x => ?_)
    | with_reducible refine zm_gR (fun x => ?_)
    | with_reducible refine z_B_X7_from_24 (fun  h1 z1 => ?_) (by assumption)
    | with_reducible refine zm_imp (fun _ => ?_)
    | with_reducible exact id
theorem z_B_X7_rowsOf_4 {L0 : Nat} {xs0 : Nat → Int32} {Q Q' : Int32 → AH → Prop} {K4 K4' : Int32 → Int32 → AH → Prop} (hQ : ∀ (y0 : Int32) (h : AH), ZZ L0 xs0 h → Q y0 h → Q' y0 h) (hK4 : ∀ (y0 : Int32) (y1 : Int32) (h : AH), ZZ L0 xs0 h → K4 y0 y1 h → K4' y0 y1 h) {v0 : Nat} {v1 : Int32} {v2 : Int32} {v3 : Int32} {h : AH} (z : ZZ L0 xs0 h) : B_X7_rowsOf_4 Q K4 v0 v1 v2 v3 h → B_X7_rowsOf_4 Q' K4' v0 v1 v2 v3 h := by
  unfold B_X7_rowsOf_4
  repeat' first
    | with_reducible exact hQ _ _ (by assumption)
    | with_reducible exact hK4 _ _ _ (by assumption)
    | with_reducible refine zm_and ?_ ?_
    | with_reducible refine zm_gI (fun x => ?_)
    | with_reducible refine zm_gR (fun x => ?_)
    | with_reducible refine zm_imp (fun _ => ?_)
    | with_reducible exact id
theorem z_L_X7_rowsOf_4 {L0 : Nat} {xs0 : Nat → Int32} {Q Q' : Int32 → AH → Prop} (hQ : ∀ (y0 : Int32) (h : AH), ZZ L0 xs0 h → Q y0 h → Q' y0 h) {v0 : Nat} {v1 : Int32} : ∀ (n : Nat) (w0 : Int32) (w1 : Int32) (h : AH), ZZ L0 xs0 h → L_X7_rowsOf_4 Q v0 v1 n w0 w1 h → L_X7_rowsOf_4 Q' v0 v1 n w0 w1 h := by
  intro n
  induction n with
  | zero => intro w0 w1 h z H; exact H.elim
  | succ n ih => intro w0 w1 h z; exact z_B_X7_rowsOf_4 hQ ih z
theorem z_f_X7_rowsOf {L0 : Nat} {xs0 : Nat → Int32} {Q Q' : Int32 → AH → Prop} (hQ : ∀ (y0 : Int32) (h : AH), ZZ L0 xs0 h → Q y0 h → Q' y0 h) {v0 : Nat} {v1 : Int32} {h : AH} (z : ZZ L0 xs0 h) : f_X7_rowsOf v0 v1 h Q → f_X7_rowsOf v0 v1 h Q' := by
  unfold f_X7_rowsOf
  repeat' first
    | with_reducible exact hQ _ _ (by assumption)
    | with_reducible refine zm_and ?_ ?_
    | with_reducible refine zm_ex (fun x => ?_)
    | with_reducible refine z_L_X7_rowsOf_4 (fun y0 h1 z1 => ?_) _ _ _ _ (by assumption)
    | with_reducible refine zm_imp (fun _ => ?_)
    | with_reducible exact id
theorem z_f_X7_firstRow {L0 : Nat} {xs0 : Nat → Int32} {Q Q' : AH → Prop} (hQ : ∀ (h : AH), ZZ L0 xs0 h → Q  h → Q'  h) {v0 : Nat} {h : AH} (z : ZZ L0 xs0 h) : f_X7_firstRow v0 h Q → f_X7_firstRow v0 h Q' := by
  unfold f_X7_firstRow
  repeat' first
    | with_reducible exact hQ _ (by assumption)
    | with_reducible refine zm_and ?_ ?_
    | with_reducible refine zm_gR (fun x => ?_)
    | with_reducible refine z_f_J7_fill_53178 (fun  h1 z1 => ?_) (by assumption)
    | with_reducible refine zm_imp (fun _ => ?_)
    | with_reducible exact id
theorem z_B_X9_sendRow_2 {L0 : Nat} {xs0 : Nat → Int32} {Q Q' : AH → Prop} {K2 K2' : Int32 → AH → Prop} (hQ : ∀ (h : AH), ZZ L0 xs0 h → Q  h → Q'  h) (hK2 : ∀ (y0 : Int32) (h : AH), ZZ L0 xs0 h → K2 y0 h → K2' y0 h) {v0 : Nat} {v1 : Nat} {v2 : Int32} {v3 : Int32} {h : AH} (z : ZZ L0 xs0 h) : B_X9_sendRow_2 Q K2 v0 v1 v2 v3 h → B_X9_sendRow_2 Q' K2' v0 v1 v2 v3 h := by
  unfold B_X9_sendRow_2
  repeat' first
    | with_reducible exact hQ _ (by assumption)
    | with_reducible exact hK2 _ _ (by assumption)
    | with_reducible refine zm_and ?_ ?_
    | with_reducible refine zm_gR (fun x => ?_)
    | with_reducible refine zm_lI (fun x => ?_)
    | with_reducible refine zm_aL (fun x => ?_)
    | with_reducible refine zm_all (fun x _ => ?_)
    | with_reducible refine z_f_X5_walkerAt (fun y0 h1 z1 => ?_) (by assumption)
    | with_reducible refine z_v_go1 (fun  h1 z1 => ?_) (by assumption)
    | with_reducible refine zm_imp (fun _ => ?_)
    | with_reducible exact id
theorem z_L_X9_sendRow_2 {L0 : Nat} {xs0 : Nat → Int32} {Q Q' : AH → Prop} (hQ : ∀ (h : AH), ZZ L0 xs0 h → Q  h → Q'  h) {v0 : Nat} {v1 : Nat} {v2 : Int32} : ∀ (n : Nat) (w0 : Int32) (h : AH), ZZ L0 xs0 h → L_X9_sendRow_2 Q v0 v1 v2 n w0 h → L_X9_sendRow_2 Q' v0 v1 v2 n w0 h := by
  intro n
  induction n with
  | zero => intro w0 h z H; exact H.elim
  | succ n ih => intro w0 h z; exact z_B_X9_sendRow_2 hQ ih z
theorem z_f_X9_sendRow {L0 : Nat} {xs0 : Nat → Int32} {Q Q' : AH → Prop} (hQ : ∀ (h : AH), ZZ L0 xs0 h → Q  h → Q'  h) {v0 : Nat} {v1 : Nat} {v2 : Int32} {h : AH} (z : ZZ L0 xs0 h) : f_X9_sendRow v0 v1 v2 h Q → f_X9_sendRow v0 v1 v2 h Q' := by
  unfold f_X9_sendRow
  repeat' first
    | with_reducible exact hQ _ (by assumption)
    | with_reducible refine zm_and ?_ ?_
    | with_reducible refine zm_ex (fun x => ?_)
    | with_reducible refine z_L_X9_sendRow_2 (fun  h1 z1 => ?_) _ _ _ (by assumption)
    | with_reducible refine zm_imp (fun _ => ?_)
    | with_reducible exact id
theorem z_B_X7_gather_33 {L0 : Nat} {xs0 : Nat → Int32} {Q Q' : AH → Prop} (hQ : ∀ (h : AH), ZZ L0 xs0 h → Q  h → Q'  h) {v0 : Nat} {v1 : Int32} {h : AH} (z : ZZ L0 xs0 h) : B_X7_gather_33 Q v0 v1 h → B_X7_gather_33 Q' v0 v1 h := by
  unfold B_X7_gather_33
  repeat' first
    | with_reducible exact hQ _ (by assumption)
    | with_reducible refine zm_and ?_ ?_
    | with_reducible refine zm_gI (fun x => ?_)
    | with_reducible refine zm_gR (fun x => ?_)
    | with_reducible refine zm_pF (by assumption) (fun h1 z1 => ?_)
    | with_reducible refine zm_sI (by assumption) (fun h1 z1 => ?_)
    | with_reducible refine zm_imp (fun _ => ?_)
    | with_reducible exact id
theorem z_B_X7_gather_2 {L0 : Nat} {xs0 : Nat → Int32} {Q Q' : AH → Prop} {K2 K2' : Int32 → AH → Prop} (hQ : ∀ (h : AH), ZZ L0 xs0 h → Q  h → Q'  h) (hK2 : ∀ (y0 : Int32) (h : AH), ZZ L0 xs0 h → K2 y0 h → K2' y0 h) {v0 : Nat} {v1 : Int32} {v2 : Int32} {h : AH} (z : ZZ L0 xs0 h) : B_X7_gather_2 Q K2 v0 v1 v2 h → B_X7_gather_2 Q' K2' v0 v1 v2 h := by
  unfold B_X7_gather_2
  repeat' first
    | with_reducible exact hQ _ (by assumption)
    | with_reducible exact hK2 _ _ (by assumption)
    | with_reducible refine zm_and ?_ ?_
    | with_reducible refine zm_gI (fun x => ?_)
    | with_reducible refine zm_gR (fun x => ?_)
    | with_reducible refine zm_lI (fun x => ?_)
    | with_reducible refine z_B_X7_gather_33 (fun  h1 z1 => ?_) (by assumption)
    | with_reducible refine zm_imp (fun _ => ?_)
    | with_reducible exact id
theorem z_L_X7_gather_2 {L0 : Nat} {xs0 : Nat → Int32} {Q Q' : AH → Prop} (hQ : ∀ (h : AH), ZZ L0 xs0 h → Q  h → Q'  h) {v0 : Nat} {v1 : Int32} : ∀ (n : Nat) (w0 : Int32) (h : AH), ZZ L0 xs0 h → L_X7_gather_2 Q v0 v1 n w0 h → L_X7_gather_2 Q' v0 v1 n w0 h := by
  intro n
  induction n with
  | zero => intro w0 h z H; exact H.elim
  | succ n ih => intro w0 h z; exact z_B_X7_gather_2 hQ ih z
theorem z_f_X7_gather {L0 : Nat} {xs0 : Nat → Int32} {Q Q' : AH → Prop} (hQ : ∀ (h : AH), ZZ L0 xs0 h → Q  h → Q'  h) {v0 : Nat} {v1 : Int32} {h : AH} (z : ZZ L0 xs0 h) : f_X7_gather v0 v1 h Q → f_X7_gather v0 v1 h Q' := by
  unfold f_X7_gather
  repeat' first
    | with_reducible exact hQ _ (by assumption)
    | with_reducible refine zm_and ?_ ?_
    | with_reducible refine zm_ex (fun x => ?_)
    | with_reducible refine z_L_X7_gather_2 (fun  h1 z1 => ?_) _ _ _ (by assumption)
    | with_reducible refine zm_imp (fun _ => ?_)
    | with_reducible exact id
theorem z_B_X7_nextRow_8 {L0 : Nat} {xs0 : Nat → Int32} {Q Q' : AH → Prop} {K8 K8' : Int32 → AH → Prop} (hQ : ∀ (h : AH), ZZ L0 xs0 h → Q  h → Q'  h) (hK8 : ∀ (y0 : Int32) (h : AH), ZZ L0 xs0 h → K8 y0 h → K8' y0 h) {v0 : Nat} {v2 : Int32} {h : AH} (z : ZZ L0 xs0 h) : B_X7_nextRow_8 Q K8 v0 v2 h → B_X7_nextRow_8 Q' K8' v0 v2 h := by
  unfold B_X7_nextRow_8
  repeat' first
    | with_reducible exact hQ _ (by assumption)
    | with_reducible exact hK8 _ _ (by assumption)
    | with_reducible refine zm_and ?_ ?_
    | with_reducible refine zm_gI (fun x => ?_)
    | with_reducible refine zm_gR (fun x => ?_)
    | with_reducible refine zm_lI (fun x => ?_)
    | with_reducible refine zm_sI (by assumption) (fun h1 z1 => ?_)
    | with_reducible refine zm_imp (fun _ => ?_)
    | with_reducible exact id
theorem z_L_X7_nextRow_8 {L0 : Nat} {xs0 : Nat → Int32} {Q Q' : AH → Prop} (hQ : ∀ (h : AH), ZZ L0 xs0 h → Q  h → Q'  h) {v0 : Nat} : ∀ (n : Nat) (w0 : Int32) (h : AH), ZZ L0 xs0 h → L_X7_nextRow_8 Q v0 n w0 h → L_X7_nextRow_8 Q' v0 n w0 h := by
  intro n
  induction n with
  | zero => intro w0 h z H; exact H.elim
  | succ n ih => intro w0 h z; exact z_B_X7_nextRow_8 hQ ih z
theorem z_f_X7_nextRow {L0 : Nat} {xs0 : Nat → Int32} {Q Q' : AH → Prop} (hQ : ∀ (h : AH), ZZ L0 xs0 h → Q  h → Q'  h) {v0 : Nat} {v1 : Int32} {h : AH} (z : ZZ L0 xs0 h) : f_X7_nextRow v0 v1 h Q → f_X7_nextRow v0 v1 h Q' := by
  unfold f_X7_nextRow
  repeat' first
    | with_reducible exact hQ _ (by assumption)
    | with_reducible refine zm_and ?_ ?_
    | with_reducible refine zm_ex (fun x => ?_)
    | with_reducible refine z_L_X7_nextRow_8 (fun  h1 z1 => ?_) _ _ _ (by assumption)
    | with_reducible refine zm_imp (fun _ => ?_)
    | with_reducible exact id
theorem z_B_X7_gatherEnds_17 {L0 : Nat} {xs0 : Nat → Int32} {Q Q' : Int32 → AH → Prop} {K17 K17' : Int32 → AH → Prop} (hQ : ∀ (y0 : Int32) (h : AH), ZZ L0 xs0 h → Q y0 h → Q' y0 h) (hK17 : ∀ (y0 : Int32) (h : AH), ZZ L0 xs0 h → K17 y0 h → K17' y0 h) {v0 : Nat} {v1 : Int32} {v2 : Int32} {v3 : Int32} {h : AH} (z : ZZ L0 xs0 h) : B_X7_gatherEnds_17 Q K17 v0 v1 v2 v3 h → B_X7_gatherEnds_17 Q' K17' v0 v1 v2 v3 h := by
  unfold B_X7_gatherEnds_17
  repeat' first
    | with_reducible exact hQ _ _ (by assumption)
    | with_reducible exact hK17 _ _ (by assumption)
    | with_reducible refine zm_and ?_ ?_
    | with_reducible refine zm_gI (fun x => ?_)
    | with_reducible refine zm_gR (fun x => ?_)
    | with_reducible refine z_f_X7_gather (fun  h1 z1 => ?_) (by assumption)
    | with_reducible refine z_f_X7_nextRow (fun  h1 z1 => ?_) (by assumption)
    | with_reducible refine z_f_X9_begin (fun  h1 z1 => ?_) (by assumption)
    | with_reducible refine z_f_X9_sendRow (fun  h1 z1 => ?_) (by assumption)
    | with_reducible refine zm_imp (fun _ => ?_)
    | with_reducible exact id
theorem z_L_X7_gatherEnds_17 {L0 : Nat} {xs0 : Nat → Int32} {Q Q' : Int32 → AH → Prop} (hQ : ∀ (y0 : Int32) (h : AH), ZZ L0 xs0 h → Q y0 h → Q' y0 h) {v0 : Nat} {v1 : Int32} {v2 : Int32} : ∀ (n : Nat) (w0 : Int32) (h : AH), ZZ L0 xs0 h → L_X7_gatherEnds_17 Q v0 v1 v2 n w0 h → L_X7_gatherEnds_17 Q' v0 v1 v2 n w0 h := by
  intro n
  induction n with
  | zero => intro w0 h z H; exact H.elim
  | succ n ih => intro w0 h z; exact z_B_X7_gatherEnds_17 hQ ih z
theorem z_f_X7_gatherEnds {L0 : Nat} {xs0 : Nat → Int32} {Q Q' : Int32 → AH → Prop} (hQ : ∀ (y0 : Int32) (h : AH), ZZ L0 xs0 h → Q y0 h → Q' y0 h) {v0 : Nat} {v1 : Int32} {h : AH} (z : ZZ L0 xs0 h) : f_X7_gatherEnds v0 v1 h Q → f_X7_gatherEnds v0 v1 h Q' := by
  unfold f_X7_gatherEnds
  repeat' first
    | with_reducible exact hQ _ _ (by assumption)
    | with_reducible refine zm_and ?_ ?_
    | with_reducible refine zm_pF (by assumption) (fun h1 z1 => ?_)
    | with_reducible refine zm_ex (fun x => ?_)
    | with_reducible refine z_L_X7_gatherEnds_17 (fun y0 h1 z1 => ?_) _ _ _ (by assumption)
    | with_reducible refine z_f_X7_firstRow (fun  h1 z1 => ?_) (by assumption)
    | with_reducible refine z_f_X7_rowsOf (fun y0 h1 z1 => ?_) (by assumption)
    | with_reducible refine zm_imp (fun _ => ?_)
    | with_reducible exact id
theorem z_f_X7_endAt {L0 : Nat} {xs0 : Nat → Int32} {Q Q' : Int32 → AH → Prop} (hQ : ∀ (y0 : Int32) (h : AH), ZZ L0 xs0 h → Q y0 h → Q' y0 h) {v0 : Nat} {v1 : Int32} {h : AH} (z : ZZ L0 xs0 h) : f_X7_endAt v0 v1 h Q → f_X7_endAt v0 v1 h Q' := by
  unfold f_X7_endAt
  repeat' first
    | with_reducible exact hQ _ _ (by assumption)
    | with_reducible refine zm_and ?_ ?_
    | with_reducible refine zm_gI (fun x => ?_)
    | with_reducible refine zm_gR (fun x => ?_)
    | with_reducible refine zm_lI (fun x => ?_)
    | with_reducible refine zm_imp (fun _ => ?_)
    | with_reducible exact id
theorem z_B_X11_standings_59 {L0 : Nat} {xs0 : Nat → Int32} {Q Q' : Int32 → AH → Prop} {K59 K59' : Int32 → Int32 → AH → Prop} (hQ : ∀ (y0 : Int32) (h : AH), ZZ L0 xs0 h → Q y0 h → Q' y0 h) (hK59 : ∀ (y0 : Int32) (y1 : Int32) (h : AH), ZZ L0 xs0 h → K59 y0 y1 h → K59' y0 y1 h) {v0 : Nat} {v2 : Int32} {v3 : Int32} {v4 : Int32} {v5 : Int32} {h : AH} (z : ZZ L0 xs0 h) : B_X11_standings_59 Q K59 v0 v2 v3 v4 v5 h → B_X11_standings_59 Q' K59' v0 v2 v3 v4 v5 h := by
  unfold B_X11_standings_59
  repeat' first
    | with_reducible exact hQ _ _ (by assumption)
    | with_reducible exact hK59 _ _ _ (by assumption)
    | with_reducible refine zm_and ?_ ?_
    | with_reducible refine zm_gI (fun x => ?_)
    | with_reducible refine zm_gR (fun x => ?_)
    | with_reducible refine zm_pF (by assumption) (fun h1 z1 => ?_)
    | with_reducible refine z_f_X5_leastAt (fun y0 h1 z1 => ?_) (by assumption)
    | with_reducible refine z_f_X7_endAt (fun y0 h1 z1 => ?_) (by assumption)
    | with_reducible refine zm_imp (fun _ => ?_)
    | with_reducible exact id
theorem z_L_X11_standings_59 {L0 : Nat} {xs0 : Nat → Int32} {Q Q' : Int32 → AH → Prop} (hQ : ∀ (y0 : Int32) (h : AH), ZZ L0 xs0 h → Q y0 h → Q' y0 h) {v0 : Nat} {v2 : Int32} {v3 : Int32} : ∀ (n : Nat) (w0 : Int32) (w1 : Int32) (h : AH), ZZ L0 xs0 h → L_X11_standings_59 Q v0 v2 v3 n w0 w1 h → L_X11_standings_59 Q' v0 v2 v3 n w0 w1 h := by
  intro n
  induction n with
  | zero => intro w0 w1 h z H; exact H.elim
  | succ n ih => intro w0 w1 h z; exact z_B_X11_standings_59 hQ ih z
theorem z_f_X11_standings {L0 : Nat} {xs0 : Nat → Int32} {Q Q' : Int32 → AH → Prop} (hQ : ∀ (y0 : Int32) (h : AH), ZZ L0 xs0 h → Q y0 h → Q' y0 h) {v0 : Nat} {v1 : Int32} {v2 : Int32} {h : AH} (z : ZZ L0 xs0 h) : f_X11_standings v0 v1 v2 h Q → f_X11_standings v0 v1 v2 h Q' := by
  unfold f_X11_standings
  repeat' first
    | with_reducible exact hQ _ _ (by assumption)
    | with_reducible refine zm_and ?_ ?_
    | with_reducible refine zm_gI (fun x => ?_)
    | with_reducible refine zm_gR (fun x => ?_)
    | with_reducible refine zm_ex (fun x => ?_)
    | with_reducible refine z_L_X11_standings_59 (fun y0 h1 z1 => ?_) _ _ _ _ (by assumption)
    | with_reducible refine z_f_X11_isBelow (fun y0 h1 z1 => ?_) (by assumption)
    | with_reducible refine z_f_X7_from (fun  h1 z1 => ?_) (by assumption)
    | with_reducible refine z_f_X7_gatherEnds (fun y0 h1 z1 => ?_) (by assumption)
    | with_reducible refine zm_imp (fun _ => ?_)
    | with_reducible exact id
theorem z_B_X12_power_4 {L0 : Nat} {xs0 : Nat → Int32} {Q Q' : Int32 → AH → Prop} {K4 K4' : Int32 → Int32 → AH → Prop} (hQ : ∀ (y0 : Int32) (h : AH), ZZ L0 xs0 h → Q y0 h → Q' y0 h) (hK4 : ∀ (y0 : Int32) (y1 : Int32) (h : AH), ZZ L0 xs0 h → K4 y0 y1 h → K4' y0 y1 h) {v0 : Nat} {v1 : Int32} {v2 : Int32} {v3 : Int32} {h : AH} (z : ZZ L0 xs0 h) : B_X12_power_4 Q K4 v0 v1 v2 v3 h → B_X12_power_4 Q' K4' v0 v1 v2 v3 h := by
  unfold B_X12_power_4
  repeat' first
    | with_reducible exact hQ _ _ (by assumption)
    | with_reducible exact hK4 _ _ _ (by assumption)
    | with_reducible refine zm_and ?_ ?_
    | with_reducible refine zm_gI (fun x => ?_)
    | with_reducible refine zm_imp (fun _ => ?_)
    | with_reducible exact id
theorem z_L_X12_power_4 {L0 : Nat} {xs0 : Nat → Int32} {Q Q' : Int32 → AH → Prop} (hQ : ∀ (y0 : Int32) (h : AH), ZZ L0 xs0 h → Q y0 h → Q' y0 h) {v0 : Nat} {v1 : Int32} : ∀ (n : Nat) (w0 : Int32) (w1 : Int32) (h : AH), ZZ L0 xs0 h → L_X12_power_4 Q v0 v1 n w0 w1 h → L_X12_power_4 Q' v0 v1 n w0 w1 h := by
  intro n
  induction n with
  | zero => intro w0 w1 h z H; exact H.elim
  | succ n ih => intro w0 w1 h z; exact z_B_X12_power_4 hQ ih z
theorem z_f_X12_power {L0 : Nat} {xs0 : Nat → Int32} {Q Q' : Int32 → AH → Prop} (hQ : ∀ (y0 : Int32) (h : AH), ZZ L0 xs0 h → Q y0 h → Q' y0 h) {v0 : Nat} {v1 : Int32} {h : AH} (z : ZZ L0 xs0 h) : f_X12_power v0 v1 h Q → f_X12_power v0 v1 h Q' := by
  unfold f_X12_power
  repeat' first
    | with_reducible exact hQ _ _ (by assumption)
    | with_reducible refine zm_and ?_ ?_
    | with_reducible refine zm_ex (fun x => ?_)
    | with_reducible refine z_L_X12_power_4 (fun y0 h1 z1 => ?_) _ _ _ _ (by assumption)
    | with_reducible refine zm_imp (fun _ => ?_)
    | with_reducible exact id
theorem z_B_X12_behindRow_20 {L0 : Nat} {xs0 : Nat → Int32} {Q Q' : Int32 → AH → Prop} {K20 K20' : Int32 → Int32 → Int32 → AH → Prop} (hQ : ∀ (y0 : Int32) (h : AH), ZZ L0 xs0 h → Q y0 h → Q' y0 h) (hK20 : ∀ (y0 : Int32) (y1 : Int32) (y2 : Int32) (h : AH), ZZ L0 xs0 h → K20 y0 y1 y2 h → K20' y0 y1 y2 h) {v0 : Nat} {v1 : Int32} {v2 : Int32} {v3 : Int32} {v4 : Int32} {v5 : Int32} {h : AH} (z : ZZ L0 xs0 h) : B_X12_behindRow_20 Q K20 v0 v1 v2 v3 v4 v5 h → B_X12_behindRow_20 Q' K20' v0 v1 v2 v3 v4 v5 h := by
  unfold B_X12_behindRow_20
  repeat' first
    | with_reducible exact hQ _ _ (by assumption)
    | with_reducible exact hK20 _ _ _ _ (by assumption)
    | with_reducible refine zm_and ?_ ?_
    | with_reducible refine zm_gI (fun x => ?_)
    | with_reducible refine zm_pF (by assumption) (fun h1 z1 => ?_)
    | with_reducible refine z_f_X12_behind (fun y0 h1 z1 => ?_) (by assumption)
    | with_reducible refine zm_imp (fun _ => ?_)
    | with_reducible exact id
theorem z_L_X12_behindRow_20 {L0 : Nat} {xs0 : Nat → Int32} {Q Q' : Int32 → AH → Prop} (hQ : ∀ (y0 : Int32) (h : AH), ZZ L0 xs0 h → Q y0 h → Q' y0 h) {v0 : Nat} {v1 : Int32} {v2 : Int32} : ∀ (n : Nat) (w0 : Int32) (w1 : Int32) (w2 : Int32) (h : AH), ZZ L0 xs0 h → L_X12_behindRow_20 Q v0 v1 v2 n w0 w1 w2 h → L_X12_behindRow_20 Q' v0 v1 v2 n w0 w1 w2 h := by
  intro n
  induction n with
  | zero => intro w0 w1 w2 h z H; exact H.elim
  | succ n ih => intro w0 w1 w2 h z; exact z_B_X12_behindRow_20 hQ ih z
theorem z_f_X12_behindRow {L0 : Nat} {xs0 : Nat → Int32} {Q Q' : Int32 → AH → Prop} (hQ : ∀ (y0 : Int32) (h : AH), ZZ L0 xs0 h → Q y0 h → Q' y0 h) {v0 : Nat} {v1 : Int32} {v2 : Int32} {h : AH} (z : ZZ L0 xs0 h) : f_X12_behindRow v0 v1 v2 h Q → f_X12_behindRow v0 v1 v2 h Q' := by
  unfold f_X12_behindRow
  repeat' first
    | with_reducible exact hQ _ _ (by assumption)
    | with_reducible refine zm_and ?_ ?_
    | with_reducible refine zm_gI (fun x => ?_)
    | with_reducible refine zm_pF (by assumption) (fun h1 z1 => ?_)
    | with_reducible refine zm_ex (fun x => ?_)
    | with_reducible refine z_L_X12_behindRow_20 (fun y0 h1 z1 => ?_) _ _ _ _ _ (by assumption)
    | with_reducible refine z_f_X12_power (fun y0 h1 z1 => ?_) (by assumption)
    | with_reducible refine zm_imp (fun _ => ?_)
    | with_reducible exact id
theorem z_B_X12_meets_32 {L0 : Nat} {xs0 : Nat → Int32} {Q Q' : AH → Prop} {K13 K13' : Int32 → AH → Prop} {K32 K32' : Int32 → Int32 → AH → Prop} (hQ : ∀ (h : AH), ZZ L0 xs0 h → Q  h → Q'  h) (hK13 : ∀ (y0 : Int32) (h : AH), ZZ L0 xs0 h → K13 y0 h → K13' y0 h) (hK32 : ∀ (y0 : Int32) (y1 : Int32) (h : AH), ZZ L0 xs0 h → K32 y0 y1 h → K32' y0 y1 h) {v0 : Nat} {v1 : Int32} {v2 : Int32} {v3 : Int32} {v4 : Int32} {v5 : Int32} {v6 : Int32} {h : AH} (z : ZZ L0 xs0 h) : B_X12_meets_32 Q K13 K32 v0 v1 v2 v3 v4 v5 v6 h → B_X12_meets_32 Q' K13' K32' v0 v1 v2 v3 v4 v5 v6 h := by
  unfold B_X12_meets_32
  repeat' first
    | with_reducible exact hQ _ (by assumption)
    | with_reducible exact hK13 _ _ (by assumption)
    | with_reducible exact hK32 _ _ _ (by assumption)
    | with_reducible refine zm_and ?_ ?_
    | with_reducible refine zm_gI (fun x => ?_)
    | with_reducible refine zm_gR (fun x => ?_)
    | with_reducible refine zm_lI (fun x => ?_)
    | with_reducible refine zm_pF (by assumption) (fun h1 z1 => ?_)
    | with_reducible refine zm_sI (by assumption) (fun h1 z1 => ?_)
    | with_reducible refine zm_imp (fun _ => ?_)
    | with_reducible exact id
theorem z_L_X12_meets_32 {L0 : Nat} {xs0 : Nat → Int32} {Q Q' : AH → Prop} {K13 K13' : Int32 → AH → Prop} (hQ : ∀ (h : AH), ZZ L0 xs0 h → Q  h → Q'  h) (hK13 : ∀ (y0 : Int32) (h : AH), ZZ L0 xs0 h → K13 y0 h → K13' y0 h) {v0 : Nat} {v1 : Int32} {v2 : Int32} {v3 : Int32} {v4 : Int32} : ∀ (n : Nat) (w0 : Int32) (w1 : Int32) (h : AH), ZZ L0 xs0 h → L_X12_meets_32 Q K13 v0 v1 v2 v3 v4 n w0 w1 h → L_X12_meets_32 Q' K13' v0 v1 v2 v3 v4 n w0 w1 h := by
  intro n
  induction n with
  | zero => intro w0 w1 h z H; exact H.elim
  | succ n ih => intro w0 w1 h z; exact z_B_X12_meets_32 hQ hK13 ih z
theorem z_B_X12_meets_13 {L0 : Nat} {xs0 : Nat → Int32} {Q Q' : AH → Prop} {K13 K13' : Int32 → AH → Prop} (hQ : ∀ (h : AH), ZZ L0 xs0 h → Q  h → Q'  h) (hK13 : ∀ (y0 : Int32) (h : AH), ZZ L0 xs0 h → K13 y0 h → K13' y0 h) {v0 : Nat} {v1 : Int32} {v2 : Int32} {v3 : Int32} {h : AH} (z : ZZ L0 xs0 h) : B_X12_meets_13 Q K13 v0 v1 v2 v3 h → B_X12_meets_13 Q' K13' v0 v1 v2 v3 h := by
  unfold B_X12_meets_13
  repeat' first
    | with_reducible exact hQ _ (by assumption)
    | with_reducible exact hK13 _ _ (by assumption)
    | with_reducible refine zm_and ?_ ?_
    | with_reducible refine zm_ex (fun x => ?_)
    | with_reducible refine z_L_X12_meets_32 (fun  h1 z1 => ?_) (fun y0 h1 z1 => ?_) _ _ _ _ (by assumption)
    | with_reducible refine z_f_X12_behindRow (fun y0 h1 z1 => ?_) (by assumption)
    | with_reducible refine zm_imp (fun _ => ?_)
    | with_reducible exact id
theorem z_L_X12_meets_13 {L0 : Nat} {xs0 : Nat → Int32} {Q Q' : AH → Prop} (hQ : ∀ (h : AH), ZZ L0 xs0 h → Q  h → Q'  h) {v0 : Nat} {v1 : Int32} {v2 : Int32} : ∀ (n : Nat) (w0 : Int32) (h : AH), ZZ L0 xs0 h → L_X12_meets_13 Q v0 v1 v2 n w0 h → L_X12_meets_13 Q' v0 v1 v2 n w0 h := by
  intro n
  induction n with
  | zero => intro w0 h z H; exact H.elim
  | succ n ih => intro w0 h z; exact z_B_X12_meets_13 hQ ih z
theorem z_f_X12_meets {L0 : Nat} {xs0 : Nat → Int32} {Q Q' : AH → Prop} (hQ : ∀ (h : AH), ZZ L0 xs0 h → Q  h → Q'  h) {v0 : Nat} {v1 : Int32} {h : AH} (z : ZZ L0 xs0 h) : f_X12_meets v0 v1 h Q → f_X12_meets v0 v1 h Q' := by
  unfold f_X12_meets
  repeat' first
    | with_reducible exact hQ _ (by assumption)
    | with_reducible refine zm_and ?_ ?_
    | with_reducible refine zm_pF (by assumption) (fun h1 z1 => ?_)
    | with_reducible refine zm_ex (fun x => ?_)
    | with_reducible refine z_L_X12_meets_13 (fun  h1 z1 => ?_) _ _ _ (by assumption)
    | with_reducible refine z_f_X12_power (fun y0 h1 z1 => ?_) (by assumption)
    | with_reducible refine zm_imp (fun _ => ?_)
    | with_reducible exact id
theorem z_B_X12_standings_34 {L0 : Nat} {xs0 : Nat → Int32} {Q Q' : Int32 → AH → Prop} {K34 K34' : Int32 → AH → Prop} (hQ : ∀ (y0 : Int32) (h : AH), ZZ L0 xs0 h → Q y0 h → Q' y0 h) (hK34 : ∀ (y0 : Int32) (h : AH), ZZ L0 xs0 h → K34 y0 h → K34' y0 h) {v0 : Nat} {v2 : Int32} {v3 : Int32} {h : AH} (z : ZZ L0 xs0 h) : B_X12_standings_34 Q K34 v0 v2 v3 h → B_X12_standings_34 Q' K34' v0 v2 v3 h := by
  unfold B_X12_standings_34
  repeat' first
    | with_reducible exact hQ _ _ (by assumption)
    | with_reducible exact hK34 _ _ (by assumption)
    | with_reducible refine zm_and ?_ ?_
    | with_reducible refine zm_gI (fun x => ?_)
    | with_reducible refine zm_gR (fun x => ?_)
    | with_reducible refine zm_lI (fun x => ?_)
    | with_reducible refine zm_pF (by assumption) (fun h1 z1 => ?_)
    | with_reducible refine z_f_X12_seen (fun y0 h1 z1 => ?_) (by assumption)
    | with_reducible refine zm_imp (fun _ => ?_)
    | with_reducible exact id
theorem z_L_X12_standings_34 {L0 : Nat} {xs0 : Nat → Int32} {Q Q' : Int32 → AH → Prop} (hQ : ∀ (y0 : Int32) (h : AH), ZZ L0 xs0 h → Q y0 h → Q' y0 h) {v0 : Nat} {v2 : Int32} : ∀ (n : Nat) (w0 : Int32) (h : AH), ZZ L0 xs0 h → L_X12_standings_34 Q v0 v2 n w0 h → L_X12_standings_34 Q' v0 v2 n w0 h := by
  intro n
  induction n with
  | zero => intro w0 h z H; exact H.elim
  | succ n ih => intro w0 h z; exact z_B_X12_standings_34 hQ ih z
theorem z_f_X12_standings {L0 : Nat} {xs0 : Nat → Int32} {Q Q' : Int32 → AH → Prop} (hQ : ∀ (y0 : Int32) (h : AH), ZZ L0 xs0 h → Q y0 h → Q' y0 h) {v0 : Nat} {v1 : Int32} {v2 : Int32} {h : AH} (z : ZZ L0 xs0 h) : f_X12_standings v0 v1 v2 h Q → f_X12_standings v0 v1 v2 h Q' := by
  unfold f_X12_standings
  repeat' first
    | with_reducible exact hQ _ _ (by assumption)
    | with_reducible refine zm_and ?_ ?_
    | with_reducible refine zm_pF (by assumption) (fun h1 z1 => ?_)
    | with_reducible refine zm_ex (fun x => ?_)
    | with_reducible refine z_L_X12_standings_34 (fun y0 h1 z1 => ?_) _ _ _ (by assumption)
    | with_reducible refine z_f_X12_in (fun y0 h1 z1 => ?_) (by assumption)
    | with_reducible refine z_f_X12_isPost (fun y0 h1 z1 => ?_) (by assumption)
    | with_reducible refine z_f_X12_meets (fun  h1 z1 => ?_) (by assumption)
    | with_reducible refine zm_imp (fun _ => ?_)
    | with_reducible exact id
theorem z_B_X7_mostAlike_12 {L0 : Nat} {xs0 : Nat → Int32} {Q Q' : Int32 → AH → Prop} {K12 K12' : Int32 → Int32 → AH → Prop} (hQ : ∀ (y0 : Int32) (h : AH), ZZ L0 xs0 h → Q y0 h → Q' y0 h) (hK12 : ∀ (y0 : Int32) (y1 : Int32) (h : AH), ZZ L0 xs0 h → K12 y0 y1 h → K12' y0 y1 h) {v0 : Nat} {v1 : Int32} {v2 : Int32} {v3 : Int32} {h : AH} (z : ZZ L0 xs0 h) : B_X7_mostAlike_12 Q K12 v0 v1 v2 v3 h → B_X7_mostAlike_12 Q' K12' v0 v1 v2 v3 h := by
  unfold B_X7_mostAlike_12
  repeat' first
    | with_reducible exact hQ _ _ (by assumption)
    | with_reducible exact hK12 _ _ _ (by assumption)
    | with_reducible refine zm_and ?_ ?_
    | with_reducible refine zm_gI (fun x => ?_)
    | with_reducible refine zm_gR (fun x => ?_)
    | with_reducible refine zm_lI (fun x => ?_)
    | with_reducible refine zm_sI (by assumption) (fun h1 z1 => ?_)
    | with_reducible refine z_f_X5_leastAt (fun y0 h1 z1 => ?_) (by assumption)
    | with_reducible refine z_f_X7_endAt (fun y0 h1 z1 => ?_) (by assumption)
    | with_reducible refine zm_imp (fun _ => ?_)
    | with_reducible exact id
theorem z_L_X7_mostAlike_12 {L0 : Nat} {xs0 : Nat → Int32} {Q Q' : Int32 → AH → Prop} (hQ : ∀ (y0 : Int32) (h : AH), ZZ L0 xs0 h → Q y0 h → Q' y0 h) {v0 : Nat} {v1 : Int32} : ∀ (n : Nat) (w0 : Int32) (w1 : Int32) (h : AH), ZZ L0 xs0 h → L_X7_mostAlike_12 Q v0 v1 n w0 w1 h → L_X7_mostAlike_12 Q' v0 v1 n w0 w1 h := by
  intro n
  induction n with
  | zero => intro w0 w1 h z H; exact H.elim
  | succ n ih => intro w0 w1 h z; exact z_B_X7_mostAlike_12 hQ ih z
theorem z_f_X7_mostAlike {L0 : Nat} {xs0 : Nat → Int32} {Q Q' : Int32 → AH → Prop} (hQ : ∀ (y0 : Int32) (h : AH), ZZ L0 xs0 h → Q y0 h → Q' y0 h) {v0 : Nat} {v1 : Int32} {h : AH} (z : ZZ L0 xs0 h) : f_X7_mostAlike v0 v1 h Q → f_X7_mostAlike v0 v1 h Q' := by
  unfold f_X7_mostAlike
  repeat' first
    | with_reducible exact hQ _ _ (by assumption)
    | with_reducible refine zm_and ?_ ?_
    | with_reducible refine zm_gR (fun x => ?_)
    | with_reducible refine zm_ex (fun x => ?_)
    | with_reducible refine z_L_X7_mostAlike_12 (fun y0 h1 z1 => ?_) _ _ _ _ (by assumption)
    | with_reducible refine z_f_J7_fill_53178 (fun  h1 z1 => ?_) (by assumption)
    | with_reducible refine zm_imp (fun _ => ?_)
    | with_reducible exact id
theorem z_B_X11_look_66 {L0 : Nat} {xs0 : Nat → Int32} {Q Q' : Int32 → AH → Prop} {K66 K66' : Int32 → Int32 → Int32 → AH → Prop} (hQ : ∀ (y0 : Int32) (h : AH), ZZ L0 xs0 h → Q y0 h → Q' y0 h) (hK66 : ∀ (y0 : Int32) (y1 : Int32) (y2 : Int32) (h : AH), ZZ L0 xs0 h → K66 y0 y1 y2 h → K66' y0 y1 y2 h) {v0 : Nat} {v2 : Int32} {v3 : Int32} {v4 : Int32} {h : AH} (z : ZZ L0 xs0 h) : B_X11_look_66 Q K66 v0 v2 v3 v4 h → B_X11_look_66 Q' K66' v0 v2 v3 v4 h := by
  unfold B_X11_look_66
  repeat' first
    | with_reducible exact hQ _ _ (by assumption)
    | with_reducible exact hK66 _ _ _ _ (by assumption)
    | with_reducible refine zm_and ?_ ?_
    | with_reducible refine zm_gI (fun x => ?_)
    | with_reducible refine zm_gR (fun x => ?_)
    | with_reducible refine zm_pF (by assumption) (fun h1 z1 => ?_)
    | with_reducible refine z_f_X7_mostAlike (fun y0 h1 z1 => ?_) (by assumption)
    | with_reducible refine zm_imp (fun _ => ?_)
    | with_reducible exact id
theorem z_L_X11_look_66 {L0 : Nat} {xs0 : Nat → Int32} {Q Q' : Int32 → AH → Prop} (hQ : ∀ (y0 : Int32) (h : AH), ZZ L0 xs0 h → Q y0 h → Q' y0 h) {v0 : Nat} : ∀ (n : Nat) (w0 : Int32) (w1 : Int32) (w2 : Int32) (h : AH), ZZ L0 xs0 h → L_X11_look_66 Q v0 n w0 w1 w2 h → L_X11_look_66 Q' v0 n w0 w1 w2 h := by
  intro n
  induction n with
  | zero => intro w0 w1 w2 h z H; exact H.elim
  | succ n ih => intro w0 w1 w2 h z; exact z_B_X11_look_66 hQ ih z
theorem z_f_X11_look {L0 : Nat} {xs0 : Nat → Int32} {Q Q' : Int32 → AH → Prop} (hQ : ∀ (y0 : Int32) (h : AH), ZZ L0 xs0 h → Q y0 h → Q' y0 h) {v0 : Nat} {v1 : Int32} {h : AH} (z : ZZ L0 xs0 h) : f_X11_look v0 v1 h Q → f_X11_look v0 v1 h Q' := by
  unfold f_X11_look
  repeat' first
    | with_reducible exact hQ _ _ (by assumption)
    | with_reducible refine zm_and ?_ ?_
    | with_reducible refine zm_gI (fun x => ?_)
    | with_reducible refine zm_gR (fun x => ?_)
    | with_reducible refine zm_ex (fun x => ?_)
    | with_reducible refine z_L_X11_look_66 (fun y0 h1 z1 => ?_) _ _ _ _ _ (by assumption)
    | with_reducible refine z_f_X7_from (fun  h1 z1 => ?_) (by assumption)
    | with_reducible refine z_f_X7_gatherEnds (fun y0 h1 z1 => ?_) (by assumption)
    | with_reducible refine z_f_X7_mostAlike (fun y0 h1 z1 => ?_) (by assumption)
    | with_reducible refine zm_imp (fun _ => ?_)
    | with_reducible exact id
theorem z_B_X12_look_65 {L0 : Nat} {xs0 : Nat → Int32} {Q Q' : Int32 → AH → Prop} {K52 K52' : Int32 → Int32 → AH → Prop} {K65 K65' : Int32 → Int32 → AH → Prop} (hQ : ∀ (y0 : Int32) (h : AH), ZZ L0 xs0 h → Q y0 h → Q' y0 h) (hK52 : ∀ (y0 : Int32) (y1 : Int32) (h : AH), ZZ L0 xs0 h → K52 y0 y1 h → K52' y0 y1 h) (hK65 : ∀ (y0 : Int32) (y1 : Int32) (h : AH), ZZ L0 xs0 h → K65 y0 y1 h → K65' y0 y1 h) {v0 : Nat} {v2 : Int32} {v3 : Int32} {v4 : Int32} {v5 : Int32} {v6 : Int32} {v7 : Int32} {v8 : Int32} {h : AH} (z : ZZ L0 xs0 h) : B_X12_look_65 Q K52 K65 v0 v2 v3 v4 v5 v6 v7 v8 h → B_X12_look_65 Q' K52' K65' v0 v2 v3 v4 v5 v6 v7 v8 h := by
  unfold B_X12_look_65
  repeat' first
    | with_reducible exact hQ _ _ (by assumption)
    | with_reducible exact hK52 _ _ _ (by assumption)
    | with_reducible exact hK65 _ _ _ (by assumption)
    | with_reducible refine zm_and ?_ ?_
    | with_reducible refine zm_gI (fun x => ?_)
    | with_reducible refine zm_gR (fun x => ?_)
    | with_reducible refine zm_lI (fun x => ?_)
    | with_reducible refine z_f_X12_seen (fun y0 h1 z1 => ?_) (by assumption)
    | with_reducible refine zm_imp (fun _ => ?_)
    | with_reducible exact id
theorem z_L_X12_look_65 {L0 : Nat} {xs0 : Nat → Int32} {Q Q' : Int32 → AH → Prop} {K52 K52' : Int32 → Int32 → AH → Prop} (hQ : ∀ (y0 : Int32) (h : AH), ZZ L0 xs0 h → Q y0 h → Q' y0 h) (hK52 : ∀ (y0 : Int32) (y1 : Int32) (h : AH), ZZ L0 xs0 h → K52 y0 y1 h → K52' y0 y1 h) {v0 : Nat} {v2 : Int32} {v3 : Int32} {v4 : Int32} {v5 : Int32} {v6 : Int32} : ∀ (n : Nat) (w0 : Int32) (w1 : Int32) (h : AH), ZZ L0 xs0 h → L_X12_look_65 Q K52 v0 v2 v3 v4 v5 v6 n w0 w1 h → L_X12_look_65 Q' K52' v0 v2 v3 v4 v5 v6 n w0 w1 h := by
  intro n
  induction n with
  | zero => intro w0 w1 h z H; exact H.elim
  | succ n ih => intro w0 w1 h z; exact z_B_X12_look_65 hQ hK52 ih z
theorem z_B_X12_look_142 {L0 : Nat} {xs0 : Nat → Int32} {Q Q' : Int32 → AH → Prop} {K37 K37' : Int32 → Int32 → Int32 → AH → Prop} (hQ : ∀ (y0 : Int32) (h : AH), ZZ L0 xs0 h → Q y0 h → Q' y0 h) (hK37 : ∀ (y0 : Int32) (y1 : Int32) (y2 : Int32) (h : AH), ZZ L0 xs0 h → K37 y0 y1 y2 h → K37' y0 y1 y2 h) {v0 : Nat} {v4 : Int32} {v5 : Int32} {h : AH} (z : ZZ L0 xs0 h) : B_X12_look_142 Q K37 v0 v4 v5 h → B_X12_look_142 Q' K37' v0 v4 v5 h := by
  unfold B_X12_look_142
  repeat' first
    | with_reducible exact hQ _ _ (by assumption)
    | with_reducible exact hK37 _ _ _ _ (by assumption)
    | with_reducible refine zm_and ?_ ?_
    | with_reducible refine zm_imp (fun _ => ?_)
    | with_reducible exact id
theorem z_B_X12_look_52 {L0 : Nat} {xs0 : Nat → Int32} {Q Q' : Int32 → AH → Prop} {K37 K37' : Int32 → Int32 → Int32 → AH → Prop} {K52 K52' : Int32 → Int32 → AH → Prop} (hQ : ∀ (y0 : Int32) (h : AH), ZZ L0 xs0 h → Q y0 h → Q' y0 h) (hK37 : ∀ (y0 : Int32) (y1 : Int32) (y2 : Int32) (h : AH), ZZ L0 xs0 h → K37 y0 y1 y2 h → K37' y0 y1 y2 h) (hK52 : ∀ (y0 : Int32) (y1 : Int32) (h : AH), ZZ L0 xs0 h → K52 y0 y1 h → K52' y0 y1 h) {v0 : Nat} {v2 : Int32} {v3 : Int32} {v4 : Int32} {v5 : Int32} {v6 : Int32} {h : AH} (z : ZZ L0 xs0 h) : B_X12_look_52 Q K37 K52 v0 v2 v3 v4 v5 v6 h → B_X12_look_52 Q' K37' K52' v0 v2 v3 v4 v5 v6 h := by
  unfold B_X12_look_52
  repeat' first
    | with_reducible exact hQ _ _ (by assumption)
    | with_reducible exact hK37 _ _ _ _ (by assumption)
    | with_reducible exact hK52 _ _ _ (by assumption)
    | with_reducible refine zm_and ?_ ?_
    | with_reducible refine zm_ex (fun x => ?_)
    | with_reducible refine z_B_X12_look_142 (fun y0 h1 z1 => ?_) (fun y0 y1 y2 h1 z1 => ?_) (by assumption)
    | with_reducible refine z_L_X12_look_65 (fun y0 h1 z1 => ?_) (fun y0 y1 h1 z1 => ?_) _ _ _ _ (by assumption)
    | with_reducible refine zm_imp (fun _ => ?_)
    | with_reducible exact id
theorem z_L_X12_look_52 {L0 : Nat} {xs0 : Nat → Int32} {Q Q' : Int32 → AH → Prop} {K37 K37' : Int32 → Int32 → Int32 → AH → Prop} (hQ : ∀ (y0 : Int32) (h : AH), ZZ L0 xs0 h → Q y0 h → Q' y0 h) (hK37 : ∀ (y0 : Int32) (y1 : Int32) (y2 : Int32) (h : AH), ZZ L0 xs0 h → K37 y0 y1 y2 h → K37' y0 y1 y2 h) {v0 : Nat} {v2 : Int32} {v3 : Int32} {v4 : Int32} : ∀ (n : Nat) (w0 : Int32) (w1 : Int32) (h : AH), ZZ L0 xs0 h → L_X12_look_52 Q K37 v0 v2 v3 v4 n w0 w1 h → L_X12_look_52 Q' K37' v0 v2 v3 v4 n w0 w1 h := by
  intro n
  induction n with
  | zero => intro w0 w1 h z H; exact H.elim
  | succ n ih => intro w0 w1 h z; exact z_B_X12_look_52 hQ hK37 ih z
theorem z_B_X12_look_37 {L0 : Nat} {xs0 : Nat → Int32} {Q Q' : Int32 → AH → Prop} {K37 K37' : Int32 → Int32 → Int32 → AH → Prop} (hQ : ∀ (y0 : Int32) (h : AH), ZZ L0 xs0 h → Q y0 h → Q' y0 h) (hK37 : ∀ (y0 : Int32) (y1 : Int32) (y2 : Int32) (h : AH), ZZ L0 xs0 h → K37 y0 y1 y2 h → K37' y0 y1 y2 h) {v0 : Nat} {v2 : Int32} {v3 : Int32} {v4 : Int32} {h : AH} (z : ZZ L0 xs0 h) : B_X12_look_37 Q K37 v0 v2 v3 v4 h → B_X12_look_37 Q' K37' v0 v2 v3 v4 h := by
  unfold B_X12_look_37
  repeat' first
    | with_reducible exact hQ _ _ (by assumption)
    | with_reducible exact hK37 _ _ _ _ (by assumption)
    | with_reducible refine zm_and ?_ ?_
    | with_reducible refine zm_gI (fun x => ?_)
    | with_reducible refine zm_pF (by assumption) (fun h1 z1 => ?_)
    | with_reducible refine zm_ex (fun x => ?_)
    | with_reducible refine z_L_X12_look_52 (fun y0 h1 z1 => ?_) (fun y0 y1 y2 h1 z1 => ?_) _ _ _ _ (by assumption)
    | with_reducible refine zm_imp (fun _ => ?_)
    | with_reducible exact id
theorem z_L_X12_look_37 {L0 : Nat} {xs0 : Nat → Int32} {Q Q' : Int32 → AH → Prop} (hQ : ∀ (y0 : Int32) (h : AH), ZZ L0 xs0 h → Q y0 h → Q' y0 h) {v0 : Nat} : ∀ (n : Nat) (w0 : Int32) (w1 : Int32) (w2 : Int32) (h : AH), ZZ L0 xs0 h → L_X12_look_37 Q v0 n w0 w1 w2 h → L_X12_look_37 Q' v0 n w0 w1 w2 h := by
  intro n
  induction n with
  | zero => intro w0 w1 w2 h z H; exact H.elim
  | succ n ih => intro w0 w1 w2 h z; exact z_B_X12_look_37 hQ ih z
theorem z_f_X12_look {L0 : Nat} {xs0 : Nat → Int32} {Q Q' : Int32 → AH → Prop} (hQ : ∀ (y0 : Int32) (h : AH), ZZ L0 xs0 h → Q y0 h → Q' y0 h) {v0 : Nat} {v1 : Int32} {h : AH} (z : ZZ L0 xs0 h) : f_X12_look v0 v1 h Q → f_X12_look v0 v1 h Q' := by
  unfold f_X12_look
  repeat' first
    | with_reducible exact hQ _ _ (by assumption)
    | with_reducible refine zm_and ?_ ?_
    | with_reducible refine zm_gI (fun x => ?_)
    | with_reducible refine zm_ex (fun x => ?_)
    | with_reducible refine z_L_X12_look_37 (fun y0 h1 z1 => ?_) _ _ _ _ _ (by assumption)
    | with_reducible refine z_f_X12_in (fun y0 h1 z1 => ?_) (by assumption)
    | with_reducible refine z_f_X12_meets (fun  h1 z1 => ?_) (by assumption)
    | with_reducible refine zm_imp (fun _ => ?_)
    | with_reducible exact id
theorem z_B_X7_clearRoom_42 {L0 : Nat} {xs0 : Nat → Int32} {Q Q' : AH → Prop} (hQ : ∀ (h : AH), ZZ L0 xs0 h → Q  h → Q'  h) {v0 : Nat} {h : AH} (z : ZZ L0 xs0 h) : B_X7_clearRoom_42 Q v0 h → B_X7_clearRoom_42 Q' v0 h := by
  unfold B_X7_clearRoom_42
  repeat' first
    | with_reducible exact hQ _ (by assumption)
    | with_reducible refine zm_and ?_ ?_
    | with_reducible refine zm_gR (fun x => ?_)
    | with_reducible refine z_f_J7_fill_53178 (fun  h1 z1 => ?_) (by assumption)
    | with_reducible refine zm_imp (fun _ => ?_)
    | with_reducible exact id
theorem z_f_X7_clearRoom {L0 : Nat} {xs0 : Nat → Int32} {Q Q' : AH → Prop} (hQ : ∀ (h : AH), ZZ L0 xs0 h → Q  h → Q'  h) {v0 : Nat} {h : AH} (z : ZZ L0 xs0 h) : f_X7_clearRoom v0 h Q → f_X7_clearRoom v0 h Q' := by
  unfold f_X7_clearRoom
  repeat' first
    | with_reducible exact hQ _ (by assumption)
    | with_reducible refine zm_and ?_ ?_
    | with_reducible refine zm_gI (fun x => ?_)
    | with_reducible refine zm_gR (fun x => ?_)
    | with_reducible refine zm_aL (fun x => ?_)
    | with_reducible refine zm_pF (by assumption) (fun h1 z1 => ?_)
    | with_reducible refine zm_nA (by assumption) (fun a1 h1 z1 => ?_)
    | with_reducible refine z_B_X7_clearRoom_42 (fun  h1 z1 => ?_) (by assumption)
    | with_reducible refine zm_imp (fun _ => ?_)
    | with_reducible exact id
theorem z_f_X7_isIn {L0 : Nat} {xs0 : Nat → Int32} {Q Q' : Int32 → AH → Prop} (hQ : ∀ (y0 : Int32) (h : AH), ZZ L0 xs0 h → Q y0 h → Q' y0 h) {v0 : Nat} {v1 : Int32} {h : AH} (z : ZZ L0 xs0 h) : f_X7_isIn v0 v1 h Q → f_X7_isIn v0 v1 h Q' := by
  unfold f_X7_isIn
  repeat' first
    | with_reducible exact hQ _ _ (by assumption)
    | with_reducible refine zm_and ?_ ?_
    | with_reducible refine zm_gR (fun x => ?_)
    | with_reducible refine zm_aL (fun x => ?_)
    | with_reducible refine zm_imp (fun _ => ?_)
    | with_reducible exact id
theorem z_f_X7_reach {L0 : Nat} {xs0 : Nat → Int32} {Q Q' : AH → Prop} (hQ : ∀ (h : AH), ZZ L0 xs0 h → Q  h → Q'  h) {v0 : Nat} {v1 : Int32} {v2 : Int32} {v3 : Int32} {h : AH} (z : ZZ L0 xs0 h) : f_X7_reach v0 v1 v2 v3 h Q → f_X7_reach v0 v1 v2 v3 h Q' := by
  unfold f_X7_reach
  repeat' first
    | with_reducible exact hQ _ (by assumption)
    | with_reducible refine zm_and ?_ ?_
    | with_reducible refine zm_gI (fun x => ?_)
    | with_reducible refine zm_gR (fun x => ?_)
    | with_reducible refine zm_lI (fun x => ?_)
    | with_reducible refine zm_aL (fun x => ?_)
    | with_reducible refine zm_pF (by assumption) (fun h1 z1 => ?_)
    | with_reducible refine zm_sI (by assumption) (fun h1 z1 => ?_)
    | with_reducible refine z_f_X7_isIn (fun y0 h1 z1 => ?_) (by assumption)
    | with_reducible refine zm_imp (fun _ => ?_)
    | with_reducible exact id
theorem z_f_X7_farTo {L0 : Nat} {xs0 : Nat → Int32} {Q Q' : Int32 → AH → Prop} (hQ : ∀ (y0 : Int32) (h : AH), ZZ L0 xs0 h → Q y0 h → Q' y0 h) {v0 : Nat} {v1 : Int32} {h : AH} (z : ZZ L0 xs0 h) : f_X7_farTo v0 v1 h Q → f_X7_farTo v0 v1 h Q' := by
  unfold f_X7_farTo
  repeat' first
    | with_reducible exact hQ _ _ (by assumption)
    | with_reducible refine zm_and ?_ ?_
    | with_reducible refine zm_gR (fun x => ?_)
    | with_reducible refine zm_lI (fun x => ?_)
    | with_reducible refine z_f_X7_isIn (fun y0 h1 z1 => ?_) (by assumption)
    | with_reducible refine zm_imp (fun _ => ?_)
    | with_reducible exact id
theorem z_B_X7_explore_60 {L0 : Nat} {xs0 : Nat → Int32} {Q Q' : AH → Prop} {K34 K34' : Int32 → AH → Prop} {K60 K60' : Int32 → AH → Prop} (hQ : ∀ (h : AH), ZZ L0 xs0 h → Q  h → Q'  h) (hK34 : ∀ (y0 : Int32) (h : AH), ZZ L0 xs0 h → K34 y0 h → K34' y0 h) (hK60 : ∀ (y0 : Int32) (h : AH), ZZ L0 xs0 h → K60 y0 h → K60' y0 h) {v0 : Nat} {v1 : Int32} {v2 : Int32} {v3 : Int32} {h : AH} (z : ZZ L0 xs0 h) : B_X7_explore_60 Q K34 K60 v0 v1 v2 v3 h → B_X7_explore_60 Q' K34' K60' v0 v1 v2 v3 h := by
  unfold B_X7_explore_60
  repeat' first
    | with_reducible exact hQ _ (by assumption)
    | with_reducible exact hK34 _ _ (by assumption)
    | with_reducible exact hK60 _ _ (by assumption)
    | with_reducible refine zm_and ?_ ?_
    | with_reducible refine zm_gI (fun x => ?_)
    | with_reducible refine zm_gR (fun x => ?_)
    | with_reducible refine z_f_X7_farTo (fun y0 h1 z1 => ?_) (by assumption)
    | with_reducible refine z_f_X7_reach (fun  h1 z1 => ?_) (by assumption)
    | with_reducible refine z_f_X9_begin (fun  h1 z1 => ?_) (by assumption)
    | with_reducible refine z_f_X9_send (fun  h1 z1 => ?_) (by assumption)
    | with_reducible refine zm_imp (fun _ => ?_)
    | with_reducible exact id
theorem z_L_X7_explore_60 {L0 : Nat} {xs0 : Nat → Int32} {Q Q' : AH → Prop} {K34 K34' : Int32 → AH → Prop} (hQ : ∀ (h : AH), ZZ L0 xs0 h → Q  h → Q'  h) (hK34 : ∀ (y0 : Int32) (h : AH), ZZ L0 xs0 h → K34 y0 h → K34' y0 h) {v0 : Nat} {v1 : Int32} {v2 : Int32} : ∀ (n : Nat) (w0 : Int32) (h : AH), ZZ L0 xs0 h → L_X7_explore_60 Q K34 v0 v1 v2 n w0 h → L_X7_explore_60 Q' K34' v0 v1 v2 n w0 h := by
  intro n
  induction n with
  | zero => intro w0 h z H; exact H.elim
  | succ n ih => intro w0 h z; exact z_B_X7_explore_60 hQ hK34 ih z
theorem z_B_X7_explore_34 {L0 : Nat} {xs0 : Nat → Int32} {Q Q' : AH → Prop} {K34 K34' : Int32 → AH → Prop} (hQ : ∀ (h : AH), ZZ L0 xs0 h → Q  h → Q'  h) (hK34 : ∀ (y0 : Int32) (h : AH), ZZ L0 xs0 h → K34 y0 h → K34' y0 h) {v0 : Nat} {v1 : Int32} {h : AH} (z : ZZ L0 xs0 h) : B_X7_explore_34 Q K34 v0 v1 h → B_X7_explore_34 Q' K34' v0 v1 h := by
  unfold B_X7_explore_34
  repeat' first
    | with_reducible exact hQ _ (by assumption)
    | with_reducible exact hK34 _ _ (by assumption)
    | with_reducible refine zm_and ?_ ?_
    | with_reducible refine zm_gI (fun x => ?_)
    | with_reducible refine zm_gR (fun x => ?_)
    | with_reducible refine zm_lI (fun x => ?_)
    | with_reducible refine zm_aL (fun x => ?_)
    | with_reducible refine zm_ex (fun x => ?_)
    | with_reducible refine z_L_X7_explore_60 (fun  h1 z1 => ?_) (fun y0 h1 z1 => ?_) _ _ _ (by assumption)
    | with_reducible refine zm_imp (fun _ => ?_)
    | with_reducible exact id
theorem z_L_X7_explore_34 {L0 : Nat} {xs0 : Nat → Int32} {Q Q' : AH → Prop} (hQ : ∀ (h : AH), ZZ L0 xs0 h → Q  h → Q'  h) {v0 : Nat} : ∀ (n : Nat) (w0 : Int32) (h : AH), ZZ L0 xs0 h → L_X7_explore_34 Q v0 n w0 h → L_X7_explore_34 Q' v0 n w0 h := by
  intro n
  induction n with
  | zero => intro w0 h z H; exact H.elim
  | succ n ih => intro w0 h z; exact z_B_X7_explore_34 hQ ih z
theorem z_f_X7_explore {L0 : Nat} {xs0 : Nat → Int32} {Q Q' : AH → Prop} (hQ : ∀ (h : AH), ZZ L0 xs0 h → Q  h → Q'  h) {v0 : Nat} {h : AH} (z : ZZ L0 xs0 h) : f_X7_explore v0 h Q → f_X7_explore v0 h Q' := by
  unfold f_X7_explore
  repeat' first
    | with_reducible exact hQ _ (by assumption)
    | with_reducible refine zm_and ?_ ?_
    | with_reducible refine zm_gI (fun x => ?_)
    | with_reducible refine zm_pF (by assumption) (fun h1 z1 => ?_)
    | with_reducible refine zm_ex (fun x => ?_)
    | with_reducible refine z_L_X7_explore_34 (fun  h1 z1 => ?_) _ _ _ (by assumption)
    | with_reducible refine z_f_X7_clearRoom (fun  h1 z1 => ?_) (by assumption)
    | with_reducible refine z_f_X7_reach (fun  h1 z1 => ?_) (by assumption)
    | with_reducible refine zm_imp (fun _ => ?_)
    | with_reducible exact id
theorem z_f_X5_isAllHome {L0 : Nat} {xs0 : Nat → Int32} {Q Q' : Int32 → AH → Prop} (hQ : ∀ (y0 : Int32) (h : AH), ZZ L0 xs0 h → Q y0 h → Q' y0 h) {v0 : Nat} {v1 : Int32} {h : AH} (z : ZZ L0 xs0 h) : f_X5_isAllHome v0 v1 h Q → f_X5_isAllHome v0 v1 h Q' := by
  unfold f_X5_isAllHome
  repeat' first
    | with_reducible exact hQ _ _ (by assumption)
    | with_reducible refine zm_and ?_ ?_
    | with_reducible refine zm_gI (fun x => ?_)
    | with_reducible refine zm_imp (fun _ => ?_)
    | with_reducible exact id
theorem z_B_X7_firstHome_6 {L0 : Nat} {xs0 : Nat → Int32} {Q Q' : Int32 → AH → Prop} {K6 K6' : Int32 → AH → Prop} (hQ : ∀ (y0 : Int32) (h : AH), ZZ L0 xs0 h → Q y0 h → Q' y0 h) (hK6 : ∀ (y0 : Int32) (h : AH), ZZ L0 xs0 h → K6 y0 h → K6' y0 h) {v0 : Nat} {v1 : Int32} {h : AH} (z : ZZ L0 xs0 h) : B_X7_firstHome_6 Q K6 v0 v1 h → B_X7_firstHome_6 Q' K6' v0 v1 h := by
  unfold B_X7_firstHome_6
  repeat' first
    | with_reducible exact hQ _ _ (by assumption)
    | with_reducible exact hK6 _ _ (by assumption)
    | with_reducible refine zm_and ?_ ?_
    | with_reducible refine zm_gI (fun x => ?_)
    | with_reducible refine zm_gR (fun x => ?_)
    | with_reducible refine zm_lI (fun x => ?_)
    | with_reducible refine zm_aL (fun x => ?_)
    | with_reducible refine z_f_X5_isAllHome (fun y0 h1 z1 => ?_) (by assumption)
    | with_reducible refine zm_imp (fun _ => ?_)
    | with_reducible exact id
theorem z_L_X7_firstHome_6 {L0 : Nat} {xs0 : Nat → Int32} {Q Q' : Int32 → AH → Prop} (hQ : ∀ (y0 : Int32) (h : AH), ZZ L0 xs0 h → Q y0 h → Q' y0 h) {v0 : Nat} : ∀ (n : Nat) (w0 : Int32) (h : AH), ZZ L0 xs0 h → L_X7_firstHome_6 Q v0 n w0 h → L_X7_firstHome_6 Q' v0 n w0 h := by
  intro n
  induction n with
  | zero => intro w0 h z H; exact H.elim
  | succ n ih => intro w0 h z; exact z_B_X7_firstHome_6 hQ ih z
theorem z_f_X7_firstHome {L0 : Nat} {xs0 : Nat → Int32} {Q Q' : Int32 → AH → Prop} (hQ : ∀ (y0 : Int32) (h : AH), ZZ L0 xs0 h → Q y0 h → Q' y0 h) {v0 : Nat} {h : AH} (z : ZZ L0 xs0 h) : f_X7_firstHome v0 h Q → f_X7_firstHome v0 h Q' := by
  unfold f_X7_firstHome
  repeat' first
    | with_reducible exact hQ _ _ (by assumption)
    | with_reducible refine zm_and ?_ ?_
    | with_reducible refine zm_ex (fun x => ?_)
    | with_reducible refine z_L_X7_firstHome_6 (fun y0 h1 z1 => ?_) _ _ _ (by assumption)
    | with_reducible refine z_f_X7_explore (fun  h1 z1 => ?_) (by assumption)
    | with_reducible refine zm_imp (fun _ => ?_)
    | with_reducible exact id
theorem z_B_X7_homesAsNear_4 {L0 : Nat} {xs0 : Nat → Int32} {Q Q' : Int32 → AH → Prop} {K4 K4' : Int32 → Int32 → AH → Prop} (hQ : ∀ (y0 : Int32) (h : AH), ZZ L0 xs0 h → Q y0 h → Q' y0 h) (hK4 : ∀ (y0 : Int32) (y1 : Int32) (h : AH), ZZ L0 xs0 h → K4 y0 y1 h → K4' y0 y1 h) {v0 : Nat} {v1 : Int32} {v2 : Int32} {v3 : Int32} {h : AH} (z : ZZ L0 xs0 h) : B_X7_homesAsNear_4 Q K4 v0 v1 v2 v3 h → B_X7_homesAsNear_4 Q' K4' v0 v1 v2 v3 h := by
  unfold B_X7_homesAsNear_4
  repeat' first
    | with_reducible exact hQ _ _ (by assumption)
    | with_reducible exact hK4 _ _ _ (by assumption)
    | with_reducible refine zm_and ?_ ?_
    | with_reducible refine zm_gI (fun x => ?_)
    | with_reducible refine zm_gR (fun x => ?_)
    | with_reducible refine zm_lI (fun x => ?_)
    | with_reducible refine zm_aL (fun x => ?_)
    | with_reducible refine z_f_X5_isAllHome (fun y0 h1 z1 => ?_) (by assumption)
    | with_reducible refine z_f_X7_farTo (fun y0 h1 z1 => ?_) (by assumption)
    | with_reducible refine zm_imp (fun _ => ?_)
    | with_reducible exact id
theorem z_L_X7_homesAsNear_4 {L0 : Nat} {xs0 : Nat → Int32} {Q Q' : Int32 → AH → Prop} (hQ : ∀ (y0 : Int32) (h : AH), ZZ L0 xs0 h → Q y0 h → Q' y0 h) {v0 : Nat} {v1 : Int32} : ∀ (n : Nat) (w0 : Int32) (w1 : Int32) (h : AH), ZZ L0 xs0 h → L_X7_homesAsNear_4 Q v0 v1 n w0 w1 h → L_X7_homesAsNear_4 Q' v0 v1 n w0 w1 h := by
  intro n
  induction n with
  | zero => intro w0 w1 h z H; exact H.elim
  | succ n ih => intro w0 w1 h z; exact z_B_X7_homesAsNear_4 hQ ih z
theorem z_f_X7_homesAsNear {L0 : Nat} {xs0 : Nat → Int32} {Q Q' : Int32 → AH → Prop} (hQ : ∀ (y0 : Int32) (h : AH), ZZ L0 xs0 h → Q y0 h → Q' y0 h) {v0 : Nat} {v1 : Int32} {h : AH} (z : ZZ L0 xs0 h) : f_X7_homesAsNear v0 v1 h Q → f_X7_homesAsNear v0 v1 h Q' := by
  unfold f_X7_homesAsNear
  repeat' first
    | with_reducible exact hQ _ _ (by assumption)
    | with_reducible refine zm_and ?_ ?_
    | with_reducible refine zm_ex (fun x => ?_)
    | with_reducible refine z_L_X7_homesAsNear_4 (fun y0 h1 z1 => ?_) _ _ _ _ (by assumption)
    | with_reducible refine zm_imp (fun _ => ?_)
    | with_reducible exact id
theorem z_f_X11_fewest {L0 : Nat} {xs0 : Nat → Int32} {Q Q' : Int32 → AH → Prop} (hQ : ∀ (y0 : Int32) (h : AH), ZZ L0 xs0 h → Q y0 h → Q' y0 h) {v0 : Nat} {h : AH} (z : ZZ L0 xs0 h) : f_X11_fewest v0 h Q → f_X11_fewest v0 h Q' := by
  unfold f_X11_fewest
  repeat' first
    | with_reducible exact hQ _ _ (by assumption)
    | with_reducible refine zm_and ?_ ?_
    | with_reducible refine zm_gI (fun x => ?_)
    | with_reducible refine zm_gR (fun x => ?_)
    | with_reducible refine zm_pF (by assumption) (fun h1 z1 => ?_)
    | with_reducible refine z_f_X7_farTo (fun y0 h1 z1 => ?_) (by assumption)
    | with_reducible refine z_f_X7_firstHome (fun y0 h1 z1 => ?_) (by assumption)
    | with_reducible refine z_f_X7_from (fun  h1 z1 => ?_) (by assumption)
    | with_reducible refine z_f_X7_homesAsNear (fun y0 h1 z1 => ?_) (by assumption)
    | with_reducible refine zm_imp (fun _ => ?_)
    | with_reducible exact id
theorem z_B_X12_goesOut_66 {L0 : Nat} {xs0 : Nat → Int32} {Q Q' : AH → Prop} {K48 K48' : Int32 → AH → Prop} {K66 K66' : Int32 → AH → Prop} (hQ : ∀ (h : AH), ZZ L0 xs0 h → Q  h → Q'  h) (hK48 : ∀ (y0 : Int32) (h : AH), ZZ L0 xs0 h → K48 y0 h → K48' y0 h) (hK66 : ∀ (y0 : Int32) (h : AH), ZZ L0 xs0 h → K66 y0 h → K66' y0 h) {v0 : Nat} {v1 : Int32} {v2 : Int32} {v3 : Int32} {v4 : Int32} {h : AH} (z : ZZ L0 xs0 h) : B_X12_goesOut_66 Q K48 K66 v0 v1 v2 v3 v4 h → B_X12_goesOut_66 Q' K48' K66' v0 v1 v2 v3 v4 h := by
  unfold B_X12_goesOut_66
  repeat' first
    | with_reducible exact hQ _ (by assumption)
    | with_reducible exact hK48 _ _ (by assumption)
    | with_reducible exact hK66 _ _ (by assumption)
    | with_reducible refine zm_and ?_ ?_
    | with_reducible refine zm_gI (fun x => ?_)
    | with_reducible refine zm_gR (fun x => ?_)
    | with_reducible refine zm_lI (fun x => ?_)
    | with_reducible refine zm_pF (by assumption) (fun h1 z1 => ?_)
    | with_reducible refine zm_sI (by assumption) (fun h1 z1 => ?_)
    | with_reducible refine z_f_X12_behind (fun y0 h1 z1 => ?_) (by assumption)
    | with_reducible refine zm_imp (fun _ => ?_)
    | with_reducible exact id
theorem z_L_X12_goesOut_66 {L0 : Nat} {xs0 : Nat → Int32} {Q Q' : AH → Prop} {K48 K48' : Int32 → AH → Prop} (hQ : ∀ (h : AH), ZZ L0 xs0 h → Q  h → Q'  h) (hK48 : ∀ (y0 : Int32) (h : AH), ZZ L0 xs0 h → K48 y0 h → K48' y0 h) {v0 : Nat} {v1 : Int32} {v2 : Int32} {v3 : Int32} : ∀ (n : Nat) (w0 : Int32) (h : AH), ZZ L0 xs0 h → L_X12_goesOut_66 Q K48 v0 v1 v2 v3 n w0 h → L_X12_goesOut_66 Q' K48' v0 v1 v2 v3 n w0 h := by
  intro n
  induction n with
  | zero => intro w0 h z H; exact H.elim
  | succ n ih => intro w0 h z; exact z_B_X12_goesOut_66 hQ hK48 ih z
theorem z_B_X12_goesOut_48 {L0 : Nat} {xs0 : Nat → Int32} {Q Q' : AH → Prop} {K48 K48' : Int32 → AH → Prop} (hQ : ∀ (h : AH), ZZ L0 xs0 h → Q  h → Q'  h) (hK48 : ∀ (y0 : Int32) (h : AH), ZZ L0 xs0 h → K48 y0 h → K48' y0 h) {v0 : Nat} {v1 : Int32} {v2 : Int32} {h : AH} (z : ZZ L0 xs0 h) : B_X12_goesOut_48 Q K48 v0 v1 v2 h → B_X12_goesOut_48 Q' K48' v0 v1 v2 h := by
  unfold B_X12_goesOut_48
  repeat' first
    | with_reducible exact hQ _ (by assumption)
    | with_reducible exact hK48 _ _ (by assumption)
    | with_reducible refine zm_and ?_ ?_
    | with_reducible refine zm_gI (fun x => ?_)
    | with_reducible refine zm_gR (fun x => ?_)
    | with_reducible refine zm_lI (fun x => ?_)
    | with_reducible refine zm_ex (fun x => ?_)
    | with_reducible refine z_L_X12_goesOut_66 (fun  h1 z1 => ?_) (fun y0 h1 z1 => ?_) _ _ _ (by assumption)
    | with_reducible refine zm_imp (fun _ => ?_)
    | with_reducible exact id
theorem z_L_X12_goesOut_48 {L0 : Nat} {xs0 : Nat → Int32} {Q Q' : AH → Prop} (hQ : ∀ (h : AH), ZZ L0 xs0 h → Q  h → Q'  h) {v0 : Nat} {v1 : Int32} : ∀ (n : Nat) (w0 : Int32) (h : AH), ZZ L0 xs0 h → L_X12_goesOut_48 Q v0 v1 n w0 h → L_X12_goesOut_48 Q' v0 v1 n w0 h := by
  intro n
  induction n with
  | zero => intro w0 h z H; exact H.elim
  | succ n ih => intro w0 h z; exact z_B_X12_goesOut_48 hQ ih z
theorem z_B_X12_goesOut_2 {L0 : Nat} {xs0 : Nat → Int32} {Q Q' : AH → Prop} {K2 K2' : Int32 → AH → Prop} (hQ : ∀ (h : AH), ZZ L0 xs0 h → Q  h → Q'  h) (hK2 : ∀ (y0 : Int32) (h : AH), ZZ L0 xs0 h → K2 y0 h → K2' y0 h) {v0 : Nat} {v1 : Int32} {v2 : Int32} {h : AH} (z : ZZ L0 xs0 h) : B_X12_goesOut_2 Q K2 v0 v1 v2 h → B_X12_goesOut_2 Q' K2' v0 v1 v2 h := by
  unfold B_X12_goesOut_2
  repeat' first
    | with_reducible exact hQ _ (by assumption)
    | with_reducible exact hK2 _ _ (by assumption)
    | with_reducible refine zm_and ?_ ?_
    | with_reducible refine zm_gI (fun x => ?_)
    | with_reducible refine zm_gR (fun x => ?_)
    | with_reducible refine zm_pF (by assumption) (fun h1 z1 => ?_)
    | with_reducible refine zm_sI (by assumption) (fun h1 z1 => ?_)
    | with_reducible refine zm_ex (fun x => ?_)
    | with_reducible refine z_L_X12_goesOut_48 (fun  h1 z1 => ?_) _ _ _ (by assumption)
    | with_reducible refine zm_imp (fun _ => ?_)
    | with_reducible exact id
theorem z_L_X12_goesOut_2 {L0 : Nat} {xs0 : Nat → Int32} {Q Q' : AH → Prop} (hQ : ∀ (h : AH), ZZ L0 xs0 h → Q  h → Q'  h) {v0 : Nat} {v1 : Int32} : ∀ (n : Nat) (w0 : Int32) (h : AH), ZZ L0 xs0 h → L_X12_goesOut_2 Q v0 v1 n w0 h → L_X12_goesOut_2 Q' v0 v1 n w0 h := by
  intro n
  induction n with
  | zero => intro w0 h z H; exact H.elim
  | succ n ih => intro w0 h z; exact z_B_X12_goesOut_2 hQ ih z
theorem z_f_X12_goesOut {L0 : Nat} {xs0 : Nat → Int32} {Q Q' : AH → Prop} (hQ : ∀ (h : AH), ZZ L0 xs0 h → Q  h → Q'  h) {v0 : Nat} {v1 : Int32} {h : AH} (z : ZZ L0 xs0 h) : f_X12_goesOut v0 v1 h Q → f_X12_goesOut v0 v1 h Q' := by
  unfold f_X12_goesOut
  repeat' first
    | with_reducible exact hQ _ (by assumption)
    | with_reducible refine zm_and ?_ ?_
    | with_reducible refine zm_ex (fun x => ?_)
    | with_reducible refine z_L_X12_goesOut_2 (fun  h1 z1 => ?_) _ _ _ (by assumption)
    | with_reducible refine zm_imp (fun _ => ?_)
    | with_reducible exact id
theorem z_B_X12_isDone_33 {L0 : Nat} {xs0 : Nat → Int32} {Q Q' : Int32 → AH → Prop} {K4 K4' : Int32 → Int32 → AH → Prop} (hQ : ∀ (y0 : Int32) (h : AH), ZZ L0 xs0 h → Q y0 h → Q' y0 h) (hK4 : ∀ (y0 : Int32) (y1 : Int32) (h : AH), ZZ L0 xs0 h → K4 y0 y1 h → K4' y0 y1 h) {v0 : Nat} {v1 : Int32} {v3 : Int32} {h : AH} (z : ZZ L0 xs0 h) : B_X12_isDone_33 Q K4 v0 v1 v3 h → B_X12_isDone_33 Q' K4' v0 v1 v3 h := by
  unfold B_X12_isDone_33
  repeat' first
    | with_reducible exact hQ _ _ (by assumption)
    | with_reducible exact hK4 _ _ _ (by assumption)
    | with_reducible refine zm_and ?_ ?_
    | with_reducible refine zm_imp (fun _ => ?_)
    | with_reducible exact id
theorem z_B_X12_isDone_4 {L0 : Nat} {xs0 : Nat → Int32} {Q Q' : Int32 → AH → Prop} {K4 K4' : Int32 → Int32 → AH → Prop} (hQ : ∀ (y0 : Int32) (h : AH), ZZ L0 xs0 h → Q y0 h → Q' y0 h) (hK4 : ∀ (y0 : Int32) (y1 : Int32) (h : AH), ZZ L0 xs0 h → K4 y0 y1 h → K4' y0 y1 h) {v0 : Nat} {v1 : Int32} {v2 : Int32} {v3 : Int32} {h : AH} (z : ZZ L0 xs0 h) : B_X12_isDone_4 Q K4 v0 v1 v2 v3 h → B_X12_isDone_4 Q' K4' v0 v1 v2 v3 h := by
  unfold B_X12_isDone_4
  repeat' first
    | with_reducible exact hQ _ _ (by assumption)
    | with_reducible exact hK4 _ _ _ (by assumption)
    | with_reducible refine zm_and ?_ ?_
    | with_reducible refine zm_gI (fun x => ?_)
    | with_reducible refine z_B_X12_isDone_33 (fun y0 h1 z1 => ?_) (fun y0 y1 h1 z1 => ?_) (by assumption)
    | with_reducible refine z_f_X12_home (fun y0 h1 z1 => ?_) (by assumption)
    | with_reducible refine z_f_X12_isHome (fun y0 h1 z1 => ?_) (by assumption)
    | with_reducible refine zm_imp (fun _ => ?_)
    | with_reducible exact id
theorem z_L_X12_isDone_4 {L0 : Nat} {xs0 : Nat → Int32} {Q Q' : Int32 → AH → Prop} (hQ : ∀ (y0 : Int32) (h : AH), ZZ L0 xs0 h → Q y0 h → Q' y0 h) {v0 : Nat} {v1 : Int32} : ∀ (n : Nat) (w0 : Int32) (w1 : Int32) (h : AH), ZZ L0 xs0 h → L_X12_isDone_4 Q v0 v1 n w0 w1 h → L_X12_isDone_4 Q' v0 v1 n w0 w1 h := by
  intro n
  induction n with
  | zero => intro w0 w1 h z H; exact H.elim
  | succ n ih => intro w0 w1 h z; exact z_B_X12_isDone_4 hQ ih z
theorem z_f_X12_isDone {L0 : Nat} {xs0 : Nat → Int32} {Q Q' : Int32 → AH → Prop} (hQ : ∀ (y0 : Int32) (h : AH), ZZ L0 xs0 h → Q y0 h → Q' y0 h) {v0 : Nat} {v1 : Int32} {h : AH} (z : ZZ L0 xs0 h) : f_X12_isDone v0 v1 h Q → f_X12_isDone v0 v1 h Q' := by
  unfold f_X12_isDone
  repeat' first
    | with_reducible exact hQ _ _ (by assumption)
    | with_reducible refine zm_and ?_ ?_
    | with_reducible refine zm_ex (fun x => ?_)
    | with_reducible refine z_L_X12_isDone_4 (fun y0 h1 z1 => ?_) _ _ _ _ (by assumption)
    | with_reducible refine zm_imp (fun _ => ?_)
    | with_reducible exact id
theorem z_B_X12_fewestBy_44 {L0 : Nat} {xs0 : Nat → Int32} {Q Q' : Int32 → AH → Prop} {K15 K15' : Int32 → Int32 → AH → Prop} (hQ : ∀ (y0 : Int32) (h : AH), ZZ L0 xs0 h → Q y0 h → Q' y0 h) (hK15 : ∀ (y0 : Int32) (y1 : Int32) (h : AH), ZZ L0 xs0 h → K15 y0 y1 h → K15' y0 y1 h) {v0 : Nat} {v2 : Int32} {v3 : Int32} {h : AH} (z : ZZ L0 xs0 h) : B_X12_fewestBy_44 Q K15 v0 v2 v3 h → B_X12_fewestBy_44 Q' K15' v0 v2 v3 h := by
  unfold B_X12_fewestBy_44
  repeat' first
    | with_reducible exact hQ _ _ (by assumption)
    | with_reducible exact hK15 _ _ _ (by assumption)
    | with_reducible refine zm_and ?_ ?_
    | with_reducible refine zm_gI (fun x => ?_)
    | with_reducible refine zm_gR (fun x => ?_)
    | with_reducible refine zm_lI (fun x => ?_)
    | with_reducible refine zm_pF (by assumption) (fun h1 z1 => ?_)
    | with_reducible refine z_f_X12_isDone (fun y0 h1 z1 => ?_) (by assumption)
    | with_reducible refine zm_imp (fun _ => ?_)
    | with_reducible exact id
theorem z_B_X12_fewestBy_15 {L0 : Nat} {xs0 : Nat → Int32} {Q Q' : Int32 → AH → Prop} {K15 K15' : Int32 → Int32 → AH → Prop} (hQ : ∀ (y0 : Int32) (h : AH), ZZ L0 xs0 h → Q y0 h → Q' y0 h) (hK15 : ∀ (y0 : Int32) (y1 : Int32) (h : AH), ZZ L0 xs0 h → K15 y0 y1 h → K15' y0 y1 h) {v0 : Nat} {v2 : Int32} {v3 : Int32} {h : AH} (z : ZZ L0 xs0 h) : B_X12_fewestBy_15 Q K15 v0 v2 v3 h → B_X12_fewestBy_15 Q' K15' v0 v2 v3 h := by
  unfold B_X12_fewestBy_15
  repeat' first
    | with_reducible exact hQ _ _ (by assumption)
    | with_reducible exact hK15 _ _ _ (by assumption)
    | with_reducible refine zm_and ?_ ?_
    | with_reducible refine zm_gI (fun x => ?_)
    | with_reducible refine zm_gR (fun x => ?_)
    | with_reducible refine zm_lI (fun x => ?_)
    | with_reducible refine z_B_X12_fewestBy_44 (fun y0 h1 z1 => ?_) (fun y0 y1 h1 z1 => ?_) (by assumption)
    | with_reducible refine zm_imp (fun _ => ?_)
    | with_reducible exact id
theorem z_L_X12_fewestBy_15 {L0 : Nat} {xs0 : Nat → Int32} {Q Q' : Int32 → AH → Prop} (hQ : ∀ (y0 : Int32) (h : AH), ZZ L0 xs0 h → Q y0 h → Q' y0 h) {v0 : Nat} : ∀ (n : Nat) (w0 : Int32) (w1 : Int32) (h : AH), ZZ L0 xs0 h → L_X12_fewestBy_15 Q v0 n w0 w1 h → L_X12_fewestBy_15 Q' v0 n w0 w1 h := by
  intro n
  induction n with
  | zero => intro w0 w1 h z H; exact H.elim
  | succ n ih => intro w0 w1 h z; exact z_B_X12_fewestBy_15 hQ ih z
theorem z_f_X12_fewestBy {L0 : Nat} {xs0 : Nat → Int32} {Q Q' : Int32 → AH → Prop} (hQ : ∀ (y0 : Int32) (h : AH), ZZ L0 xs0 h → Q y0 h → Q' y0 h) {v0 : Nat} {v1 : Int32} {h : AH} (z : ZZ L0 xs0 h) : f_X12_fewestBy v0 v1 h Q → f_X12_fewestBy v0 v1 h Q' := by
  unfold f_X12_fewestBy
  repeat' first
    | with_reducible exact hQ _ _ (by assumption)
    | with_reducible refine zm_and ?_ ?_
    | with_reducible refine zm_pF (by assumption) (fun h1 z1 => ?_)
    | with_reducible refine zm_ex (fun x => ?_)
    | with_reducible refine z_L_X12_fewestBy_15 (fun y0 h1 z1 => ?_) _ _ _ _ (by assumption)
    | with_reducible refine z_f_X12_goesOut (fun  h1 z1 => ?_) (by assumption)
    | with_reducible refine zm_imp (fun _ => ?_)
    | with_reducible exact id
theorem z_f_X12_fewest {L0 : Nat} {xs0 : Nat → Int32} {Q Q' : Int32 → AH → Prop} (hQ : ∀ (y0 : Int32) (h : AH), ZZ L0 xs0 h → Q y0 h → Q' y0 h) {v0 : Nat} {h : AH} (z : ZZ L0 xs0 h) : f_X12_fewest v0 h Q → f_X12_fewest v0 h Q' := by
  unfold f_X12_fewest
  repeat' first
    | with_reducible exact hQ _ _ (by assumption)
    | with_reducible refine zm_and ?_ ?_
    | with_reducible refine zm_gI (fun x => ?_)
    | with_reducible refine zm_pF (by assumption) (fun h1 z1 => ?_)
    | with_reducible refine z_f_X12_fewestBy (fun y0 h1 z1 => ?_) (by assumption)
    | with_reducible refine zm_imp (fun _ => ?_)
    | with_reducible exact id
theorem z_B_X7_layWay_10 {L0 : Nat} {xs0 : Nat → Int32} {Q Q' : AH → Prop} {K10 K10' : Int32 → Int32 → AH → Prop} (hQ : ∀ (h : AH), ZZ L0 xs0 h → Q  h → Q'  h) (hK10 : ∀ (y0 : Int32) (y1 : Int32) (h : AH), ZZ L0 xs0 h → K10 y0 y1 h → K10' y0 y1 h) {v0 : Nat} {v2 : Nat} {v3 : Int32} {v4 : Int32} {h : AH} (z : ZZ L0 xs0 h) : B_X7_layWay_10 Q K10 v0 v2 v3 v4 h → B_X7_layWay_10 Q' K10' v0 v2 v3 v4 h := by
  unfold B_X7_layWay_10
  repeat' first
    | with_reducible exact hQ _ (by assumption)
    | with_reducible exact hK10 _ _ _ (by assumption)
    | with_reducible refine zm_and ?_ ?_
    | with_reducible refine zm_gR (fun x => ?_)
    | with_reducible refine zm_lI (fun x => ?_)
    | with_reducible refine z_f_X6_set (fun  h1 z1 => ?_) (by assumption)
    | with_reducible refine z_f_X7_isIn (fun y0 h1 z1 => ?_) (by assumption)
    | with_reducible refine zm_imp (fun _ => ?_)
    | with_reducible exact id
theorem z_L_X7_layWay_10 {L0 : Nat} {xs0 : Nat → Int32} {Q Q' : AH → Prop} (hQ : ∀ (h : AH), ZZ L0 xs0 h → Q  h → Q'  h) {v0 : Nat} {v2 : Nat} : ∀ (n : Nat) (w0 : Int32) (w1 : Int32) (h : AH), ZZ L0 xs0 h → L_X7_layWay_10 Q v0 v2 n w0 w1 h → L_X7_layWay_10 Q' v0 v2 n w0 w1 h := by
  intro n
  induction n with
  | zero => intro w0 w1 h z H; exact H.elim
  | succ n ih => intro w0 w1 h z; exact z_B_X7_layWay_10 hQ ih z
theorem z_f_X7_layWay {L0 : Nat} {xs0 : Nat → Int32} {Q Q' : AH → Prop} (hQ : ∀ (h : AH), ZZ L0 xs0 h → Q  h → Q'  h) {v0 : Nat} {v1 : Int32} {v2 : Nat} {h : AH} (z : ZZ L0 xs0 h) : f_X7_layWay v0 v1 v2 h Q → f_X7_layWay v0 v1 v2 h Q' := by
  unfold f_X7_layWay
  repeat' first
    | with_reducible exact hQ _ (by assumption)
    | with_reducible refine zm_and ?_ ?_
    | with_reducible refine zm_gI (fun x => ?_)
    | with_reducible refine zm_ex (fun x => ?_)
    | with_reducible refine z_L_X7_layWay_10 (fun  h1 z1 => ?_) _ _ _ _ (by assumption)
    | with_reducible refine zm_imp (fun _ => ?_)
    | with_reducible exact id
theorem z_f_X11_way {L0 : Nat} {xs0 : Nat → Int32} {Q Q' : Int32 → AH → Prop} (hQ : ∀ (y0 : Int32) (h : AH), ZZ L0 xs0 h → Q y0 h → Q' y0 h) {v0 : Nat} {v1 : Int32} {h : AH} (z : ZZ L0 xs0 h) : f_X11_way v0 v1 h Q → f_X11_way v0 v1 h Q' := by
  unfold f_X11_way
  repeat' first
    | with_reducible exact hQ _ _ (by assumption)
    | with_reducible refine zm_and ?_ ?_
    | with_reducible refine zm_gI (fun x => ?_)
    | with_reducible refine zm_gR (fun x => ?_)
    | with_reducible refine zm_lQ (fun x => ?_)
    | with_reducible refine z_f_X11_isBelow (fun y0 h1 z1 => ?_) (by assumption)
    | with_reducible refine z_f_X6_begin (fun  h1 z1 => ?_) (by assumption)
    | with_reducible refine z_f_X7_farTo (fun y0 h1 z1 => ?_) (by assumption)
    | with_reducible refine z_f_X7_firstHome (fun y0 h1 z1 => ?_) (by assumption)
    | with_reducible refine z_f_X7_from (fun  h1 z1 => ?_) (by assumption)
    | with_reducible refine z_f_X7_layWay (fun  h1 z1 => ?_) (by assumption)
    | with_reducible refine zm_imp (fun _ => ?_)
    | with_reducible exact id
theorem z_B_X12_way_256 {L0 : Nat} {xs0 : Nat → Int32} {Q Q' : Int32 → AH → Prop} {K232 K232' : Int32 → Int32 → AH → Prop} (hQ : ∀ (y0 : Int32) (h : AH), ZZ L0 xs0 h → Q y0 h → Q' y0 h) (hK232 : ∀ (y0 : Int32) (y1 : Int32) (h : AH), ZZ L0 xs0 h → K232 y0 y1 h → K232' y0 y1 h) {v0 : Nat} {v1 : Int32} {v2 : Int32} {v3 : Int32} {v4 : Int32} {v5 : Int32} {h : AH} (z : ZZ L0 xs0 h) : B_X12_way_256 Q K232 v0 v1 v2 v3 v4 v5 h → B_X12_way_256 Q' K232' v0 v1 v2 v3 v4 v5 h := by
  unfold B_X12_way_256
  repeat' first
    | with_reducible exact hQ _ _ (by assumption)
    | with_reducible exact hK232 _ _ _ (by assumption)
    | with_reducible refine zm_and ?_ ?_
    | with_reducible refine zm_gI (fun x => ?_)
    | with_reducible refine z_f_X12_behind (fun y0 h1 z1 => ?_) (by assumption)
    | with_reducible refine zm_imp (fun _ => ?_)
    | with_reducible exact id
theorem z_B_X12_way_232 {L0 : Nat} {xs0 : Nat → Int32} {Q Q' : Int32 → AH → Prop} {K211 K211' : Int32 → Int32 → AH → Prop} {K232 K232' : Int32 → Int32 → AH → Prop} (hQ : ∀ (y0 : Int32) (h : AH), ZZ L0 xs0 h → Q y0 h → Q' y0 h) (hK211 : ∀ (y0 : Int32) (y1 : Int32) (h : AH), ZZ L0 xs0 h → K211 y0 y1 h → K211' y0 y1 h) (hK232 : ∀ (y0 : Int32) (y1 : Int32) (h : AH), ZZ L0 xs0 h → K232 y0 y1 h → K232' y0 y1 h) {v0 : Nat} {v1 : Int32} {v2 : Int32} {v3 : Int32} {v4 : Int32} {v5 : Int32} {v6 : Int32} {h : AH} (z : ZZ L0 xs0 h) : B_X12_way_232 Q K211 K232 v0 v1 v2 v3 v4 v5 v6 h → B_X12_way_232 Q' K211' K232' v0 v1 v2 v3 v4 v5 v6 h := by
  unfold B_X12_way_232
  repeat' first
    | with_reducible exact hQ _ _ (by assumption)
    | with_reducible exact hK211 _ _ _ (by assumption)
    | with_reducible exact hK232 _ _ _ (by assumption)
    | with_reducible refine zm_and ?_ ?_
    | with_reducible refine zm_gR (fun x => ?_)
    | with_reducible refine zm_lI (fun x => ?_)
    | with_reducible refine zm_lB (fun x => ?_)
    | with_reducible refine zm_sI (by assumption) (fun h1 z1 => ?_)
    | with_reducible refine z_B_X12_way_256 (fun y0 h1 z1 => ?_) (fun y0 y1 h1 z1 => ?_) (by assumption)
    | with_reducible refine zm_imp (fun _ => ?_)
    | with_reducible exact id
theorem z_L_X12_way_232 {L0 : Nat} {xs0 : Nat → Int32} {Q Q' : Int32 → AH → Prop} {K211 K211' : Int32 → Int32 → AH → Prop} (hQ : ∀ (y0 : Int32) (h : AH), ZZ L0 xs0 h → Q y0 h → Q' y0 h) (hK211 : ∀ (y0 : Int32) (y1 : Int32) (h : AH), ZZ L0 xs0 h → K211 y0 y1 h → K211' y0 y1 h) {v0 : Nat} {v1 : Int32} {v2 : Int32} {v3 : Int32} {v4 : Int32} : ∀ (n : Nat) (w0 : Int32) (w1 : Int32) (h : AH), ZZ L0 xs0 h → L_X12_way_232 Q K211 v0 v1 v2 v3 v4 n w0 w1 h → L_X12_way_232 Q' K211' v0 v1 v2 v3 v4 n w0 w1 h := by
  intro n
  induction n with
  | zero => intro w0 w1 h z H; exact H.elim
  | succ n ih => intro w0 w1 h z; exact z_B_X12_way_232 hQ hK211 ih z
theorem z_B_X12_way_211 {L0 : Nat} {xs0 : Nat → Int32} {Q Q' : Int32 → AH → Prop} {K211 K211' : Int32 → Int32 → AH → Prop} (hQ : ∀ (y0 : Int32) (h : AH), ZZ L0 xs0 h → Q y0 h → Q' y0 h) (hK211 : ∀ (y0 : Int32) (y1 : Int32) (h : AH), ZZ L0 xs0 h → K211 y0 y1 h → K211' y0 y1 h) {v0 : Nat} {v1 : Int32} {v2 : Int32} {v3 : Int32} {v4 : Int32} {h : AH} (z : ZZ L0 xs0 h) : B_X12_way_211 Q K211 v0 v1 v2 v3 v4 h → B_X12_way_211 Q' K211' v0 v1 v2 v3 v4 h := by
  unfold B_X12_way_211
  repeat' first
    | with_reducible exact hQ _ _ (by assumption)
    | with_reducible exact hK211 _ _ _ (by assumption)
    | with_reducible refine zm_and ?_ ?_
    | with_reducible refine zm_gI (fun x => ?_)
    | with_reducible refine zm_ex (fun x => ?_)
    | with_reducible refine z_L_X12_way_232 (fun y0 h1 z1 => ?_) (fun y0 y1 h1 z1 => ?_) _ _ _ _ (by assumption)
    | with_reducible refine z_f_X12_behind (fun y0 h1 z1 => ?_) (by assumption)
    | with_reducible refine zm_imp (fun _ => ?_)
    | with_reducible exact id
theorem z_L_X12_way_211 {L0 : Nat} {xs0 : Nat → Int32} {Q Q' : Int32 → AH → Prop} (hQ : ∀ (y0 : Int32) (h : AH), ZZ L0 xs0 h → Q y0 h → Q' y0 h) {v0 : Nat} {v1 : Int32} {v2 : Int32} : ∀ (n : Nat) (w0 : Int32) (w1 : Int32) (h : AH), ZZ L0 xs0 h → L_X12_way_211 Q v0 v1 v2 n w0 w1 h → L_X12_way_211 Q' v0 v1 v2 n w0 w1 h := by
  intro n
  induction n with
  | zero => intro w0 w1 h z H; exact H.elim
  | succ n ih => intro w0 w1 h z; exact z_B_X12_way_211 hQ ih z
theorem z_B_X12_way_179 {L0 : Nat} {xs0 : Nat → Int32} {Q Q' : Int32 → AH → Prop} {K100 K100' : Int32 → AH → Prop} (hQ : ∀ (y0 : Int32) (h : AH), ZZ L0 xs0 h → Q y0 h → Q' y0 h) (hK100 : ∀ (y0 : Int32) (h : AH), ZZ L0 xs0 h → K100 y0 h → K100' y0 h) {v0 : Nat} {v1 : Int32} {v2 : Int32} {v3 : Int32} {v4 : Int32} {v5 : Int32} {t0 : Nat} {t1 : Int32} {h : AH} (z : ZZ L0 xs0 h) : B_X12_way_179 Q K100 v0 v1 v2 v3 v4 v5 t0 t1 h → B_X12_way_179 Q' K100' v0 v1 v2 v3 v4 v5 t0 t1 h := by
  unfold B_X12_way_179
  repeat' first
    | with_reducible exact hQ _ _ (by assumption)
    | with_reducible exact hK100 _ _ (by assumption)
    | with_reducible refine zm_and ?_ ?_
    | with_reducible refine zm_sB (by assumption) (fun h1 z1 => ?_)
    | with_reducible refine zm_imp (fun _ => ?_)
    | with_reducible exact id
theorem z_B_X12_way_100 {L0 : Nat} {xs0 : Nat → Int32} {Q Q' : Int32 → AH → Prop} {K53 K53' : Int32 → AH → Prop} {K100 K100' : Int32 → AH → Prop} (hQ : ∀ (y0 : Int32) (h : AH), ZZ L0 xs0 h → Q y0 h → Q' y0 h) (hK53 : ∀ (y0 : Int32) (h : AH), ZZ L0 xs0 h → K53 y0 h → K53' y0 h) (hK100 : ∀ (y0 : Int32) (h : AH), ZZ L0 xs0 h → K100 y0 h → K100' y0 h) {v0 : Nat} {v1 : Int32} {v2 : Int32} {v3 : Int32} {v4 : Int32} {v5 : Int32} {h : AH} (z : ZZ L0 xs0 h) : B_X12_way_100 Q K53 K100 v0 v1 v2 v3 v4 v5 h → B_X12_way_100 Q' K53' K100' v0 v1 v2 v3 v4 v5 h := by
  unfold B_X12_way_100
  repeat' first
    | with_reducible exact hQ _ _ (by assumption)
    | with_reducible exact hK53 _ _ (by assumption)
    | with_reducible exact hK100 _ _ (by assumption)
    | with_reducible refine zm_and ?_ ?_
    | with_reducible refine zm_gI (fun x => ?_)
    | with_reducible refine zm_gR (fun x => ?_)
    | with_reducible refine zm_lI (fun x => ?_)
    | with_reducible refine zm_lB (fun x => ?_)
    | with_reducible refine zm_sB (by assumption) (fun h1 z1 => ?_)
    | with_reducible refine z_B_X12_way_179 (fun y0 h1 z1 => ?_) (fun y0 h1 z1 => ?_) (by assumption)
    | with_reducible refine z_f_X12_behind (fun y0 h1 z1 => ?_) (by assumption)
    | with_reducible refine zm_imp (fun _ => ?_)
    | with_reducible exact id
theorem z_L_X12_way_100 {L0 : Nat} {xs0 : Nat → Int32} {Q Q' : Int32 → AH → Prop} {K53 K53' : Int32 → AH → Prop} (hQ : ∀ (y0 : Int32) (h : AH), ZZ L0 xs0 h → Q y0 h → Q' y0 h) (hK53 : ∀ (y0 : Int32) (h : AH), ZZ L0 xs0 h → K53 y0 h → K53' y0 h) {v0 : Nat} {v1 : Int32} {v2 : Int32} {v3 : Int32} {v4 : Int32} : ∀ (n : Nat) (w0 : Int32) (h : AH), ZZ L0 xs0 h → L_X12_way_100 Q K53 v0 v1 v2 v3 v4 n w0 h → L_X12_way_100 Q' K53' v0 v1 v2 v3 v4 n w0 h := by
  intro n
  induction n with
  | zero => intro w0 h z H; exact H.elim
  | succ n ih => intro w0 h z; exact z_B_X12_way_100 hQ hK53 ih z
theorem z_B_X12_way_53 {L0 : Nat} {xs0 : Nat → Int32} {Q Q' : Int32 → AH → Prop} {K53 K53' : Int32 → AH → Prop} (hQ : ∀ (y0 : Int32) (h : AH), ZZ L0 xs0 h → Q y0 h → Q' y0 h) (hK53 : ∀ (y0 : Int32) (h : AH), ZZ L0 xs0 h → K53 y0 h → K53' y0 h) {v0 : Nat} {v1 : Int32} {v2 : Int32} {v3 : Int32} {h : AH} (z : ZZ L0 xs0 h) : B_X12_way_53 Q K53 v0 v1 v2 v3 h → B_X12_way_53 Q' K53' v0 v1 v2 v3 h := by
  unfold B_X12_way_53
  repeat' first
    | with_reducible exact hQ _ _ (by assumption)
    | with_reducible exact hK53 _ _ (by assumption)
    | with_reducible refine zm_and ?_ ?_
    | with_reducible refine zm_gI (fun x => ?_)
    | with_reducible refine zm_gR (fun x => ?_)
    | with_reducible refine zm_lI (fun x => ?_)
    | with_reducible refine zm_sB (by assumption) (fun h1 z1 => ?_)
    | with_reducible refine zm_ex (fun x => ?_)
    | with_reducible refine z_L_X12_way_100 (fun y0 h1 z1 => ?_) (fun y0 h1 z1 => ?_) _ _ _ (by assumption)
    | with_reducible refine z_L_X12_way_211 (fun y0 h1 z1 => ?_) _ _ _ _ (by assumption)
    | with_reducible refine z_f_X12_isDone (fun y0 h1 z1 => ?_) (by assumption)
    | with_reducible refine z_f_X12_makes (fun  h1 z1 => ?_) (by assumption)
    | with_reducible refine zm_imp (fun _ => ?_)
    | with_reducible exact id
theorem z_L_X12_way_53 {L0 : Nat} {xs0 : Nat → Int32} {Q Q' : Int32 → AH → Prop} (hQ : ∀ (y0 : Int32) (h : AH), ZZ L0 xs0 h → Q y0 h → Q' y0 h) {v0 : Nat} {v1 : Int32} {v2 : Int32} : ∀ (n : Nat) (w0 : Int32) (h : AH), ZZ L0 xs0 h → L_X12_way_53 Q v0 v1 v2 n w0 h → L_X12_way_53 Q' v0 v1 v2 n w0 h := by
  intro n
  induction n with
  | zero => intro w0 h z H; exact H.elim
  | succ n ih => intro w0 h z; exact z_B_X12_way_53 hQ ih z
theorem z_f_X12_way {L0 : Nat} {xs0 : Nat → Int32} {Q Q' : Int32 → AH → Prop} (hQ : ∀ (y0 : Int32) (h : AH), ZZ L0 xs0 h → Q y0 h → Q' y0 h) {v0 : Nat} {v1 : Int32} {h : AH} (z : ZZ L0 xs0 h) : f_X12_way v0 v1 h Q → f_X12_way v0 v1 h Q' := by
  unfold f_X12_way
  repeat' first
    | with_reducible exact hQ _ _ (by assumption)
    | with_reducible refine zm_and ?_ ?_
    | with_reducible refine zm_gI (fun x => ?_)
    | with_reducible refine zm_ex (fun x => ?_)
    | with_reducible refine z_L_X12_way_53 (fun y0 h1 z1 => ?_) _ _ _ (by assumption)
    | with_reducible refine z_f_X12_fewestBy (fun y0 h1 z1 => ?_) (by assumption)
    | with_reducible refine z_f_X12_isRow (fun y0 h1 z1 => ?_) (by assumption)
    | with_reducible refine zm_imp (fun _ => ?_)
    | with_reducible exact id
theorem z_f_X7_farthest {L0 : Nat} {xs0 : Nat → Int32} {Q Q' : Int32 → AH → Prop} (hQ : ∀ (y0 : Int32) (h : AH), ZZ L0 xs0 h → Q y0 h → Q' y0 h) {v0 : Nat} {h : AH} (z : ZZ L0 xs0 h) : f_X7_farthest v0 h Q → f_X7_farthest v0 h Q' := by
  unfold f_X7_farthest
  repeat' first
    | with_reducible exact hQ _ _ (by assumption)
    | with_reducible refine zm_and ?_ ?_
    | with_reducible refine zm_gI (fun x => ?_)
    | with_reducible refine zm_gR (fun x => ?_)
    | with_reducible refine zm_lI (fun x => ?_)
    | with_reducible refine zm_aL (fun x => ?_)
    | with_reducible refine z_f_X7_explore (fun  h1 z1 => ?_) (by assumption)
    | with_reducible refine z_f_X7_farTo (fun y0 h1 z1 => ?_) (by assumption)
    | with_reducible refine zm_imp (fun _ => ?_)
    | with_reducible exact id
theorem z_f_X7_reached {L0 : Nat} {xs0 : Nat → Int32} {Q Q' : Int32 → AH → Prop} (hQ : ∀ (y0 : Int32) (h : AH), ZZ L0 xs0 h → Q y0 h → Q' y0 h) {v0 : Nat} {h : AH} (z : ZZ L0 xs0 h) : f_X7_reached v0 h Q → f_X7_reached v0 h Q' := by
  unfold f_X7_reached
  repeat' first
    | with_reducible exact hQ _ _ (by assumption)
    | with_reducible refine zm_and ?_ ?_
    | with_reducible refine zm_gI (fun x => ?_)
    | with_reducible refine z_f_X7_explore (fun  h1 z1 => ?_) (by assumption)
    | with_reducible refine zm_imp (fun _ => ?_)
    | with_reducible exact id
theorem z_f_X11_all {L0 : Nat} {xs0 : Nat → Int32} {Q Q' : Int32 → AH → Prop} (hQ : ∀ (y0 : Int32) (h : AH), ZZ L0 xs0 h → Q y0 h → Q' y0 h) {v0 : Nat} {h : AH} (z : ZZ L0 xs0 h) : f_X11_all v0 h Q → f_X11_all v0 h Q' := by
  unfold f_X11_all
  repeat' first
    | with_reducible exact hQ _ _ (by assumption)
    | with_reducible refine zm_and ?_ ?_
    | with_reducible refine zm_gI (fun x => ?_)
    | with_reducible refine zm_gR (fun x => ?_)
    | with_reducible refine zm_pF (by assumption) (fun h1 z1 => ?_)
    | with_reducible refine z_f_X7_farthest (fun y0 h1 z1 => ?_) (by assumption)
    | with_reducible refine z_f_X7_from (fun  h1 z1 => ?_) (by assumption)
    | with_reducible refine z_f_X7_reached (fun y0 h1 z1 => ?_) (by assumption)
    | with_reducible refine zm_imp (fun _ => ?_)
    | with_reducible exact id
theorem z_f_X12_all {L0 : Nat} {xs0 : Nat → Int32} {Q Q' : Int32 → AH → Prop} (hQ : ∀ (y0 : Int32) (h : AH), ZZ L0 xs0 h → Q y0 h → Q' y0 h) {v0 : Nat} {h : AH} (z : ZZ L0 xs0 h) : f_X12_all v0 h Q → f_X12_all v0 h Q' := by
  unfold f_X12_all
  repeat' first
    | with_reducible exact hQ _ _ (by assumption)
    | with_reducible refine zm_and ?_ ?_
    | with_reducible refine zm_gI (fun x => ?_)
    | with_reducible refine zm_gR (fun x => ?_)
    | with_reducible refine zm_lI (fun x => ?_)
    | with_reducible refine zm_pF (by assumption) (fun h1 z1 => ?_)
    | with_reducible refine z_f_X12_goesOut (fun  h1 z1 => ?_) (by assumption)
    | with_reducible refine zm_imp (fun _ => ?_)
    | with_reducible exact id
theorem z_B_X11_best_90 {L0 : Nat} {xs0 : Nat → Int32} {Q Q' : Int32 → AH → Prop} {K20 K20' : Int32 → Int32 → Int32 → AH → Prop} (hQ : ∀ (y0 : Int32) (h : AH), ZZ L0 xs0 h → Q y0 h → Q' y0 h) (hK20 : ∀ (y0 : Int32) (y1 : Int32) (y2 : Int32) (h : AH), ZZ L0 xs0 h → K20 y0 y1 y2 h → K20' y0 y1 y2 h) {v0 : Nat} {v3 : Int32} {v5 : Int32} {h : AH} (z : ZZ L0 xs0 h) : B_X11_best_90 Q K20 v0 v3 v5 h → B_X11_best_90 Q' K20' v0 v3 v5 h := by
  unfold B_X11_best_90
  repeat' first
    | with_reducible exact hQ _ _ (by assumption)
    | with_reducible exact hK20 _ _ _ _ (by assumption)
    | with_reducible refine zm_and ?_ ?_
    | with_reducible refine zm_imp (fun _ => ?_)
    | with_reducible exact id
theorem z_B_X11_best_69 {L0 : Nat} {xs0 : Nat → Int32} {Q Q' : Int32 → AH → Prop} {K20 K20' : Int32 → Int32 → Int32 → AH → Prop} (hQ : ∀ (y0 : Int32) (h : AH), ZZ L0 xs0 h → Q y0 h → Q' y0 h) (hK20 : ∀ (y0 : Int32) (y1 : Int32) (y2 : Int32) (h : AH), ZZ L0 xs0 h → K20 y0 y1 y2 h → K20' y0 y1 y2 h) {v0 : Nat} {v1 : Int32} {v2 : Int32} {v3 : Int32} {t0 : Int32} {h : AH} (z : ZZ L0 xs0 h) : B_X11_best_69 Q K20 v0 v1 v2 v3 t0 h → B_X11_best_69 Q' K20' v0 v1 v2 v3 t0 h := by
  unfold B_X11_best_69
  repeat' first
    | with_reducible exact hQ _ _ (by assumption)
    | with_reducible exact hK20 _ _ _ _ (by assumption)
    | with_reducible refine zm_and ?_ ?_
    | with_reducible refine z_B_X11_best_90 (fun y0 h1 z1 => ?_) (fun y0 y1 y2 h1 z1 => ?_) (by assumption)
    | with_reducible refine zm_imp (fun _ => ?_)
    | with_reducible exact id
theorem z_B_X11_best_20 {L0 : Nat} {xs0 : Nat → Int32} {Q Q' : Int32 → AH → Prop} {K20 K20' : Int32 → Int32 → Int32 → AH → Prop} (hQ : ∀ (y0 : Int32) (h : AH), ZZ L0 xs0 h → Q y0 h → Q' y0 h) (hK20 : ∀ (y0 : Int32) (y1 : Int32) (y2 : Int32) (h : AH), ZZ L0 xs0 h → K20 y0 y1 y2 h → K20' y0 y1 y2 h) {v0 : Nat} {v1 : Int32} {v2 : Int32} {v3 : Int32} {h : AH} (z : ZZ L0 xs0 h) : B_X11_best_20 Q K20 v0 v1 v2 v3 h → B_X11_best_20 Q' K20' v0 v1 v2 v3 h := by
  unfold B_X11_best_20
  repeat' first
    | with_reducible exact hQ _ _ (by assumption)
    | with_reducible exact hK20 _ _ _ _ (by assumption)
    | with_reducible refine zm_and ?_ ?_
    | with_reducible refine zm_gI (fun x => ?_)
    | with_reducible refine zm_gR (fun x => ?_)
    | with_reducible refine zm_pF (by assumption) (fun h1 z1 => ?_)
    | with_reducible refine z_B_X11_best_69 (fun y0 h1 z1 => ?_) (fun y0 y1 y2 h1 z1 => ?_) (by assumption)
    | with_reducible refine z_f_X7_farTo (fun y0 h1 z1 => ?_) (by assumption)
    | with_reducible refine z_f_X7_firstHome (fun y0 h1 z1 => ?_) (by assumption)
    | with_reducible refine z_f_X7_from (fun  h1 z1 => ?_) (by assumption)
    | with_reducible refine zm_imp (fun _ => ?_)
    | with_reducible exact id
theorem z_L_X11_best_20 {L0 : Nat} {xs0 : Nat → Int32} {Q Q' : Int32 → AH → Prop} (hQ : ∀ (y0 : Int32) (h : AH), ZZ L0 xs0 h → Q y0 h → Q' y0 h) {v0 : Nat} : ∀ (n : Nat) (w0 : Int32) (w1 : Int32) (w2 : Int32) (h : AH), ZZ L0 xs0 h → L_X11_best_20 Q v0 n w0 w1 w2 h → L_X11_best_20 Q' v0 n w0 w1 w2 h := by
  intro n
  induction n with
  | zero => intro w0 w1 w2 h z H; exact H.elim
  | succ n ih => intro w0 w1 w2 h z; exact z_B_X11_best_20 hQ ih z
theorem z_f_X11_best {L0 : Nat} {xs0 : Nat → Int32} {Q Q' : Int32 → AH → Prop} (hQ : ∀ (y0 : Int32) (h : AH), ZZ L0 xs0 h → Q y0 h → Q' y0 h) {v0 : Nat} {h : AH} (z : ZZ L0 xs0 h) : f_X11_best v0 h Q → f_X11_best v0 h Q' := by
  unfold f_X11_best
  repeat' first
    | with_reducible exact hQ _ _ (by assumption)
    | with_reducible refine zm_and ?_ ?_
    | with_reducible refine zm_gI (fun x => ?_)
    | with_reducible refine zm_gR (fun x => ?_)
    | with_reducible refine zm_ex (fun x => ?_)
    | with_reducible refine z_L_X11_best_20 (fun y0 h1 z1 => ?_) _ _ _ _ _ (by assumption)
    | with_reducible refine zm_imp (fun _ => ?_)
    | with_reducible exact id
theorem z_B_X12_best_48 {L0 : Nat} {xs0 : Nat → Int32} {Q Q' : Int32 → AH → Prop} {K17 K17' : Int32 → Int32 → Int32 → AH → Prop} (hQ : ∀ (y0 : Int32) (h : AH), ZZ L0 xs0 h → Q y0 h → Q' y0 h) (hK17 : ∀ (y0 : Int32) (y1 : Int32) (y2 : Int32) (h : AH), ZZ L0 xs0 h → K17 y0 y1 y2 h → K17' y0 y1 y2 h) {v0 : Nat} {v3 : Int32} {v4 : Int32} {h : AH} (z : ZZ L0 xs0 h) : B_X12_best_48 Q K17 v0 v3 v4 h → B_X12_best_48 Q' K17' v0 v3 v4 h := by
  unfold B_X12_best_48
  repeat' first
    | with_reducible exact hQ _ _ (by assumption)
    | with_reducible exact hK17 _ _ _ _ (by assumption)
    | with_reducible refine zm_and ?_ ?_
    | with_reducible refine zm_imp (fun _ => ?_)
    | with_reducible exact id
theorem z_B_X12_best_17 {L0 : Nat} {xs0 : Nat → Int32} {Q Q' : Int32 → AH → Prop} {K17 K17' : Int32 → Int32 → Int32 → AH → Prop} (hQ : ∀ (y0 : Int32) (h : AH), ZZ L0 xs0 h → Q y0 h → Q' y0 h) (hK17 : ∀ (y0 : Int32) (y1 : Int32) (y2 : Int32) (h : AH), ZZ L0 xs0 h → K17 y0 y1 y2 h → K17' y0 y1 y2 h) {v0 : Nat} {v1 : Int32} {v2 : Int32} {v3 : Int32} {h : AH} (z : ZZ L0 xs0 h) : B_X12_best_17 Q K17 v0 v1 v2 v3 h → B_X12_best_17 Q' K17' v0 v1 v2 v3 h := by
  unfold B_X12_best_17
  repeat' first
    | with_reducible exact hQ _ _ (by assumption)
    | with_reducible exact hK17 _ _ _ _ (by assumption)
    | with_reducible refine zm_and ?_ ?_
    | with_reducible refine zm_pF (by assumption) (fun h1 z1 => ?_)
    | with_reducible refine z_B_X12_best_48 (fun y0 h1 z1 => ?_) (fun y0 y1 y2 h1 z1 => ?_) (by assumption)
    | with_reducible refine z_f_X12_fewestBy (fun y0 h1 z1 => ?_) (by assumption)
    | with_reducible refine zm_imp (fun _ => ?_)
    | with_reducible exact id
theorem z_L_X12_best_17 {L0 : Nat} {xs0 : Nat → Int32} {Q Q' : Int32 → AH → Prop} (hQ : ∀ (y0 : Int32) (h : AH), ZZ L0 xs0 h → Q y0 h → Q' y0 h) {v0 : Nat} : ∀ (n : Nat) (w0 : Int32) (w1 : Int32) (w2 : Int32) (h : AH), ZZ L0 xs0 h → L_X12_best_17 Q v0 n w0 w1 w2 h → L_X12_best_17 Q' v0 n w0 w1 w2 h := by
  intro n
  induction n with
  | zero => intro w0 w1 w2 h z H; exact H.elim
  | succ n ih => intro w0 w1 w2 h z; exact z_B_X12_best_17 hQ ih z
theorem z_f_X12_best {L0 : Nat} {xs0 : Nat → Int32} {Q Q' : Int32 → AH → Prop} (hQ : ∀ (y0 : Int32) (h : AH), ZZ L0 xs0 h → Q y0 h → Q' y0 h) {v0 : Nat} {h : AH} (z : ZZ L0 xs0 h) : f_X12_best v0 h Q → f_X12_best v0 h Q' := by
  unfold f_X12_best
  repeat' first
    | with_reducible exact hQ _ _ (by assumption)
    | with_reducible refine zm_and ?_ ?_
    | with_reducible refine zm_gI (fun x => ?_)
    | with_reducible refine zm_ex (fun x => ?_)
    | with_reducible refine z_L_X12_best_17 (fun y0 h1 z1 => ?_) _ _ _ _ _ (by assumption)
    | with_reducible refine zm_imp (fun _ => ?_)
    | with_reducible exact id
theorem z_B_X7_leastApart_23 {L0 : Nat} {xs0 : Nat → Int32} {Q Q' : Int32 → AH → Prop} {K23 K23' : Int32 → Int32 → Int32 → AH → Prop} (hQ : ∀ (y0 : Int32) (h : AH), ZZ L0 xs0 h → Q y0 h → Q' y0 h) (hK23 : ∀ (y0 : Int32) (y1 : Int32) (y2 : Int32) (h : AH), ZZ L0 xs0 h → K23 y0 y1 y2 h → K23' y0 y1 y2 h) {v0 : Nat} {v1 : Int32} {v2 : Int32} {v3 : Int32} {h : AH} (z : ZZ L0 xs0 h) : B_X7_leastApart_23 Q K23 v0 v1 v2 v3 h → B_X7_leastApart_23 Q' K23' v0 v1 v2 v3 h := by
  unfold B_X7_leastApart_23
  repeat' first
    | with_reducible exact hQ _ _ (by assumption)
    | with_reducible exact hK23 _ _ _ _ (by assumption)
    | with_reducible refine zm_and ?_ ?_
    | with_reducible refine zm_gI (fun x => ?_)
    | with_reducible refine zm_gR (fun x => ?_)
    | with_reducible refine zm_lI (fun x => ?_)
    | with_reducible refine zm_aL (fun x => ?_)
    | with_reducible refine z_f_X5_farFromHome (fun y0 h1 z1 => ?_) (by assumption)
    | with_reducible refine zm_imp (fun _ => ?_)
    | with_reducible exact id
theorem z_L_X7_leastApart_23 {L0 : Nat} {xs0 : Nat → Int32} {Q Q' : Int32 → AH → Prop} (hQ : ∀ (y0 : Int32) (h : AH), ZZ L0 xs0 h → Q y0 h → Q' y0 h) {v0 : Nat} : ∀ (n : Nat) (w0 : Int32) (w1 : Int32) (w2 : Int32) (h : AH), ZZ L0 xs0 h → L_X7_leastApart_23 Q v0 n w0 w1 w2 h → L_X7_leastApart_23 Q' v0 n w0 w1 w2 h := by
  intro n
  induction n with
  | zero => intro w0 w1 w2 h z H; exact H.elim
  | succ n ih => intro w0 w1 w2 h z; exact z_B_X7_leastApart_23 hQ ih z
theorem z_f_X7_leastApart {L0 : Nat} {xs0 : Nat → Int32} {Q Q' : Int32 → AH → Prop} (hQ : ∀ (y0 : Int32) (h : AH), ZZ L0 xs0 h → Q y0 h → Q' y0 h) {v0 : Nat} {h : AH} (z : ZZ L0 xs0 h) : f_X7_leastApart v0 h Q → f_X7_leastApart v0 h Q' := by
  unfold f_X7_leastApart
  repeat' first
    | with_reducible exact hQ _ _ (by assumption)
    | with_reducible refine zm_and ?_ ?_
    | with_reducible refine zm_gI (fun x => ?_)
    | with_reducible refine zm_gR (fun x => ?_)
    | with_reducible refine zm_ex (fun x => ?_)
    | with_reducible refine z_L_X7_leastApart_23 (fun y0 h1 z1 => ?_) _ _ _ _ _ (by assumption)
    | with_reducible refine z_f_X5_farFromHome (fun y0 h1 z1 => ?_) (by assumption)
    | with_reducible refine z_f_X7_explore (fun  h1 z1 => ?_) (by assumption)
    | with_reducible refine zm_imp (fun _ => ?_)
    | with_reducible exact id
theorem z_f_X11_nearest {L0 : Nat} {xs0 : Nat → Int32} {Q Q' : Int32 → AH → Prop} (hQ : ∀ (y0 : Int32) (h : AH), ZZ L0 xs0 h → Q y0 h → Q' y0 h) {v0 : Nat} {h : AH} (z : ZZ L0 xs0 h) : f_X11_nearest v0 h Q → f_X11_nearest v0 h Q' := by
  unfold f_X11_nearest
  repeat' first
    | with_reducible exact hQ _ _ (by assumption)
    | with_reducible refine zm_and ?_ ?_
    | with_reducible refine zm_gI (fun x => ?_)
    | with_reducible refine zm_gR (fun x => ?_)
    | with_reducible refine zm_pF (by assumption) (fun h1 z1 => ?_)
    | with_reducible refine z_f_X5_farFromHome (fun y0 h1 z1 => ?_) (by assumption)
    | with_reducible refine z_f_X7_farTo (fun y0 h1 z1 => ?_) (by assumption)
    | with_reducible refine z_f_X7_from (fun  h1 z1 => ?_) (by assumption)
    | with_reducible refine z_f_X7_leastApart (fun y0 h1 z1 => ?_) (by assumption)
    | with_reducible refine zm_imp (fun _ => ?_)
    | with_reducible exact id
theorem z_B_X12_nearest_24 {L0 : Nat} {xs0 : Nat → Int32} {Q Q' : Int32 → AH → Prop} {K24 K24' : Int32 → Int32 → AH → Prop} (hQ : ∀ (y0 : Int32) (h : AH), ZZ L0 xs0 h → Q y0 h → Q' y0 h) (hK24 : ∀ (y0 : Int32) (y1 : Int32) (h : AH), ZZ L0 xs0 h → K24 y0 y1 h → K24' y0 y1 h) {v0 : Nat} {v1 : Int32} {v2 : Int32} {h : AH} (z : ZZ L0 xs0 h) : B_X12_nearest_24 Q K24 v0 v1 v2 h → B_X12_nearest_24 Q' K24' v0 v1 v2 h := by
  unfold B_X12_nearest_24
  repeat' first
    | with_reducible exact hQ _ _ (by assumption)
    | with_reducible exact hK24 _ _ _ (by assumption)
    | with_reducible refine zm_and ?_ ?_
    | with_reducible refine zm_gI (fun x => ?_)
    | with_reducible refine zm_gR (fun x => ?_)
    | with_reducible refine zm_lI (fun x => ?_)
    | with_reducible refine zm_pF (by assumption) (fun h1 z1 => ?_)
    | with_reducible refine z_f_X12_apartOf (fun y0 h1 z1 => ?_) (by assumption)
    | with_reducible refine zm_imp (fun _ => ?_)
    | with_reducible exact id
theorem z_L_X12_nearest_24 {L0 : Nat} {xs0 : Nat → Int32} {Q Q' : Int32 → AH → Prop} (hQ : ∀ (y0 : Int32) (h : AH), ZZ L0 xs0 h → Q y0 h → Q' y0 h) {v0 : Nat} : ∀ (n : Nat) (w0 : Int32) (w1 : Int32) (h : AH), ZZ L0 xs0 h → L_X12_nearest_24 Q v0 n w0 w1 h → L_X12_nearest_24 Q' v0 n w0 w1 h := by
  intro n
  induction n with
  | zero => intro w0 w1 h z H; exact H.elim
  | succ n ih => intro w0 w1 h z; exact z_B_X12_nearest_24 hQ ih z
theorem z_f_X12_nearest {L0 : Nat} {xs0 : Nat → Int32} {Q Q' : Int32 → AH → Prop} (hQ : ∀ (y0 : Int32) (h : AH), ZZ L0 xs0 h → Q y0 h → Q' y0 h) {v0 : Nat} {h : AH} (z : ZZ L0 xs0 h) : f_X12_nearest v0 h Q → f_X12_nearest v0 h Q' := by
  unfold f_X12_nearest
  repeat' first
    | with_reducible exact hQ _ _ (by assumption)
    | with_reducible refine zm_and ?_ ?_
    | with_reducible refine zm_gI (fun x => ?_)
    | with_reducible refine zm_pF (by assumption) (fun h1 z1 => ?_)
    | with_reducible refine zm_ex (fun x => ?_)
    | with_reducible refine z_L_X12_nearest_24 (fun y0 h1 z1 => ?_) _ _ _ _ (by assumption)
    | with_reducible refine z_f_X12_apartOf (fun y0 h1 z1 => ?_) (by assumption)
    | with_reducible refine z_f_X12_goesOut (fun  h1 z1 => ?_) (by assumption)
    | with_reducible refine zm_imp (fun _ => ?_)
    | with_reducible exact id
theorem z_B_X7_firstWith_6 {L0 : Nat} {xs0 : Nat → Int32} {Q Q' : Int32 → AH → Prop} {K6 K6' : Int32 → AH → Prop} (hQ : ∀ (y0 : Int32) (h : AH), ZZ L0 xs0 h → Q y0 h → Q' y0 h) (hK6 : ∀ (y0 : Int32) (h : AH), ZZ L0 xs0 h → K6 y0 h → K6' y0 h) {v0 : Nat} {v1 : Int32} {v2 : Int32} {v3 : Int32} {h : AH} (z : ZZ L0 xs0 h) : B_X7_firstWith_6 Q K6 v0 v1 v2 v3 h → B_X7_firstWith_6 Q' K6' v0 v1 v2 v3 h := by
  unfold B_X7_firstWith_6
  repeat' first
    | with_reducible exact hQ _ _ (by assumption)
    | with_reducible exact hK6 _ _ (by assumption)
    | with_reducible refine zm_and ?_ ?_
    | with_reducible refine zm_gI (fun x => ?_)
    | with_reducible refine zm_gR (fun x => ?_)
    | with_reducible refine zm_lI (fun x => ?_)
    | with_reducible refine zm_aL (fun x => ?_)
    | with_reducible refine z_f_X5_postOf (fun y0 h1 z1 => ?_) (by assumption)
    | with_reducible refine zm_imp (fun _ => ?_)
    | with_reducible exact id
theorem z_L_X7_firstWith_6 {L0 : Nat} {xs0 : Nat → Int32} {Q Q' : Int32 → AH → Prop} (hQ : ∀ (y0 : Int32) (h : AH), ZZ L0 xs0 h → Q y0 h → Q' y0 h) {v0 : Nat} {v1 : Int32} {v2 : Int32} : ∀ (n : Nat) (w0 : Int32) (h : AH), ZZ L0 xs0 h → L_X7_firstWith_6 Q v0 v1 v2 n w0 h → L_X7_firstWith_6 Q' v0 v1 v2 n w0 h := by
  intro n
  induction n with
  | zero => intro w0 h z H; exact H.elim
  | succ n ih => intro w0 h z; exact z_B_X7_firstWith_6 hQ ih z
theorem z_f_X7_firstWith {L0 : Nat} {xs0 : Nat → Int32} {Q Q' : Int32 → AH → Prop} (hQ : ∀ (y0 : Int32) (h : AH), ZZ L0 xs0 h → Q y0 h → Q' y0 h) {v0 : Nat} {v1 : Int32} {v2 : Int32} {h : AH} (z : ZZ L0 xs0 h) : f_X7_firstWith v0 v1 v2 h Q → f_X7_firstWith v0 v1 v2 h Q' := by
  unfold f_X7_firstWith
  repeat' first
    | with_reducible exact hQ _ _ (by assumption)
    | with_reducible refine zm_and ?_ ?_
    | with_reducible refine zm_ex (fun x => ?_)
    | with_reducible refine z_L_X7_firstWith_6 (fun y0 h1 z1 => ?_) _ _ _ (by assumption)
    | with_reducible refine z_f_X7_explore (fun  h1 z1 => ?_) (by assumption)
    | with_reducible refine zm_imp (fun _ => ?_)
    | with_reducible exact id
theorem z_f_X11_brings {L0 : Nat} {xs0 : Nat → Int32} {Q Q' : Int32 → AH → Prop} (hQ : ∀ (y0 : Int32) (h : AH), ZZ L0 xs0 h → Q y0 h → Q' y0 h) {v0 : Nat} {v1 : Int32} {v2 : Int32} {h : AH} (z : ZZ L0 xs0 h) : f_X11_brings v0 v1 v2 h Q → f_X11_brings v0 v1 v2 h Q' := by
  unfold f_X11_brings
  repeat' first
    | with_reducible exact hQ _ _ (by assumption)
    | with_reducible refine zm_and ?_ ?_
    | with_reducible refine zm_gI (fun x => ?_)
    | with_reducible refine zm_gR (fun x => ?_)
    | with_reducible refine z_f_X11_isBelow (fun y0 h1 z1 => ?_) (by assumption)
    | with_reducible refine z_f_X7_farTo (fun y0 h1 z1 => ?_) (by assumption)
    | with_reducible refine z_f_X7_firstWith (fun y0 h1 z1 => ?_) (by assumption)
    | with_reducible refine z_f_X7_from (fun  h1 z1 => ?_) (by assumption)
    | with_reducible refine zm_imp (fun _ => ?_)
    | with_reducible exact id
theorem z_B_X12_brings_28 {L0 : Nat} {xs0 : Nat → Int32} {Q Q' : Int32 → AH → Prop} {K28 K28' : Int32 → AH → Prop} (hQ : ∀ (y0 : Int32) (h : AH), ZZ L0 xs0 h → Q y0 h → Q' y0 h) (hK28 : ∀ (y0 : Int32) (h : AH), ZZ L0 xs0 h → K28 y0 h → K28' y0 h) {v0 : Nat} {v1 : Int32} {v2 : Int32} {v3 : Int32} {h : AH} (z : ZZ L0 xs0 h) : B_X12_brings_28 Q K28 v0 v1 v2 v3 h → B_X12_brings_28 Q' K28' v0 v1 v2 v3 h := by
  unfold B_X12_brings_28
  repeat' first
    | with_reducible exact hQ _ _ (by assumption)
    | with_reducible exact hK28 _ _ (by assumption)
    | with_reducible refine zm_and ?_ ?_
    | with_reducible refine zm_gI (fun x => ?_)
    | with_reducible refine zm_gR (fun x => ?_)
    | with_reducible refine zm_lI (fun x => ?_)
    | with_reducible refine z_f_X12_spotOf (fun y0 h1 z1 => ?_) (by assumption)
    | with_reducible refine zm_imp (fun _ => ?_)
    | with_reducible exact id
theorem z_L_X12_brings_28 {L0 : Nat} {xs0 : Nat → Int32} {Q Q' : Int32 → AH → Prop} (hQ : ∀ (y0 : Int32) (h : AH), ZZ L0 xs0 h → Q y0 h → Q' y0 h) {v0 : Nat} {v1 : Int32} {v2 : Int32} : ∀ (n : Nat) (w0 : Int32) (h : AH), ZZ L0 xs0 h → L_X12_brings_28 Q v0 v1 v2 n w0 h → L_X12_brings_28 Q' v0 v1 v2 n w0 h := by
  intro n
  induction n with
  | zero => intro w0 h z H; exact H.elim
  | succ n ih => intro w0 h z; exact z_B_X12_brings_28 hQ ih z
theorem z_f_X12_brings {L0 : Nat} {xs0 : Nat → Int32} {Q Q' : Int32 → AH → Prop} (hQ : ∀ (y0 : Int32) (h : AH), ZZ L0 xs0 h → Q y0 h → Q' y0 h) {v0 : Nat} {v1 : Int32} {v2 : Int32} {h : AH} (z : ZZ L0 xs0 h) : f_X12_brings v0 v1 v2 h Q → f_X12_brings v0 v1 v2 h Q' := by
  unfold f_X12_brings
  repeat' first
    | with_reducible exact hQ _ _ (by assumption)
    | with_reducible refine zm_and ?_ ?_
    | with_reducible refine zm_gI (fun x => ?_)
    | with_reducible refine zm_ex (fun x => ?_)
    | with_reducible refine z_L_X12_brings_28 (fun y0 h1 z1 => ?_) _ _ _ (by assumption)
    | with_reducible refine z_f_X12_goesOut (fun  h1 z1 => ?_) (by assumption)
    | with_reducible refine z_f_X12_isPost (fun y0 h1 z1 => ?_) (by assumption)
    | with_reducible refine z_f_X12_isStone (fun y0 h1 z1 => ?_) (by assumption)
    | with_reducible refine zm_imp (fun _ => ?_)
    | with_reducible exact id
theorem z_B_X7_figuresOf_4 {L0 : Nat} {xs0 : Nat → Int32} {Q Q' : Int32 → AH → Prop} {K4 K4' : Int32 → Int32 → AH → Prop} (hQ : ∀ (y0 : Int32) (h : AH), ZZ L0 xs0 h → Q y0 h → Q' y0 h) (hK4 : ∀ (y0 : Int32) (y1 : Int32) (h : AH), ZZ L0 xs0 h → K4 y0 y1 h → K4' y0 y1 h) {v0 : Nat} {v1 : Int32} {v2 : Int32} {v3 : Int32} {h : AH} (z : ZZ L0 xs0 h) : B_X7_figuresOf_4 Q K4 v0 v1 v2 v3 h → B_X7_figuresOf_4 Q' K4' v0 v1 v2 v3 h := by
  unfold B_X7_figuresOf_4
  repeat' first
    | with_reducible exact hQ _ _ (by assumption)
    | with_reducible exact hK4 _ _ _ (by assumption)
    | with_reducible refine zm_and ?_ ?_
    | with_reducible refine zm_gR (fun x => ?_)
    | with_reducible refine zm_lI (fun x => ?_)
    | with_reducible refine zm_imp (fun _ => ?_)
    | with_reducible exact id
theorem z_L_X7_figuresOf_4 {L0 : Nat} {xs0 : Nat → Int32} {Q Q' : Int32 → AH → Prop} (hQ : ∀ (y0 : Int32) (h : AH), ZZ L0 xs0 h → Q y0 h → Q' y0 h) {v0 : Nat} {v1 : Int32} : ∀ (n : Nat) (w0 : Int32) (w1 : Int32) (h : AH), ZZ L0 xs0 h → L_X7_figuresOf_4 Q v0 v1 n w0 w1 h → L_X7_figuresOf_4 Q' v0 v1 n w0 w1 h := by
  intro n
  induction n with
  | zero => intro w0 w1 h z H; exact H.elim
  | succ n ih => intro w0 w1 h z; exact z_B_X7_figuresOf_4 hQ ih z
theorem z_f_X7_figuresOf {L0 : Nat} {xs0 : Nat → Int32} {Q Q' : Int32 → AH → Prop} (hQ : ∀ (y0 : Int32) (h : AH), ZZ L0 xs0 h → Q y0 h → Q' y0 h) {v0 : Nat} {v1 : Int32} {h : AH} (z : ZZ L0 xs0 h) : f_X7_figuresOf v0 v1 h Q → f_X7_figuresOf v0 v1 h Q' := by
  unfold f_X7_figuresOf
  repeat' first
    | with_reducible exact hQ _ _ (by assumption)
    | with_reducible refine zm_and ?_ ?_
    | with_reducible refine zm_ex (fun x => ?_)
    | with_reducible refine z_L_X7_figuresOf_4 (fun y0 h1 z1 => ?_) _ _ _ _ (by assumption)
    | with_reducible refine zm_imp (fun _ => ?_)
    | with_reducible exact id
theorem z_B_X7_dearest_80 {L0 : Nat} {xs0 : Nat → Int32} {Q Q' : Int32 → AH → Prop} {K15 K15' : Int32 → Int32 → AH → Prop} (hQ : ∀ (y0 : Int32) (h : AH), ZZ L0 xs0 h → Q y0 h → Q' y0 h) (hK15 : ∀ (y0 : Int32) (y1 : Int32) (h : AH), ZZ L0 xs0 h → K15 y0 y1 h → K15' y0 y1 h) {v0 : Nat} {v1 : Int32} {v2 : Int32} {v3 : Int32} {v4 : Int32} {h : AH} (z : ZZ L0 xs0 h) : B_X7_dearest_80 Q K15 v0 v1 v2 v3 v4 h → B_X7_dearest_80 Q' K15' v0 v1 v2 v3 v4 h := by
  unfold B_X7_dearest_80
  repeat' first
    | with_reducible exact hQ _ _ (by assumption)
    | with_reducible exact hK15 _ _ _ (by assumption)
    | with_reducible refine zm_and ?_ ?_
    | with_reducible refine z_f_X7_nextRow (fun  h1 z1 => ?_) (by assumption)
    | with_reducible refine zm_imp (fun _ => ?_)
    | with_reducible exact id
theorem z_B_X7_dearest_15 {L0 : Nat} {xs0 : Nat → Int32} {Q Q' : Int32 → AH → Prop} {K15 K15' : Int32 → Int32 → AH → Prop} (hQ : ∀ (y0 : Int32) (h : AH), ZZ L0 xs0 h → Q y0 h → Q' y0 h) (hK15 : ∀ (y0 : Int32) (y1 : Int32) (h : AH), ZZ L0 xs0 h → K15 y0 y1 h → K15' y0 y1 h) {v0 : Nat} {v1 : Int32} {v3 : Int32} {v2 : Int32} {v4 : Int32} {h : AH} (z : ZZ L0 xs0 h) : B_X7_dearest_15 Q K15 v0 v1 v3 v2 v4 h → B_X7_dearest_15 Q' K15' v0 v1 v3 v2 v4 h := by
  unfold B_X7_dearest_15
  repeat' first
    | with_reducible exact hQ _ _ (by assumption)
    | with_reducible exact hK15 _ _ _ (by assumption)
    | with_reducible refine zm_and ?_ ?_
    | with_reducible refine zm_gI (fun x => ?_)
    | with_reducible refine zm_gR (fun x => ?_)
    | with_reducible refine zm_pF (by assumption) (fun h1 z1 => ?_)
    | with_reducible refine z_B_X7_dearest_80 (fun y0 h1 z1 => ?_) (fun y0 y1 h1 z1 => ?_) (by assumption)
    | with_reducible refine z_f_X7_figuresOf (fun y0 h1 z1 => ?_) (by assumption)
    | with_reducible refine z_f_X9_begin (fun  h1 z1 => ?_) (by assumption)
    | with_reducible refine z_f_X9_sendRow (fun  h1 z1 => ?_) (by assumption)
    | with_reducible refine zm_imp (fun _ => ?_)
    | with_reducible exact id
theorem z_L_X7_dearest_15 {L0 : Nat} {xs0 : Nat → Int32} {Q Q' : Int32 → AH → Prop} (hQ : ∀ (y0 : Int32) (h : AH), ZZ L0 xs0 h → Q y0 h → Q' y0 h) {v0 : Nat} {v1 : Int32} {v3 : Int32} : ∀ (n : Nat) (w0 : Int32) (w1 : Int32) (h : AH), ZZ L0 xs0 h → L_X7_dearest_15 Q v0 v1 v3 n w0 w1 h → L_X7_dearest_15 Q' v0 v1 v3 n w0 w1 h := by
  intro n
  induction n with
  | zero => intro w0 w1 h z H; exact H.elim
  | succ n ih => intro w0 w1 h z; exact z_B_X7_dearest_15 hQ ih z
theorem z_f_X7_dearest {L0 : Nat} {xs0 : Nat → Int32} {Q Q' : Int32 → AH → Prop} (hQ : ∀ (y0 : Int32) (h : AH), ZZ L0 xs0 h → Q y0 h → Q' y0 h) {v0 : Nat} {v1 : Int32} {h : AH} (z : ZZ L0 xs0 h) : f_X7_dearest v0 v1 h Q → f_X7_dearest v0 v1 h Q' := by
  unfold f_X7_dearest
  repeat' first
    | with_reducible exact hQ _ _ (by assumption)
    | with_reducible refine zm_and ?_ ?_
    | with_reducible refine zm_ex (fun x => ?_)
    | with_reducible refine z_L_X7_dearest_15 (fun y0 h1 z1 => ?_) _ _ _ _ (by assumption)
    | with_reducible refine z_f_X7_firstRow (fun  h1 z1 => ?_) (by assumption)
    | with_reducible refine z_f_X7_rowsOf (fun y0 h1 z1 => ?_) (by assumption)
    | with_reducible refine zm_imp (fun _ => ?_)
    | with_reducible exact id
theorem z_f_X11_earn {L0 : Nat} {xs0 : Nat → Int32} {Q Q' : Int32 → AH → Prop} (hQ : ∀ (y0 : Int32) (h : AH), ZZ L0 xs0 h → Q y0 h → Q' y0 h) {v0 : Nat} {v1 : Int32} {h : AH} (z : ZZ L0 xs0 h) : f_X11_earn v0 v1 h Q → f_X11_earn v0 v1 h Q' := by
  unfold f_X11_earn
  repeat' first
    | with_reducible exact hQ _ _ (by assumption)
    | with_reducible refine zm_and ?_ ?_
    | with_reducible refine zm_gI (fun x => ?_)
    | with_reducible refine zm_gR (fun x => ?_)
    | with_reducible refine zm_pF (by assumption) (fun h1 z1 => ?_)
    | with_reducible refine z_f_X7_dearest (fun y0 h1 z1 => ?_) (by assumption)
    | with_reducible refine z_f_X7_from (fun  h1 z1 => ?_) (by assumption)
    | with_reducible refine zm_imp (fun _ => ?_)
    | with_reducible exact id
theorem z_B_X12_earn_74 {L0 : Nat} {xs0 : Nat → Int32} {Q Q' : Int32 → AH → Prop} {K35 K35' : Int32 → Int32 → AH → Prop} {K74 K74' : Int32 → Int32 → AH → Prop} (hQ : ∀ (y0 : Int32) (h : AH), ZZ L0 xs0 h → Q y0 h → Q' y0 h) (hK35 : ∀ (y0 : Int32) (y1 : Int32) (h : AH), ZZ L0 xs0 h → K35 y0 y1 h → K35' y0 y1 h) (hK74 : ∀ (y0 : Int32) (y1 : Int32) (h : AH), ZZ L0 xs0 h → K74 y0 y1 h → K74' y0 y1 h) {v0 : Nat} {v1 : Int32} {v2 : Int32} {v3 : Int32} {v4 : Int32} {v6 : Int32} {v7 : Int32} {h : AH} (z : ZZ L0 xs0 h) : B_X12_earn_74 Q K35 K74 v0 v1 v2 v3 v4 v6 v7 h → B_X12_earn_74 Q' K35' K74' v0 v1 v2 v3 v4 v6 v7 h := by
  unfold B_X12_earn_74
  repeat' first
    | with_reducible exact hQ _ _ (by assumption)
    | with_reducible exact hK35 _ _ _ (by assumption)
    | with_reducible exact hK74 _ _ _ (by assumption)
    | with_reducible refine zm_and ?_ ?_
    | with_reducible refine zm_gI (fun x => ?_)
    | with_reducible refine zm_pF (by assumption) (fun h1 z1 => ?_)
    | with_reducible refine zm_imp (fun _ => ?_)
    | with_reducible exact id
theorem z_L_X12_earn_74 {L0 : Nat} {xs0 : Nat → Int32} {Q Q' : Int32 → AH → Prop} {K35 K35' : Int32 → Int32 → AH → Prop} (hQ : ∀ (y0 : Int32) (h : AH), ZZ L0 xs0 h → Q y0 h → Q' y0 h) (hK35 : ∀ (y0 : Int32) (y1 : Int32) (h : AH), ZZ L0 xs0 h → K35 y0 y1 h → K35' y0 y1 h) {v0 : Nat} {v1 : Int32} {v2 : Int32} {v3 : Int32} {v4 : Int32} : ∀ (n : Nat) (w0 : Int32) (w1 : Int32) (h : AH), ZZ L0 xs0 h → L_X12_earn_74 Q K35 v0 v1 v2 v3 v4 n w0 w1 h → L_X12_earn_74 Q' K35' v0 v1 v2 v3 v4 n w0 w1 h := by
  intro n
  induction n with
  | zero => intro w0 w1 h z H; exact H.elim
  | succ n ih => intro w0 w1 h z; exact z_B_X12_earn_74 hQ hK35 ih z
theorem z_B_X12_earn_35 {L0 : Nat} {xs0 : Nat → Int32} {Q Q' : Int32 → AH → Prop} {K35 K35' : Int32 → Int32 → AH → Prop} (hQ : ∀ (y0 : Int32) (h : AH), ZZ L0 xs0 h → Q y0 h → Q' y0 h) (hK35 : ∀ (y0 : Int32) (y1 : Int32) (h : AH), ZZ L0 xs0 h → K35 y0 y1 h → K35' y0 y1 h) {v0 : Nat} {v1 : Int32} {v3 : Int32} {v2 : Int32} {v4 : Int32} {h : AH} (z : ZZ L0 xs0 h) : B_X12_earn_35 Q K35 v0 v1 v3 v2 v4 h → B_X12_earn_35 Q' K35' v0 v1 v3 v2 v4 h := by
  unfold B_X12_earn_35
  repeat' first
    | with_reducible exact hQ _ _ (by assumption)
    | with_reducible exact hK35 _ _ _ (by assumption)
    | with_reducible refine zm_and ?_ ?_
    | with_reducible refine zm_gI (fun x => ?_)
    | with_reducible refine zm_pF (by assumption) (fun h1 z1 => ?_)
    | with_reducible refine zm_ex (fun x => ?_)
    | with_reducible refine z_L_X12_earn_74 (fun y0 h1 z1 => ?_) (fun y0 y1 h1 z1 => ?_) _ _ _ _ (by assumption)
    | with_reducible refine z_f_X12_behindRow (fun y0 h1 z1 => ?_) (by assumption)
    | with_reducible refine zm_imp (fun _ => ?_)
    | with_reducible exact id
