/-! the frame, 0 -/
theorem z_f_X5_init {L0 : Nat} {xs0 : Nat → Int32} {Q Q' : AH → Prop} (hQ : ∀ (h : AH), ZZ L0 xs0 h → Q  h → Q'  h) {v0 : Nat} {h : AH} (z : ZZ L0 xs0 h) : f_X5_init v0 h Q → f_X5_init v0 h Q' := by
  unfold f_X5_init
  repeat' first
    | with_reducible exact hQ _ (by assumption)
    | with_reducible refine zm_and ?_ ?_
    | with_reducible refine zm_pF (by assumption) (fun h1 z1 => ?_)
    | with_reducible refine zm_nA (by assumption) (fun a1 h1 z1 => ?_)
    | with_reducible refine zm_nQ (by assumption) (fun a1 h1 z1 => ?_)
    | with_reducible refine zm_imp (fun _ => ?_)
    | with_reducible exact id
theorem z_B_J7_fill_53178_5 {L0 : Nat} {xs0 : Nat → Int32} {Q Q' : AH → Prop} {K5 K5' : Int32 → AH → Prop} (hQ : ∀ (h : AH), ZZ L0 xs0 h → Q  h → Q'  h) (hK5 : ∀ (y0 : Int32) (h : AH), ZZ L0 xs0 h → K5 y0 h → K5' y0 h) {v0 : Nat} {v1 : Int32} {v3 : Int32} {v2 : Int32} {h : AH} (z : ZZ L0 xs0 h) : B_J7_fill_53178_5 Q K5 v0 v1 v3 v2 h → B_J7_fill_53178_5 Q' K5' v0 v1 v3 v2 h := by
  unfold B_J7_fill_53178_5
  repeat' first
    | with_reducible exact hQ _ (by assumption)
    | with_reducible exact hK5 _ _ (by assumption)
    | with_reducible refine zm_and ?_ ?_
    | with_reducible refine zm_sI (by assumption) (fun h1 z1 => ?_)
    | with_reducible refine zm_imp (fun _ => ?_)
    | with_reducible exact id
theorem z_L_J7_fill_53178_5 {L0 : Nat} {xs0 : Nat → Int32} {Q Q' : AH → Prop} (hQ : ∀ (h : AH), ZZ L0 xs0 h → Q  h → Q'  h) {v0 : Nat} {v1 : Int32} {v3 : Int32} : ∀ (n : Nat) (w0 : Int32) (h : AH), ZZ L0 xs0 h → L_J7_fill_53178_5 Q v0 v1 v3 n w0 h → L_J7_fill_53178_5 Q' v0 v1 v3 n w0 h := by
  intro n
  induction n with
  | zero => intro w0 h z H; exact H.elim
  | succ n ih => intro w0 h z; exact z_B_J7_fill_53178_5 hQ ih z
theorem z_f_J7_fill_53178 {L0 : Nat} {xs0 : Nat → Int32} {Q Q' : AH → Prop} (hQ : ∀ (h : AH), ZZ L0 xs0 h → Q  h → Q'  h) {v0 : Nat} {v1 : Int32} {h : AH} (z : ZZ L0 xs0 h) : f_J7_fill_53178 v0 v1 h Q → f_J7_fill_53178 v0 v1 h Q' := by
  unfold f_J7_fill_53178
  repeat' first
    | with_reducible exact hQ _ (by assumption)
    | with_reducible refine zm_and ?_ ?_
    | with_reducible refine zm_aL (fun x => ?_)
    | with_reducible refine zm_ex (fun x => ?_)
    | with_reducible refine z_L_J7_fill_53178_5 (fun  h1 z1 => ?_) _ _ _ (by assumption)
    | with_reducible refine zm_imp (fun _ => ?_)
    | with_reducible exact id
theorem z_f_X11_isBelow {L0 : Nat} {xs0 : Nat → Int32} {Q Q' : Int32 → AH → Prop} (hQ : ∀ (y0 : Int32) (h : AH), ZZ L0 xs0 h → Q y0 h → Q' y0 h) {v0 : Int32} {v1 : Int32} {h : AH} (z : ZZ L0 xs0 h) : f_X11_isBelow v0 v1 h Q → f_X11_isBelow v0 v1 h Q' := by
  unfold f_X11_isBelow
  repeat' first
    | with_reducible exact hQ _ _ (by assumption)
    | with_reducible refine zm_and ?_ ?_
    | with_reducible refine zm_imp (fun _ => ?_)
    | with_reducible exact id
theorem z_f_X11_found {L0 : Nat} {xs0 : Nat → Int32} {Q Q' : Int32 → AH → Prop} (hQ : ∀ (y0 : Int32) (h : AH), ZZ L0 xs0 h → Q y0 h → Q' y0 h) {v0 : Nat} {v1 : Int32} {h : AH} (z : ZZ L0 xs0 h) : f_X11_found v0 v1 h Q → f_X11_found v0 v1 h Q' := by
  unfold f_X11_found
  repeat' first
    | with_reducible exact hQ _ _ (by assumption)
    | with_reducible refine zm_and ?_ ?_
    | with_reducible refine zm_gR (fun x => ?_)
    | with_reducible refine zm_lI (fun x => ?_)
    | with_reducible refine zm_pF (by assumption) (fun h1 z1 => ?_)
    | with_reducible refine zm_sI (by assumption) (fun h1 z1 => ?_)
    | with_reducible refine zm_imp (fun _ => ?_)
    | with_reducible exact id
theorem z_f_X6_begin {L0 : Nat} {xs0 : Nat → Int32} {Q Q' : AH → Prop} (hQ : ∀ (h : AH), ZZ L0 xs0 h → Q  h → Q'  h) {v0 : Nat} {v1 : Int32} {v2 : Int32} {h : AH} (z : ZZ L0 xs0 h) : f_X6_begin v0 v1 v2 h Q → f_X6_begin v0 v1 v2 h Q' := by
  unfold f_X6_begin
  repeat' first
    | with_reducible exact hQ _ (by assumption)
    | with_reducible refine zm_and ?_ ?_
    | with_reducible refine zm_gR (fun x => ?_)
    | with_reducible refine zm_pF (by assumption) (fun h1 z1 => ?_)
    | with_reducible refine z_f_J7_fill_53178 (fun  h1 z1 => ?_) (by assumption)
    | with_reducible refine zm_imp (fun _ => ?_)
    | with_reducible exact id
theorem z_f_X11_row {L0 : Nat} {xs0 : Nat → Int32} {Q Q' : Int32 → AH → Prop} (hQ : ∀ (y0 : Int32) (h : AH), ZZ L0 xs0 h → Q y0 h → Q' y0 h) {v0 : Nat} {v1 : Int32} {v2 : Int32} {h : AH} (z : ZZ L0 xs0 h) : f_X11_row v0 v1 v2 h Q → f_X11_row v0 v1 v2 h Q' := by
  unfold f_X11_row
  repeat' first
    | with_reducible exact hQ _ _ (by assumption)
    | with_reducible refine zm_and ?_ ?_
    | with_reducible refine zm_gR (fun x => ?_)
    | with_reducible refine zm_lQ (fun x => ?_)
    | with_reducible refine z_f_X11_found (fun y0 h1 z1 => ?_) (by assumption)
    | with_reducible refine z_f_X11_isBelow (fun y0 h1 z1 => ?_) (by assumption)
    | with_reducible refine z_f_X6_begin (fun  h1 z1 => ?_) (by assumption)
    | with_reducible refine zm_imp (fun _ => ?_)
    | with_reducible exact id
theorem z_f_X12_in {L0 : Nat} {xs0 : Nat → Int32} {Q Q' : Int32 → AH → Prop} (hQ : ∀ (y0 : Int32) (h : AH), ZZ L0 xs0 h → Q y0 h → Q' y0 h) {v0 : Int64} {v2 : Int64} {v4 : Int64} {h : AH} (z : ZZ L0 xs0 h) : f_X12_in v0 v2 v4 h Q → f_X12_in v0 v2 v4 h Q' := by
  unfold f_X12_in
  repeat' first
    | with_reducible exact hQ _ _ (by assumption)
    | with_reducible refine zm_and ?_ ?_
    | with_reducible refine zm_imp (fun _ => ?_)
    | with_reducible exact id
theorem z_f_X12_isRow {L0 : Nat} {xs0 : Nat → Int32} {Q Q' : Int32 → AH → Prop} (hQ : ∀ (y0 : Int32) (h : AH), ZZ L0 xs0 h → Q y0 h → Q' y0 h) {v0 : Int32} {h : AH} (z : ZZ L0 xs0 h) : f_X12_isRow v0 h Q → f_X12_isRow v0 h Q' := by
  unfold f_X12_isRow
  repeat' first
    | with_reducible exact hQ _ _ (by assumption)
    | with_reducible refine zm_and ?_ ?_
    | with_reducible refine z_f_X12_in (fun y0 h1 z1 => ?_) (by assumption)
    | with_reducible refine zm_imp (fun _ => ?_)
    | with_reducible exact id
theorem z_f_X12_find {L0 : Nat} {xs0 : Nat → Int32} {Q Q' : Int32 → AH → Prop} (hQ : ∀ (y0 : Int32) (h : AH), ZZ L0 xs0 h → Q y0 h → Q' y0 h) {v0 : Nat} {v1 : Int32} {h : AH} (z : ZZ L0 xs0 h) : f_X12_find v0 v1 h Q → f_X12_find v0 v1 h Q' := by
  unfold f_X12_find
  repeat' first
    | with_reducible exact hQ _ _ (by assumption)
    | with_reducible refine zm_and ?_ ?_
    | with_reducible refine zm_gR (fun x => ?_)
    | with_reducible refine zm_lI (fun x => ?_)
    | with_reducible refine zm_pF (by assumption) (fun h1 z1 => ?_)
    | with_reducible refine zm_sI (by assumption) (fun h1 z1 => ?_)
    | with_reducible refine zm_imp (fun _ => ?_)
    | with_reducible exact id
theorem z_B_X12_makes_9 {L0 : Nat} {xs0 : Nat → Int32} {Q Q' : AH → Prop} {K9 K9' : Int32 → AH → Prop} (hQ : ∀ (h : AH), ZZ L0 xs0 h → Q  h → Q'  h) (hK9 : ∀ (y0 : Int32) (h : AH), ZZ L0 xs0 h → K9 y0 h → K9' y0 h) {v0 : Nat} {v1 : Int32} {v3 : Int32} {h : AH} (z : ZZ L0 xs0 h) : B_X12_makes_9 Q K9 v0 v1 v3 h → B_X12_makes_9 Q' K9' v0 v1 v3 h := by
  unfold B_X12_makes_9
  repeat' first
    | with_reducible exact hQ _ (by assumption)
    | with_reducible exact hK9 _ _ (by assumption)
    | with_reducible refine zm_and ?_ ?_
    | with_reducible refine zm_gR (fun x => ?_)
    | with_reducible refine zm_sI (by assumption) (fun h1 z1 => ?_)
    | with_reducible refine zm_imp (fun _ => ?_)
    | with_reducible exact id
theorem z_L_X12_makes_9 {L0 : Nat} {xs0 : Nat → Int32} {Q Q' : AH → Prop} (hQ : ∀ (h : AH), ZZ L0 xs0 h → Q  h → Q'  h) {v0 : Nat} {v1 : Int32} : ∀ (n : Nat) (w0 : Int32) (h : AH), ZZ L0 xs0 h → L_X12_makes_9 Q v0 v1 n w0 h → L_X12_makes_9 Q' v0 v1 n w0 h := by
  intro n
  induction n with
  | zero => intro w0 h z H; exact H.elim
  | succ n ih => intro w0 h z; exact z_B_X12_makes_9 hQ ih z
theorem z_f_X12_makes {L0 : Nat} {xs0 : Nat → Int32} {Q Q' : AH → Prop} (hQ : ∀ (h : AH), ZZ L0 xs0 h → Q  h → Q'  h) {v0 : Nat} {v1 : Int32} {v2 : Int32} {h : AH} (z : ZZ L0 xs0 h) : f_X12_makes v0 v1 v2 h Q → f_X12_makes v0 v1 v2 h Q' := by
  unfold f_X12_makes
  repeat' first
    | with_reducible exact hQ _ (by assumption)
    | with_reducible refine zm_and ?_ ?_
    | with_reducible refine zm_gR (fun x => ?_)
    | with_reducible refine zm_sI (by assumption) (fun h1 z1 => ?_)
    | with_reducible refine zm_ex (fun x => ?_)
    | with_reducible refine z_L_X12_makes_9 (fun  h1 z1 => ?_) _ _ _ (by assumption)
    | with_reducible refine zm_imp (fun _ => ?_)
    | with_reducible exact id
theorem z_f_X12_row {L0 : Nat} {xs0 : Nat → Int32} {Q Q' : Int32 → AH → Prop} (hQ : ∀ (y0 : Int32) (h : AH), ZZ L0 xs0 h → Q y0 h → Q' y0 h) {v0 : Nat} {v1 : Int32} {v2 : Int32} {h : AH} (z : ZZ L0 xs0 h) : f_X12_row v0 v1 v2 h Q → f_X12_row v0 v1 v2 h Q' := by
  unfold f_X12_row
  repeat' first
    | with_reducible exact hQ _ _ (by assumption)
    | with_reducible refine zm_and ?_ ?_
    | with_reducible refine z_f_X12_find (fun y0 h1 z1 => ?_) (by assumption)
    | with_reducible refine z_f_X12_isRow (fun y0 h1 z1 => ?_) (by assumption)
    | with_reducible refine z_f_X12_makes (fun  h1 z1 => ?_) (by assumption)
    | with_reducible refine zm_imp (fun _ => ?_)
    | with_reducible exact id
theorem z_f_X6_isMissing {L0 : Nat} {xs0 : Nat → Int32} {Q Q' : Int32 → AH → Prop} (hQ : ∀ (y0 : Int32) (h : AH), ZZ L0 xs0 h → Q y0 h → Q' y0 h) {v0 : Nat} {h : AH} (z : ZZ L0 xs0 h) : f_X6_isMissing v0 h Q → f_X6_isMissing v0 h Q' := by
  unfold f_X6_isMissing
  repeat' first
    | with_reducible exact hQ _ _ (by assumption)
    | with_reducible refine zm_and ?_ ?_
    | with_reducible refine zm_gI (fun x => ?_)
    | with_reducible refine zm_imp (fun _ => ?_)
    | with_reducible exact id
theorem z_f_X11_refuseMissing {L0 : Nat} {xs0 : Nat → Int32} {Q Q' : Int32 → AH → Prop} (hQ : ∀ (y0 : Int32) (h : AH), ZZ L0 xs0 h → Q y0 h → Q' y0 h) {v0 : Nat} {v1 : Nat} {v2 : Int32} {h : AH} (z : ZZ L0 xs0 h) : f_X11_refuseMissing v0 v1 v2 h Q → f_X11_refuseMissing v0 v1 v2 h Q' := by
  unfold f_X11_refuseMissing
  repeat' first
    | with_reducible exact hQ _ _ (by assumption)
    | with_reducible refine zm_and ?_ ?_
    | with_reducible refine zm_lQ (fun x => ?_)
    | with_reducible refine zm_aL (fun x => ?_)
    | with_reducible refine z_f_X11_found (fun y0 h1 z1 => ?_) (by assumption)
    | with_reducible refine z_f_X11_isBelow (fun y0 h1 z1 => ?_) (by assumption)
    | with_reducible refine z_f_X6_isMissing (fun y0 h1 z1 => ?_) (by assumption)
    | with_reducible refine zm_imp (fun _ => ?_)
    | with_reducible exact id
theorem z_f_X6_has {L0 : Nat} {xs0 : Nat → Int32} {Q Q' : Int32 → AH → Prop} (hQ : ∀ (y0 : Int32) (h : AH), ZZ L0 xs0 h → Q y0 h → Q' y0 h) {v0 : Nat} {v1 : Int32} {h : AH} (z : ZZ L0 xs0 h) : f_X6_has v0 v1 h Q → f_X6_has v0 v1 h Q' := by
  unfold f_X6_has
  repeat' first
    | with_reducible exact hQ _ _ (by assumption)
    | with_reducible refine zm_and ?_ ?_
    | with_reducible refine zm_gI (fun x => ?_)
    | with_reducible refine zm_imp (fun _ => ?_)
    | with_reducible exact id
theorem z_f_X11_refusePlace {L0 : Nat} {xs0 : Nat → Int32} {Q Q' : Int32 → AH → Prop} (hQ : ∀ (y0 : Int32) (h : AH), ZZ L0 xs0 h → Q y0 h → Q' y0 h) {v0 : Nat} {v1 : Nat} {v2 : Int32} {v3 : Int32} {h : AH} (z : ZZ L0 xs0 h) : f_X11_refusePlace v0 v1 v2 v3 h Q → f_X11_refusePlace v0 v1 v2 v3 h Q' := by
  unfold f_X11_refusePlace
  repeat' first
    | with_reducible exact hQ _ _ (by assumption)
    | with_reducible refine zm_and ?_ ?_
    | with_reducible refine zm_lQ (fun x => ?_)
    | with_reducible refine z_f_X11_found (fun y0 h1 z1 => ?_) (by assumption)
    | with_reducible refine z_f_X11_refuseMissing (fun y0 h1 z1 => ?_) (by assumption)
    | with_reducible refine z_f_X6_has (fun y0 h1 z1 => ?_) (by assumption)
    | with_reducible refine zm_imp (fun _ => ?_)
    | with_reducible exact id
theorem z_f_X6_get {L0 : Nat} {xs0 : Nat → Int32} {Q Q' : Int32 → AH → Prop} (hQ : ∀ (y0 : Int32) (h : AH), ZZ L0 xs0 h → Q y0 h → Q' y0 h) {v0 : Nat} {v1 : Int32} {h : AH} (z : ZZ L0 xs0 h) : f_X6_get v0 v1 h Q → f_X6_get v0 v1 h Q' := by
  unfold f_X6_get
  repeat' first
    | with_reducible exact hQ _ _ (by assumption)
    | with_reducible refine zm_and ?_ ?_
    | with_reducible refine zm_gR (fun x => ?_)
    | with_reducible refine zm_lI (fun x => ?_)
    | with_reducible refine z_f_X6_has (fun y0 h1 z1 => ?_) (by assumption)
    | with_reducible refine zm_imp (fun _ => ?_)
    | with_reducible exact id
theorem z_f_X6_set {L0 : Nat} {xs0 : Nat → Int32} {Q Q' : AH → Prop} (hQ : ∀ (h : AH), ZZ L0 xs0 h → Q  h → Q'  h) {v0 : Nat} {v1 : Int32} {v2 : Int32} {h : AH} (z : ZZ L0 xs0 h) : f_X6_set v0 v1 v2 h Q → f_X6_set v0 v1 v2 h Q' := by
  unfold f_X6_set
  repeat' first
    | with_reducible exact hQ _ (by assumption)
    | with_reducible refine zm_and ?_ ?_
    | with_reducible refine zm_gR (fun x => ?_)
    | with_reducible refine zm_sI (by assumption) (fun h1 z1 => ?_)
    | with_reducible refine z_f_X6_has (fun y0 h1 z1 => ?_) (by assumption)
    | with_reducible refine zm_imp (fun _ => ?_)
    | with_reducible exact id
theorem z_f_X11_lay {L0 : Nat} {xs0 : Nat → Int32} {Q Q' : Int32 → AH → Prop} (hQ : ∀ (y0 : Int32) (h : AH), ZZ L0 xs0 h → Q y0 h → Q' y0 h) {v0 : Nat} {v1 : Int32} {v2 : Int32} {v3 : Int32} {h : AH} (z : ZZ L0 xs0 h) : f_X11_lay v0 v1 v2 v3 h Q → f_X11_lay v0 v1 v2 v3 h Q' := by
  unfold f_X11_lay
  repeat' first
    | with_reducible exact hQ _ _ (by assumption)
    | with_reducible refine zm_and ?_ ?_
    | with_reducible refine zm_gR (fun x => ?_)
    | with_reducible refine zm_lQ (fun x => ?_)
    | with_reducible refine zm_pF (by assumption) (fun h1 z1 => ?_)
    | with_reducible refine z_f_X11_refusePlace (fun y0 h1 z1 => ?_) (by assumption)
    | with_reducible refine z_f_X6_get (fun y0 h1 z1 => ?_) (by assumption)
    | with_reducible refine z_f_X6_set (fun  h1 z1 => ?_) (by assumption)
    | with_reducible refine zm_imp (fun _ => ?_)
    | with_reducible exact id
theorem z_f_X12_lacks {L0 : Nat} {xs0 : Nat → Int32} {Q Q' : Int32 → AH → Prop} (hQ : ∀ (y0 : Int32) (h : AH), ZZ L0 xs0 h → Q y0 h → Q' y0 h) {v0 : Nat} {v1 : Int32} {v2 : Int32} {h : AH} (z : ZZ L0 xs0 h) : f_X12_lacks v0 v1 v2 h Q → f_X12_lacks v0 v1 v2 h Q' := by
  unfold f_X12_lacks
  repeat' first
    | with_reducible exact hQ _ _ (by assumption)
    | with_reducible refine zm_and ?_ ?_
    | with_reducible refine zm_gR (fun x => ?_)
    | with_reducible refine zm_lI (fun x => ?_)
    | with_reducible refine z_f_X12_in (fun y0 h1 z1 => ?_) (by assumption)
    | with_reducible refine zm_imp (fun _ => ?_)
    | with_reducible exact id
theorem z_f_X12_lay {L0 : Nat} {xs0 : Nat → Int32} {Q Q' : Int32 → AH → Prop} (hQ : ∀ (y0 : Int32) (h : AH), ZZ L0 xs0 h → Q y0 h → Q' y0 h) {v0 : Nat} {v1 : Int32} {v2 : Int32} {v3 : Int32} {h : AH} (z : ZZ L0 xs0 h) : f_X12_lay v0 v1 v2 v3 h Q → f_X12_lay v0 v1 v2 v3 h Q' := by
  unfold f_X12_lay
  repeat' first
    | with_reducible exact hQ _ _ (by assumption)
    | with_reducible refine zm_and ?_ ?_
    | with_reducible refine zm_gR (fun x => ?_)
    | with_reducible refine zm_lI (fun x => ?_)
    | with_reducible refine zm_pF (by assumption) (fun h1 z1 => ?_)
    | with_reducible refine zm_sI (by assumption) (fun h1 z1 => ?_)
    | with_reducible refine z_f_X12_find (fun y0 h1 z1 => ?_) (by assumption)
    | with_reducible refine z_f_X12_isRow (fun y0 h1 z1 => ?_) (by assumption)
    | with_reducible refine z_f_X12_lacks (fun y0 h1 z1 => ?_) (by assumption)
    | with_reducible refine zm_imp (fun _ => ?_)
    | with_reducible exact id
theorem z_f_X11_at {L0 : Nat} {xs0 : Nat → Int32} {Q Q' : Int32 → AH → Prop} (hQ : ∀ (y0 : Int32) (h : AH), ZZ L0 xs0 h → Q y0 h → Q' y0 h) {v0 : Nat} {v1 : Int32} {v2 : Int32} {h : AH} (z : ZZ L0 xs0 h) : f_X11_at v0 v1 v2 h Q → f_X11_at v0 v1 v2 h Q' := by
  unfold f_X11_at
  repeat' first
    | with_reducible exact hQ _ _ (by assumption)
    | with_reducible refine zm_and ?_ ?_
    | with_reducible refine zm_gR (fun x => ?_)
    | with_reducible refine zm_lQ (fun x => ?_)
    | with_reducible refine zm_pF (by assumption) (fun h1 z1 => ?_)
    | with_reducible refine z_f_X11_refusePlace (fun y0 h1 z1 => ?_) (by assumption)
    | with_reducible refine z_f_X6_get (fun y0 h1 z1 => ?_) (by assumption)
    | with_reducible refine zm_imp (fun _ => ?_)
    | with_reducible exact id
theorem z_f_X12_tells {L0 : Nat} {xs0 : Nat → Int32} {Q Q' : Int32 → AH → Prop} (hQ : ∀ (y0 : Int32) (h : AH), ZZ L0 xs0 h → Q y0 h → Q' y0 h) {v0 : Nat} {v1 : Int32} {h : AH} (z : ZZ L0 xs0 h) : f_X12_tells v0 v1 h Q → f_X12_tells v0 v1 h Q' := by
  unfold f_X12_tells
  repeat' first
    | with_reducible exact hQ _ _ (by assumption)
    | with_reducible refine zm_and ?_ ?_
    | with_reducible refine zm_pF (by assumption) (fun h1 z1 => ?_)
    | with_reducible refine zm_imp (fun _ => ?_)
    | with_reducible exact id
theorem z_f_X12_at {L0 : Nat} {xs0 : Nat → Int32} {Q Q' : Int32 → AH → Prop} (hQ : ∀ (y0 : Int32) (h : AH), ZZ L0 xs0 h → Q y0 h → Q' y0 h) {v0 : Nat} {v1 : Int32} {v2 : Int32} {h : AH} (z : ZZ L0 xs0 h) : f_X12_at v0 v1 v2 h Q → f_X12_at v0 v1 v2 h Q' := by
  unfold f_X12_at
  repeat' first
    | with_reducible exact hQ _ _ (by assumption)
    | with_reducible refine zm_and ?_ ?_
    | with_reducible refine zm_gR (fun x => ?_)
    | with_reducible refine zm_lI (fun x => ?_)
    | with_reducible refine z_f_X12_find (fun y0 h1 z1 => ?_) (by assumption)
    | with_reducible refine z_f_X12_isRow (fun y0 h1 z1 => ?_) (by assumption)
    | with_reducible refine z_f_X12_lacks (fun y0 h1 z1 => ?_) (by assumption)
    | with_reducible refine z_f_X12_tells (fun y0 h1 z1 => ?_) (by assumption)
    | with_reducible refine zm_imp (fun _ => ?_)
    | with_reducible exact id
theorem z_f_X6_remove {L0 : Nat} {xs0 : Nat → Int32} {Q Q' : AH → Prop} (hQ : ∀ (h : AH), ZZ L0 xs0 h → Q  h → Q'  h) {v0 : Nat} {h : AH} (z : ZZ L0 xs0 h) : f_X6_remove v0 h Q → f_X6_remove v0 h Q' := by
  unfold f_X6_remove
  repeat' first
    | with_reducible exact hQ _ (by assumption)
    | with_reducible refine zm_and ?_ ?_
    | with_reducible refine zm_pF (by assumption) (fun h1 z1 => ?_)
    | with_reducible refine zm_imp (fun _ => ?_)
    | with_reducible exact id
theorem z_f_X11_tear {L0 : Nat} {xs0 : Nat → Int32} {Q Q' : Int32 → AH → Prop} (hQ : ∀ (y0 : Int32) (h : AH), ZZ L0 xs0 h → Q y0 h → Q' y0 h) {v0 : Nat} {v1 : Int32} {h : AH} (z : ZZ L0 xs0 h) : f_X11_tear v0 v1 h Q → f_X11_tear v0 v1 h Q' := by
  unfold f_X11_tear
  repeat' first
    | with_reducible exact hQ _ _ (by assumption)
    | with_reducible refine zm_and ?_ ?_
    | with_reducible refine zm_gR (fun x => ?_)
    | with_reducible refine zm_lQ (fun x => ?_)
    | with_reducible refine z_f_X11_refuseMissing (fun y0 h1 z1 => ?_) (by assumption)
    | with_reducible refine z_f_X6_remove (fun  h1 z1 => ?_) (by assumption)
    | with_reducible refine zm_imp (fun _ => ?_)
    | with_reducible exact id
theorem z_f_X12_tear {L0 : Nat} {xs0 : Nat → Int32} {Q Q' : Int32 → AH → Prop} (hQ : ∀ (y0 : Int32) (h : AH), ZZ L0 xs0 h → Q y0 h → Q' y0 h) {v0 : Nat} {v1 : Int32} {h : AH} (z : ZZ L0 xs0 h) : f_X12_tear v0 v1 h Q → f_X12_tear v0 v1 h Q' := by
  unfold f_X12_tear
  repeat' first
    | with_reducible exact hQ _ _ (by assumption)
    | with_reducible refine zm_and ?_ ?_
    | with_reducible refine zm_gR (fun x => ?_)
    | with_reducible refine zm_lI (fun x => ?_)
    | with_reducible refine zm_sI (by assumption) (fun h1 z1 => ?_)
    | with_reducible refine z_f_X12_find (fun y0 h1 z1 => ?_) (by assumption)
    | with_reducible refine z_f_X12_isRow (fun y0 h1 z1 => ?_) (by assumption)
    | with_reducible refine zm_imp (fun _ => ?_)
    | with_reducible exact id
theorem z_f_X6_hasPart {L0 : Nat} {xs0 : Nat → Int32} {Q Q' : Int32 → AH → Prop} (hQ : ∀ (y0 : Int32) (h : AH), ZZ L0 xs0 h → Q y0 h → Q' y0 h) {v0 : Nat} {v1 : Int32} {v2 : Int32} {h : AH} (z : ZZ L0 xs0 h) : f_X6_hasPart v0 v1 v2 h Q → f_X6_hasPart v0 v1 v2 h Q' := by
  unfold f_X6_hasPart
  repeat' first
    | with_reducible exact hQ _ _ (by assumption)
    | with_reducible refine zm_and ?_ ?_
    | with_reducible refine zm_gI (fun x => ?_)
    | with_reducible refine zm_imp (fun _ => ?_)
    | with_reducible exact id
theorem z_B_X11_copy_92 {L0 : Nat} {xs0 : Nat → Int32} {Q Q' : Int32 → AH → Prop} (hQ : ∀ (y0 : Int32) (h : AH), ZZ L0 xs0 h → Q y0 h → Q' y0 h) {v0 : Nat} {h : AH} (z : ZZ L0 xs0 h) : B_X11_copy_92 Q v0 h → B_X11_copy_92 Q' v0 h := by
  unfold B_X11_copy_92
  repeat' first
    | with_reducible exact hQ _ _ (by assumption)
    | with_reducible refine zm_and ?_ ?_
    | with_reducible refine z_f_X11_found (fun y0 h1 z1 => ?_) (by assumption)
    | with_reducible refine zm_imp (fun _ => ?_)
    | with_reducible exact id
theorem z_B_X11_copy_55 {L0 : Nat} {xs0 : Nat → Int32} {Q Q' : Int32 → AH → Prop} (hQ : ∀ (y0 : Int32) (h : AH), ZZ L0 xs0 h → Q y0 h → Q' y0 h) {v0 : Nat} {h : AH} (z : ZZ L0 xs0 h) : B_X11_copy_55 Q v0 h → B_X11_copy_55 Q' v0 h := by
  unfold B_X11_copy_55
  repeat' first
    | with_reducible exact hQ _ _ (by assumption)
    | with_reducible refine zm_and ?_ ?_
    | with_reducible refine z_f_X11_found (fun y0 h1 z1 => ?_) (by assumption)
    | with_reducible refine zm_imp (fun _ => ?_)
    | with_reducible exact id
theorem z_f_X11_copy {L0 : Nat} {xs0 : Nat → Int32} {Q Q' : Int32 → AH → Prop} (hQ : ∀ (y0 : Int32) (h : AH), ZZ L0 xs0 h → Q y0 h → Q' y0 h) {v0 : Nat} {v1 : Int32} {v2 : Int32} {v3 : Int32} {v4 : Int32} {v5 : Int32} {h : AH} (z : ZZ L0 xs0 h) : f_X11_copy v0 v1 v2 v3 v4 v5 h Q → f_X11_copy v0 v1 v2 v3 v4 v5 h Q' := by
  unfold f_X11_copy
  repeat' first
    | with_reducible exact hQ _ _ (by assumption)
    | with_reducible refine zm_and ?_ ?_
    | with_reducible refine zm_gR (fun x => ?_)
    | with_reducible refine zm_lQ (fun x => ?_)
    | with_reducible refine zm_cpI (by assumption) (fun h1 z1 => ?_)
    | with_reducible refine z_B_X11_copy_55 (fun y0 h1 z1 => ?_) (by assumption)
    | with_reducible refine z_B_X11_copy_92 (fun y0 h1 z1 => ?_) (by assumption)
    | with_reducible refine z_f_X11_found (fun y0 h1 z1 => ?_) (by assumption)
    | with_reducible refine z_f_X11_isBelow (fun y0 h1 z1 => ?_) (by assumption)
    | with_reducible refine z_f_X6_hasPart (fun y0 h1 z1 => ?_) (by assumption)
    | with_reducible refine z_f_X6_isMissing (fun y0 h1 z1 => ?_) (by assumption)
    | with_reducible refine zm_imp (fun _ => ?_)
    | with_reducible exact id
theorem z_B_X12_copy_129 {L0 : Nat} {xs0 : Nat → Int32} {Q Q' : Int32 → AH → Prop} {K104 K104' : Int32 → AH → Prop} (hQ : ∀ (y0 : Int32) (h : AH), ZZ L0 xs0 h → Q y0 h → Q' y0 h) (hK104 : ∀ (y0 : Int32) (h : AH), ZZ L0 xs0 h → K104 y0 h → K104' y0 h) {v0 : Nat} {v1 : Int32} {v2 : Int32} {v3 : Int32} {v4 : Int32} {v5 : Int32} {v6 : Int32} {t0 : Int32} {h : AH} (z : ZZ L0 xs0 h) : B_X12_copy_129 Q K104 v0 v1 v2 v3 v4 v5 v6 t0 h → B_X12_copy_129 Q' K104' v0 v1 v2 v3 v4 v5 v6 t0 h := by
  unfold B_X12_copy_129
  repeat' first
    | with_reducible exact hQ _ _ (by assumption)
    | with_reducible exact hK104 _ _ (by assumption)
    | with_reducible refine zm_and ?_ ?_
    | with_reducible refine zm_gR (fun x => ?_)
    | with_reducible refine zm_lI (fun x => ?_)
    | with_reducible refine zm_sI (by assumption) (fun h1 z1 => ?_)
    | with_reducible refine zm_imp (fun _ => ?_)
    | with_reducible exact id
theorem z_B_X12_copy_104 {L0 : Nat} {xs0 : Nat → Int32} {Q Q' : Int32 → AH → Prop} {K104 K104' : Int32 → AH → Prop} (hQ : ∀ (y0 : Int32) (h : AH), ZZ L0 xs0 h → Q y0 h → Q' y0 h) (hK104 : ∀ (y0 : Int32) (h : AH), ZZ L0 xs0 h → K104 y0 h → K104' y0 h) {v0 : Nat} {v1 : Int32} {v2 : Int32} {v3 : Int32} {v4 : Int32} {v5 : Int32} {v6 : Int32} {h : AH} (z : ZZ L0 xs0 h) : B_X12_copy_104 Q K104 v0 v1 v2 v3 v4 v5 v6 h → B_X12_copy_104 Q' K104' v0 v1 v2 v3 v4 v5 v6 h := by
  unfold B_X12_copy_104
  repeat' first
    | with_reducible exact hQ _ _ (by assumption)
    | with_reducible exact hK104 _ _ (by assumption)
    | with_reducible refine zm_and ?_ ?_
    | with_reducible refine z_B_X12_copy_129 (fun y0 h1 z1 => ?_) (fun y0 h1 z1 => ?_) (by assumption)
    | with_reducible refine zm_imp (fun _ => ?_)
    | with_reducible exact id
theorem z_L_X12_copy_104 {L0 : Nat} {xs0 : Nat → Int32} {Q Q' : Int32 → AH → Prop} (hQ : ∀ (y0 : Int32) (h : AH), ZZ L0 xs0 h → Q y0 h → Q' y0 h) {v0 : Nat} {v1 : Int32} {v2 : Int32} {v3 : Int32} {v4 : Int32} {v5 : Int32} : ∀ (n : Nat) (w0 : Int32) (h : AH), ZZ L0 xs0 h → L_X12_copy_104 Q v0 v1 v2 v3 v4 v5 n w0 h → L_X12_copy_104 Q' v0 v1 v2 v3 v4 v5 n w0 h := by
  intro n
  induction n with
  | zero => intro w0 h z H; exact H.elim
  | succ n ih => intro w0 h z; exact z_B_X12_copy_104 hQ ih z
theorem z_B_X12_copy_45 {L0 : Nat} {xs0 : Nat → Int32} {Q Q' : Int32 → AH → Prop} (hQ : ∀ (y0 : Int32) (h : AH), ZZ L0 xs0 h → Q y0 h → Q' y0 h) {v0 : Nat} {h : AH} (z : ZZ L0 xs0 h) : B_X12_copy_45 Q v0 h → B_X12_copy_45 Q' v0 h := by
  unfold B_X12_copy_45
  repeat' first
    | with_reducible exact hQ _ _ (by assumption)
    | with_reducible refine zm_and ?_ ?_
    | with_reducible refine z_f_X12_find (fun y0 h1 z1 => ?_) (by assumption)
    | with_reducible refine zm_imp (fun _ => ?_)
    | with_reducible exact id
theorem z_B_X12_copy_95 {L0 : Nat} {xs0 : Nat → Int32} {Q Q' : Int32 → AH → Prop} (hQ : ∀ (y0 : Int32) (h : AH), ZZ L0 xs0 h → Q y0 h → Q' y0 h) {v0 : Nat} {h : AH} (z : ZZ L0 xs0 h) : B_X12_copy_95 Q v0 h → B_X12_copy_95 Q' v0 h := by
  unfold B_X12_copy_95
  repeat' first
    | with_reducible exact hQ _ _ (by assumption)
    | with_reducible refine zm_and ?_ ?_
    | with_reducible refine z_f_X12_find (fun y0 h1 z1 => ?_) (by assumption)
    | with_reducible refine zm_imp (fun _ => ?_)
    | with_reducible exact id
theorem z_f_X12_copy {L0 : Nat} {xs0 : Nat → Int32} {Q Q' : Int32 → AH → Prop} (hQ : ∀ (y0 : Int32) (h : AH), ZZ L0 xs0 h → Q y0 h → Q' y0 h) {v0 : Nat} {v1 : Int32} {v2 : Int32} {v3 : Int32} {v4 : Int32} {v5 : Int32} {h : AH} (z : ZZ L0 xs0 h) : f_X12_copy v0 v1 v2 v3 v4 v5 h Q → f_X12_copy v0 v1 v2 v3 v4 v5 h Q' := by
  unfold f_X12_copy
  repeat' first
    | with_reducible exact hQ _ _ (by assumption)
    | with_reducible refine zm_and ?_ ?_
    | with_reducible refine zm_gR (fun x => ?_)
    | with_reducible refine zm_lI (fun x => ?_)
    | with_reducible refine zm_ex (fun x => ?_)
    | with_reducible refine z_B_X12_copy_45 (fun y0 h1 z1 => ?_) (by assumption)
    | with_reducible refine z_B_X12_copy_95 (fun y0 h1 z1 => ?_) (by assumption)
    | with_reducible refine z_L_X12_copy_104 (fun y0 h1 z1 => ?_) _ _ _ (by assumption)
    | with_reducible refine z_f_X12_find (fun y0 h1 z1 => ?_) (by assumption)
    | with_reducible refine z_f_X12_isRow (fun y0 h1 z1 => ?_) (by assumption)
    | with_reducible refine zm_imp (fun _ => ?_)
    | with_reducible exact id
theorem z_B_X11_mean_42 {L0 : Nat} {xs0 : Nat → Int32} {Q Q' : Int32 → AH → Prop} {K42 K42' : Int64 → Int32 → AH → Prop} (hQ : ∀ (y0 : Int32) (h : AH), ZZ L0 xs0 h → Q y0 h → Q' y0 h) (hK42 : ∀ (y0 : Int64) (y1 : Int32) (h : AH), ZZ L0 xs0 h → K42 y0 y1 h → K42' y0 y1 h) {v0 : Nat} {v3 : Nat} {v4 : Int64} {v6 : Int32} {h : AH} (z : ZZ L0 xs0 h) : B_X11_mean_42 Q K42 v0 v3 v4 v6 h → B_X11_mean_42 Q' K42' v0 v3 v4 v6 h := by
  unfold B_X11_mean_42
  repeat' first
    | with_reducible exact hQ _ _ (by assumption)
    | with_reducible exact hK42 _ _ _ (by assumption)
    | with_reducible refine zm_and ?_ ?_
    | with_reducible refine zm_gI (fun x => ?_)
    | with_reducible refine zm_pF (by assumption) (fun h1 z1 => ?_)
    | with_reducible refine z_f_X6_get (fun y0 h1 z1 => ?_) (by assumption)
    | with_reducible refine zm_imp (fun _ => ?_)
    | with_reducible exact id
theorem z_L_X11_mean_42 {L0 : Nat} {xs0 : Nat → Int32} {Q Q' : Int32 → AH → Prop} (hQ : ∀ (y0 : Int32) (h : AH), ZZ L0 xs0 h → Q y0 h → Q' y0 h) {v0 : Nat} {v3 : Nat} : ∀ (n : Nat) (w0 : Int64) (w1 : Int32) (h : AH), ZZ L0 xs0 h → L_X11_mean_42 Q v0 v3 n w0 w1 h → L_X11_mean_42 Q' v0 v3 n w0 w1 h := by
  intro n
  induction n with
  | zero => intro w0 w1 h z H; exact H.elim
  | succ n ih => intro w0 w1 h z; exact z_B_X11_mean_42 hQ ih z
theorem z_f_X11_mean {L0 : Nat} {xs0 : Nat → Int32} {Q Q' : Int32 → AH → Prop} (hQ : ∀ (y0 : Int32) (h : AH), ZZ L0 xs0 h → Q y0 h → Q' y0 h) {v0 : Nat} {v1 : Int32} {h : AH} (z : ZZ L0 xs0 h) : f_X11_mean v0 v1 h Q → f_X11_mean v0 v1 h Q' := by
  unfold f_X11_mean
  repeat' first
    | with_reducible exact hQ _ _ (by assumption)
    | with_reducible refine zm_and ?_ ?_
    | with_reducible refine zm_gI (fun x => ?_)
    | with_reducible refine zm_gR (fun x => ?_)
    | with_reducible refine zm_lQ (fun x => ?_)
    | with_reducible refine zm_ex (fun x => ?_)
    | with_reducible refine z_L_X11_mean_42 (fun y0 h1 z1 => ?_) _ _ _ _ (by assumption)
    | with_reducible refine z_f_X11_found (fun y0 h1 z1 => ?_) (by assumption)
    | with_reducible refine z_f_X11_refuseMissing (fun y0 h1 z1 => ?_) (by assumption)
    | with_reducible refine zm_imp (fun _ => ?_)
    | with_reducible exact id
theorem z_B_X12_mean_44 {L0 : Nat} {xs0 : Nat → Int32} {Q Q' : Int32 → AH → Prop} {K44 K44' : Int64 → Int32 → AH → Prop} (hQ : ∀ (y0 : Int32) (h : AH), ZZ L0 xs0 h → Q y0 h → Q' y0 h) (hK44 : ∀ (y0 : Int64) (y1 : Int32) (h : AH), ZZ L0 xs0 h → K44 y0 y1 h → K44' y0 y1 h) {v0 : Nat} {v1 : Int32} {v2 : Int64} {v4 : Int32} {h : AH} (z : ZZ L0 xs0 h) : B_X12_mean_44 Q K44 v0 v1 v2 v4 h → B_X12_mean_44 Q' K44' v0 v1 v2 v4 h := by
  unfold B_X12_mean_44
  repeat' first
    | with_reducible exact hQ _ _ (by assumption)
    | with_reducible exact hK44 _ _ _ (by assumption)
    | with_reducible refine zm_and ?_ ?_
    | with_reducible refine zm_gR (fun x => ?_)
    | with_reducible refine zm_lI (fun x => ?_)
    | with_reducible refine z_f_X12_tells (fun y0 h1 z1 => ?_) (by assumption)
    | with_reducible refine zm_imp (fun _ => ?_)
    | with_reducible exact id
theorem z_L_X12_mean_44 {L0 : Nat} {xs0 : Nat → Int32} {Q Q' : Int32 → AH → Prop} (hQ : ∀ (y0 : Int32) (h : AH), ZZ L0 xs0 h → Q y0 h → Q' y0 h) {v0 : Nat} {v1 : Int32} : ∀ (n : Nat) (w0 : Int64) (w1 : Int32) (h : AH), ZZ L0 xs0 h → L_X12_mean_44 Q v0 v1 n w0 w1 h → L_X12_mean_44 Q' v0 v1 n w0 w1 h := by
  intro n
  induction n with
  | zero => intro w0 w1 h z H; exact H.elim
  | succ n ih => intro w0 w1 h z; exact z_B_X12_mean_44 hQ ih z
theorem z_f_X12_mean {L0 : Nat} {xs0 : Nat → Int32} {Q Q' : Int32 → AH → Prop} (hQ : ∀ (y0 : Int32) (h : AH), ZZ L0 xs0 h → Q y0 h → Q' y0 h) {v0 : Nat} {v1 : Int32} {h : AH} (z : ZZ L0 xs0 h) : f_X12_mean v0 v1 h Q → f_X12_mean v0 v1 h Q' := by
  unfold f_X12_mean
  repeat' first
    | with_reducible exact hQ _ _ (by assumption)
    | with_reducible refine zm_and ?_ ?_
    | with_reducible refine zm_gR (fun x => ?_)
    | with_reducible refine zm_lI (fun x => ?_)
    | with_reducible refine zm_ex (fun x => ?_)
    | with_reducible refine z_L_X12_mean_44 (fun y0 h1 z1 => ?_) _ _ _ _ (by assumption)
    | with_reducible refine z_f_X12_find (fun y0 h1 z1 => ?_) (by assumption)
    | with_reducible refine z_f_X12_isRow (fun y0 h1 z1 => ?_) (by assumption)
    | with_reducible refine zm_imp (fun _ => ?_)
    | with_reducible exact id
theorem z_f_X11_text {L0 : Nat} {xs0 : Nat → Int32} {Q Q' : Int32 → AH → Prop} (hQ : ∀ (y0 : Int32) (h : AH), ZZ L0 xs0 h → Q y0 h → Q' y0 h) {v0 : Nat} {v1 : Int32} {v2 : Int32} {h : AH} (z : ZZ L0 xs0 h) : f_X11_text v0 v1 v2 h Q → f_X11_text v0 v1 v2 h Q' := by
  unfold f_X11_text
  repeat' first
    | with_reducible exact hQ _ _ (by assumption)
    | with_reducible refine zm_and ?_ ?_
    | with_reducible refine zm_gR (fun x => ?_)
    | with_reducible refine zm_lQ (fun x => ?_)
    | with_reducible refine z_f_X11_found (fun y0 h1 z1 => ?_) (by assumption)
    | with_reducible refine z_f_X11_isBelow (fun y0 h1 z1 => ?_) (by assumption)
    | with_reducible refine z_f_X6_begin (fun  h1 z1 => ?_) (by assumption)
    | with_reducible refine zm_imp (fun _ => ?_)
    | with_reducible exact id
theorem z_f_X12_isText {L0 : Nat} {xs0 : Nat → Int32} {Q Q' : Int32 → AH → Prop} (hQ : ∀ (y0 : Int32) (h : AH), ZZ L0 xs0 h → Q y0 h → Q' y0 h) {v0 : Int32} {h : AH} (z : ZZ L0 xs0 h) : f_X12_isText v0 h Q → f_X12_isText v0 h Q' := by
  unfold f_X12_isText
  repeat' first
    | with_reducible exact hQ _ _ (by assumption)
    | with_reducible refine zm_and ?_ ?_
    | with_reducible refine z_f_X12_in (fun y0 h1 z1 => ?_) (by assumption)
    | with_reducible refine zm_imp (fun _ => ?_)
    | with_reducible exact id
theorem z_B_X12_text_34 {L0 : Nat} {xs0 : Nat → Int32} {Q Q' : Int32 → AH → Prop} {K34 K34' : Int32 → AH → Prop} (hQ : ∀ (y0 : Int32) (h : AH), ZZ L0 xs0 h → Q y0 h → Q' y0 h) (hK34 : ∀ (y0 : Int32) (h : AH), ZZ L0 xs0 h → K34 y0 h → K34' y0 h) {v0 : Nat} {v1 : Int32} {v2 : Int32} {v3 : Int32} {h : AH} (z : ZZ L0 xs0 h) : B_X12_text_34 Q K34 v0 v1 v2 v3 h → B_X12_text_34 Q' K34' v0 v1 v2 v3 h := by
  unfold B_X12_text_34
  repeat' first
    | with_reducible exact hQ _ _ (by assumption)
    | with_reducible exact hK34 _ _ (by assumption)
    | with_reducible refine zm_and ?_ ?_
    | with_reducible refine zm_gR (fun x => ?_)
    | with_reducible refine zm_sI (by assumption) (fun h1 z1 => ?_)
    | with_reducible refine zm_imp (fun _ => ?_)
    | with_reducible exact id
theorem z_L_X12_text_34 {L0 : Nat} {xs0 : Nat → Int32} {Q Q' : Int32 → AH → Prop} (hQ : ∀ (y0 : Int32) (h : AH), ZZ L0 xs0 h → Q y0 h → Q' y0 h) {v0 : Nat} {v1 : Int32} {v2 : Int32} : ∀ (n : Nat) (w0 : Int32) (h : AH), ZZ L0 xs0 h → L_X12_text_34 Q v0 v1 v2 n w0 h → L_X12_text_34 Q' v0 v1 v2 n w0 h := by
  intro n
  induction n with
  | zero => intro w0 h z H; exact H.elim
  | succ n ih => intro w0 h z; exact z_B_X12_text_34 hQ ih z
theorem z_f_X12_text {L0 : Nat} {xs0 : Nat → Int32} {Q Q' : Int32 → AH → Prop} (hQ : ∀ (y0 : Int32) (h : AH), ZZ L0 xs0 h → Q y0 h → Q' y0 h) {v0 : Nat} {v1 : Int32} {v2 : Int32} {h : AH} (z : ZZ L0 xs0 h) : f_X12_text v0 v1 v2 h Q → f_X12_text v0 v1 v2 h Q' := by
  unfold f_X12_text
  repeat' first
    | with_reducible exact hQ _ _ (by assumption)
    | with_reducible refine zm_and ?_ ?_
    | with_reducible refine zm_gR (fun x => ?_)
    | with_reducible refine zm_sI (by assumption) (fun h1 z1 => ?_)
    | with_reducible refine zm_ex (fun x => ?_)
    | with_reducible refine z_L_X12_text_34 (fun y0 h1 z1 => ?_) _ _ _ (by assumption)
    | with_reducible refine z_f_X12_find (fun y0 h1 z1 => ?_) (by assumption)
    | with_reducible refine z_f_X12_isText (fun y0 h1 z1 => ?_) (by assumption)
    | with_reducible refine zm_imp (fun _ => ?_)
    | with_reducible exact id
theorem z_f_X11_put {L0 : Nat} {xs0 : Nat → Int32} {Q Q' : Int32 → AH → Prop} (hQ : ∀ (y0 : Int32) (h : AH), ZZ L0 xs0 h → Q y0 h → Q' y0 h) {v0 : Nat} {v1 : Int32} {v2 : Int32} {v3 : Int32} {h : AH} (z : ZZ L0 xs0 h) : f_X11_put v0 v1 v2 v3 h Q → f_X11_put v0 v1 v2 v3 h Q' := by
  unfold f_X11_put
  repeat' first
    | with_reducible exact hQ _ _ (by assumption)
    | with_reducible refine zm_and ?_ ?_
    | with_reducible refine zm_gR (fun x => ?_)
    | with_reducible refine zm_lQ (fun x => ?_)
    | with_reducible refine z_f_X11_refusePlace (fun y0 h1 z1 => ?_) (by assumption)
    | with_reducible refine z_f_X6_get (fun y0 h1 z1 => ?_) (by assumption)
    | with_reducible refine z_f_X6_set (fun  h1 z1 => ?_) (by assumption)
    | with_reducible refine zm_imp (fun _ => ?_)
    | with_reducible exact id
theorem z_f_X12_put {L0 : Nat} {xs0 : Nat → Int32} {Q Q' : Int32 → AH → Prop} (hQ : ∀ (y0 : Int32) (h : AH), ZZ L0 xs0 h → Q y0 h → Q' y0 h) {v0 : Nat} {v1 : Int32} {v2 : Int32} {v3 : Int32} {h : AH} (z : ZZ L0 xs0 h) : f_X12_put v0 v1 v2 v3 h Q → f_X12_put v0 v1 v2 v3 h Q' := by
  unfold f_X12_put
  repeat' first
    | with_reducible exact hQ _ _ (by assumption)
    | with_reducible refine zm_and ?_ ?_
    | with_reducible refine zm_gR (fun x => ?_)
    | with_reducible refine zm_lI (fun x => ?_)
    | with_reducible refine zm_sI (by assumption) (fun h1 z1 => ?_)
    | with_reducible refine z_f_X12_find (fun y0 h1 z1 => ?_) (by assumption)
    | with_reducible refine z_f_X12_in (fun y0 h1 z1 => ?_) (by assumption)
    | with_reducible refine z_f_X12_isText (fun y0 h1 z1 => ?_) (by assumption)
    | with_reducible refine zm_imp (fun _ => ?_)
    | with_reducible exact id
theorem z_f_X4_init {L0 : Nat} {xs0 : Nat → Int32} {Q Q' : AH → Prop} (hQ : ∀ (h : AH), ZZ L0 xs0 h → Q  h → Q'  h) {v0 : Nat} {v1 : Nat} {h : AH} (z : ZZ L0 xs0 h) : f_X4_init v0 v1 h Q → f_X4_init v0 v1 h Q' := by
  unfold f_X4_init
  repeat' first
    | with_reducible exact hQ _ (by assumption)
    | with_reducible refine zm_and ?_ ?_
    | with_reducible refine zm_pF (by assumption) (fun h1 z1 => ?_)
    | with_reducible refine zm_nO (by assumption) (fun a1 h1 z1 => ?_)
    | with_reducible refine z_f_X5_init (fun  h1 z1 => ?_) (by assumption)
    | with_reducible refine zm_imp (fun _ => ?_)
    | with_reducible exact id
theorem z_B_X4_skipBlanks_0 {L0 : Nat} {xs0 : Nat → Int32} {Q Q' : AH → Prop} {K0 K0' : AH → Prop} (hQ : ∀ (h : AH), ZZ L0 xs0 h → Q  h → Q'  h) (hK0 : ∀ (h : AH), ZZ L0 xs0 h → K0  h → K0'  h) {v0 : Nat} {h : AH} (z : ZZ L0 xs0 h) : B_X4_skipBlanks_0 Q K0 v0 h → B_X4_skipBlanks_0 Q' K0' v0 h := by
  unfold B_X4_skipBlanks_0
  repeat' first
    | with_reducible exact hQ _ (by assumption)
    | with_reducible exact hK0 _ (by assumption)
    | with_reducible refine zm_and ?_ ?_
    | with_reducible refine zm_gI (fun x => ?_)
    | with_reducible refine zm_gR (fun x => ?_)
    | with_reducible refine zm_pF (by assumption) (fun h1 z1 => ?_)
    | with_reducible refine z_f_X6_get (fun y0 h1 z1 => ?_) (by assumption)
    | with_reducible refine zm_imp (fun _ => ?_)
    | with_reducible exact id
theorem z_L_X4_skipBlanks_0 {L0 : Nat} {xs0 : Nat → Int32} {Q Q' : AH → Prop} (hQ : ∀ (h : AH), ZZ L0 xs0 h → Q  h → Q'  h) {v0 : Nat} : ∀ (n : Nat)  (h : AH), ZZ L0 xs0 h → L_X4_skipBlanks_0 Q v0 n  h → L_X4_skipBlanks_0 Q' v0 n  h := by
  intro n
  induction n with
  | zero => intro  h z H; exact H.elim
  | succ n ih => intro  h z; exact z_B_X4_skipBlanks_0 hQ ih z
theorem z_f_X4_skipBlanks {L0 : Nat} {xs0 : Nat → Int32} {Q Q' : AH → Prop} (hQ : ∀ (h : AH), ZZ L0 xs0 h → Q  h → Q'  h) {v0 : Nat} {h : AH} (z : ZZ L0 xs0 h) : f_X4_skipBlanks v0 h Q → f_X4_skipBlanks v0 h Q' := by
  unfold f_X4_skipBlanks
  repeat' first
    | with_reducible exact hQ _ (by assumption)
    | with_reducible refine zm_and ?_ ?_
    | with_reducible refine zm_ex (fun x => ?_)
    | with_reducible refine z_L_X4_skipBlanks_0 (fun  h1 z1 => ?_) _ _ (by assumption)
    | with_reducible refine zm_imp (fun _ => ?_)
    | with_reducible exact id
theorem z_f_X4_sign {L0 : Nat} {xs0 : Nat → Int32} {Q Q' : Int32 → AH → Prop} (hQ : ∀ (y0 : Int32) (h : AH), ZZ L0 xs0 h → Q y0 h → Q' y0 h) {v0 : Nat} {h : AH} (z : ZZ L0 xs0 h) : f_X4_sign v0 h Q → f_X4_sign v0 h Q' := by
  unfold f_X4_sign
  repeat' first
    | with_reducible exact hQ _ _ (by assumption)
    | with_reducible refine zm_and ?_ ?_
    | with_reducible refine zm_gI (fun x => ?_)
    | with_reducible refine zm_gR (fun x => ?_)
    | with_reducible refine z_f_X6_get (fun y0 h1 z1 => ?_) (by assumption)
    | with_reducible refine z_f_X6_has (fun y0 h1 z1 => ?_) (by assumption)
    | with_reducible refine zm_imp (fun _ => ?_)
    | with_reducible exact id
theorem z_f_X4_isFigure {L0 : Nat} {xs0 : Nat → Int32} {Q Q' : Int32 → AH → Prop} (hQ : ∀ (y0 : Int32) (h : AH), ZZ L0 xs0 h → Q y0 h → Q' y0 h) {v0 : Nat} {v1 : Int32} {v2 : Int32} {h : AH} (z : ZZ L0 xs0 h) : f_X4_isFigure v0 v1 v2 h Q → f_X4_isFigure v0 v1 v2 h Q' := by
  unfold f_X4_isFigure
  repeat' first
    | with_reducible exact hQ _ _ (by assumption)
    | with_reducible refine zm_and ?_ ?_
    | with_reducible refine z_f_X4_sign (fun y0 h1 z1 => ?_) (by assumption)
    | with_reducible refine zm_imp (fun _ => ?_)
    | with_reducible exact id
theorem z_f_X4_takeFigure {L0 : Nat} {xs0 : Nat → Int32} {Q Q' : Int32 → AH → Prop} (hQ : ∀ (y0 : Int32) (h : AH), ZZ L0 xs0 h → Q y0 h → Q' y0 h) {v0 : Nat} {h : AH} (z : ZZ L0 xs0 h) : f_X4_takeFigure v0 h Q → f_X4_takeFigure v0 h Q' := by
  unfold f_X4_takeFigure
  repeat' first
    | with_reducible exact hQ _ _ (by assumption)
    | with_reducible refine zm_and ?_ ?_
    | with_reducible refine zm_gI (fun x => ?_)
    | with_reducible refine zm_pF (by assumption) (fun h1 z1 => ?_)
    | with_reducible refine z_f_X4_sign (fun y0 h1 z1 => ?_) (by assumption)
    | with_reducible refine zm_imp (fun _ => ?_)
    | with_reducible exact id
theorem z_f_X4_readPosts {L0 : Nat} {xs0 : Nat → Int32} {Q Q' : Int32 → AH → Prop} (hQ : ∀ (y0 : Int32) (h : AH), ZZ L0 xs0 h → Q y0 h → Q' y0 h) {v0 : Nat} {h : AH} (z : ZZ L0 xs0 h) : f_X4_readPosts v0 h Q → f_X4_readPosts v0 h Q' := by
  unfold f_X4_readPosts
  repeat' first
    | with_reducible exact hQ _ _ (by assumption)
    | with_reducible refine zm_and ?_ ?_
    | with_reducible refine zm_gI (fun x => ?_)
    | with_reducible refine zm_gR (fun x => ?_)
    | with_reducible refine zm_pF (by assumption) (fun h1 z1 => ?_)
    | with_reducible refine z_f_X4_isFigure (fun y0 h1 z1 => ?_) (by assumption)
    | with_reducible refine z_f_X4_sign (fun y0 h1 z1 => ?_) (by assumption)
    | with_reducible refine z_f_X4_takeFigure (fun y0 h1 z1 => ?_) (by assumption)
    | with_reducible refine zm_imp (fun _ => ?_)
    | with_reducible exact id
theorem z_B_X5_hasNumber_2 {L0 : Nat} {xs0 : Nat → Int32} {Q Q' : Int32 → AH → Prop} {K2 K2' : Int32 → AH → Prop} (hQ : ∀ (y0 : Int32) (h : AH), ZZ L0 xs0 h → Q y0 h → Q' y0 h) (hK2 : ∀ (y0 : Int32) (h : AH), ZZ L0 xs0 h → K2 y0 h → K2' y0 h) {v0 : Nat} {v1 : Int32} {v2 : Int32} {h : AH} (z : ZZ L0 xs0 h) : B_X5_hasNumber_2 Q K2 v0 v1 v2 h → B_X5_hasNumber_2 Q' K2' v0 v1 v2 h := by
  unfold B_X5_hasNumber_2
  repeat' first
    | with_reducible exact hQ _ _ (by assumption)
    | with_reducible exact hK2 _ _ (by assumption)
    | with_reducible refine zm_and ?_ ?_
    | with_reducible refine zm_gI (fun x => ?_)
    | with_reducible refine zm_gR (fun x => ?_)
    | with_reducible refine zm_lI (fun x => ?_)
    | with_reducible refine zm_imp (fun _ => ?_)
    | with_reducible exact id
theorem z_L_X5_hasNumber_2 {L0 : Nat} {xs0 : Nat → Int32} {Q Q' : Int32 → AH → Prop} (hQ : ∀ (y0 : Int32) (h : AH), ZZ L0 xs0 h → Q y0 h → Q' y0 h) {v0 : Nat} {v1 : Int32} : ∀ (n : Nat) (w0 : Int32) (h : AH), ZZ L0 xs0 h → L_X5_hasNumber_2 Q v0 v1 n w0 h → L_X5_hasNumber_2 Q' v0 v1 n w0 h := by
  intro n
  induction n with
  | zero => intro w0 h z H; exact H.elim
  | succ n ih => intro w0 h z; exact z_B_X5_hasNumber_2 hQ ih z
theorem z_f_X5_hasNumber {L0 : Nat} {xs0 : Nat → Int32} {Q Q' : Int32 → AH → Prop} (hQ : ∀ (y0 : Int32) (h : AH), ZZ L0 xs0 h → Q y0 h → Q' y0 h) {v0 : Nat} {v1 : Int32} {h : AH} (z : ZZ L0 xs0 h) : f_X5_hasNumber v0 v1 h Q → f_X5_hasNumber v0 v1 h Q' := by
  unfold f_X5_hasNumber
  repeat' first
    | with_reducible exact hQ _ _ (by assumption)
    | with_reducible refine zm_and ?_ ?_
    | with_reducible refine zm_ex (fun x => ?_)
    | with_reducible refine z_L_X5_hasNumber_2 (fun y0 h1 z1 => ?_) _ _ _ (by assumption)
    | with_reducible refine zm_imp (fun _ => ?_)
    | with_reducible exact id
theorem z_f_X5_withPost {L0 : Nat} {xs0 : Nat → Int32} {Q Q' : Int32 → AH → Prop} (hQ : ∀ (y0 : Int32) (h : AH), ZZ L0 xs0 h → Q y0 h → Q' y0 h) {v0 : Int32} {v1 : Int32} {v2 : Int32} {h : AH} (z : ZZ L0 xs0 h) : f_X5_withPost v0 v1 v2 h Q → f_X5_withPost v0 v1 v2 h Q' := by
  unfold f_X5_withPost
  repeat' first
    | with_reducible exact hQ _ _ (by assumption)
    | with_reducible refine zm_and ?_ ?_
    | with_reducible refine zm_imp (fun _ => ?_)
    | with_reducible exact id
theorem z_f_X5_wayBetween {L0 : Nat} {xs0 : Nat → Int32} {Q Q' : Int32 → AH → Prop} (hQ : ∀ (y0 : Int32) (h : AH), ZZ L0 xs0 h → Q y0 h → Q' y0 h) {v0 : Int32} {v1 : Int32} {h : AH} (z : ZZ L0 xs0 h) : f_X5_wayBetween v0 v1 h Q → f_X5_wayBetween v0 v1 h Q' := by
  unfold f_X5_wayBetween
  repeat' first
    | with_reducible exact hQ _ _ (by assumption)
    | with_reducible refine zm_and ?_ ?_
    | with_reducible refine zm_imp (fun _ => ?_)
    | with_reducible exact id
theorem z_B_X5_addStone_138 {L0 : Nat} {xs0 : Nat → Int32} {Q Q' : AH → Prop} (hQ : ∀ (h : AH), ZZ L0 xs0 h → Q  h → Q'  h) {v0 : Nat} {h : AH} (z : ZZ L0 xs0 h) : B_X5_addStone_138 Q v0 h → B_X5_addStone_138 Q' v0 h := by
  unfold B_X5_addStone_138
  repeat' first
    | with_reducible exact hQ _ (by assumption)
    | with_reducible refine zm_and ?_ ?_
    | with_reducible refine zm_gI (fun x => ?_)
    | with_reducible refine zm_pF (by assumption) (fun h1 z1 => ?_)
    | with_reducible refine zm_imp (fun _ => ?_)
    | with_reducible exact id
theorem z_B_X5_addStone_65 {L0 : Nat} {xs0 : Nat → Int32} {Q Q' : AH → Prop} {K65 K65' : Int32 → AH → Prop} (hQ : ∀ (h : AH), ZZ L0 xs0 h → Q  h → Q'  h) (hK65 : ∀ (y0 : Int32) (h : AH), ZZ L0 xs0 h → K65 y0 h → K65' y0 h) {v0 : Nat} {v3 : Int32} {v4 : Int32} {h : AH} (z : ZZ L0 xs0 h) : B_X5_addStone_65 Q K65 v0 v3 v4 h → B_X5_addStone_65 Q' K65' v0 v3 v4 h := by
  unfold B_X5_addStone_65
  repeat' first
    | with_reducible exact hQ _ (by assumption)
    | with_reducible exact hK65 _ _ (by assumption)
    | with_reducible refine zm_and ?_ ?_
    | with_reducible refine zm_gI (fun x => ?_)
    | with_reducible refine zm_gR (fun x => ?_)
    | with_reducible refine zm_pF (by assumption) (fun h1 z1 => ?_)
    | with_reducible refine zm_sI (by assumption) (fun h1 z1 => ?_)
    | with_reducible refine z_B_X5_addStone_138 (fun  h1 z1 => ?_) (by assumption)
    | with_reducible refine z_f_X5_wayBetween (fun y0 h1 z1 => ?_) (by assumption)
    | with_reducible refine z_f_X5_withPost (fun y0 h1 z1 => ?_) (by assumption)
    | with_reducible refine zm_imp (fun _ => ?_)
    | with_reducible exact id
theorem z_L_X5_addStone_65 {L0 : Nat} {xs0 : Nat → Int32} {Q Q' : AH → Prop} (hQ : ∀ (h : AH), ZZ L0 xs0 h → Q  h → Q'  h) {v0 : Nat} {v3 : Int32} : ∀ (n : Nat) (w0 : Int32) (h : AH), ZZ L0 xs0 h → L_X5_addStone_65 Q v0 v3 n w0 h → L_X5_addStone_65 Q' v0 v3 n w0 h := by
  intro n
  induction n with
  | zero => intro w0 h z H; exact H.elim
  | succ n ih => intro w0 h z; exact z_B_X5_addStone_65 hQ ih z
theorem z_B_X5_addStone_25 {L0 : Nat} {xs0 : Nat → Int32} {Q Q' : AH → Prop} (hQ : ∀ (h : AH), ZZ L0 xs0 h → Q  h → Q'  h) {v0 : Nat} {v1 : Int32} {v2 : Int32} {t0 : Int32} {h : AH} (z : ZZ L0 xs0 h) : B_X5_addStone_25 Q v0 v1 v2 t0 h → B_X5_addStone_25 Q' v0 v1 v2 t0 h := by
  unfold B_X5_addStone_25
  repeat' first
    | with_reducible exact hQ _ (by assumption)
    | with_reducible refine zm_and ?_ ?_
    | with_reducible refine zm_gI (fun x => ?_)
    | with_reducible refine zm_gR (fun x => ?_)
    | with_reducible refine zm_pF (by assumption) (fun h1 z1 => ?_)
    | with_reducible refine zm_sI (by assumption) (fun h1 z1 => ?_)
    | with_reducible refine zm_ex (fun x => ?_)
    | with_reducible refine z_L_X5_addStone_65 (fun  h1 z1 => ?_) _ _ _ (by assumption)
    | with_reducible refine z_f_X5_withPost (fun y0 h1 z1 => ?_) (by assumption)
    | with_reducible refine zm_imp (fun _ => ?_)
    | with_reducible exact id
theorem z_f_X5_addStone {L0 : Nat} {xs0 : Nat → Int32} {Q Q' : AH → Prop} (hQ : ∀ (h : AH), ZZ L0 xs0 h → Q  h → Q'  h) {v0 : Nat} {v1 : Int32} {v2 : Int32} {h : AH} (z : ZZ L0 xs0 h) : f_X5_addStone v0 v1 v2 h Q → f_X5_addStone v0 v1 v2 h Q' := by
  unfold f_X5_addStone
  repeat' first
    | with_reducible exact hQ _ (by assumption)
    | with_reducible refine zm_and ?_ ?_
    | with_reducible refine zm_gI (fun x => ?_)
    | with_reducible refine z_B_X5_addStone_25 (fun  h1 z1 => ?_) (by assumption)
    | with_reducible refine zm_imp (fun _ => ?_)
    | with_reducible exact id
theorem z_f_X4_readStone {L0 : Nat} {xs0 : Nat → Int32} {Q Q' : Int32 → AH → Prop} (hQ : ∀ (y0 : Int32) (h : AH), ZZ L0 xs0 h → Q y0 h → Q' y0 h) {v0 : Nat} {h : AH} (z : ZZ L0 xs0 h) : f_X4_readStone v0 h Q → f_X4_readStone v0 h Q' := by
  unfold f_X4_readStone
  repeat' first
    | with_reducible exact hQ _ _ (by assumption)
    | with_reducible refine zm_and ?_ ?_
    | with_reducible refine zm_gI (fun x => ?_)
    | with_reducible refine zm_gR (fun x => ?_)
    | with_reducible refine zm_pF (by assumption) (fun h1 z1 => ?_)
    | with_reducible refine z_f_X4_isFigure (fun y0 h1 z1 => ?_) (by assumption)
    | with_reducible refine z_f_X4_sign (fun y0 h1 z1 => ?_) (by assumption)
    | with_reducible refine z_f_X4_takeFigure (fun y0 h1 z1 => ?_) (by assumption)
    | with_reducible refine z_f_X5_addStone (fun  h1 z1 => ?_) (by assumption)
    | with_reducible refine z_f_X5_hasNumber (fun y0 h1 z1 => ?_) (by assumption)
    | with_reducible refine zm_imp (fun _ => ?_)
    | with_reducible exact id
theorem z_B_X4_isWalker_36 {L0 : Nat} {xs0 : Nat → Int32} {Q Q' : Int32 → AH → Prop} (hQ : ∀ (y0 : Int32) (h : AH), ZZ L0 xs0 h → Q y0 h → Q' y0 h)  {h : AH} (z : ZZ L0 xs0 h) : B_X4_isWalker_36 Q h → B_X4_isWalker_36 Q' h := by
  unfold B_X4_isWalker_36
  repeat' first
    | with_reducible exact hQ _ _ (by assumption)
    | with_reducible refine zm_and ?_ ?_
    | with_reducible refine zm_imp (fun _ => ?_)
    | with_reducible exact id
theorem z_f_X4_isWalker {L0 : Nat} {xs0 : Nat → Int32} {Q Q' : Int32 → AH → Prop} (hQ : ∀ (y0 : Int32) (h : AH), ZZ L0 xs0 h → Q y0 h → Q' y0 h) {v0 : Int32} {h : AH} (z : ZZ L0 xs0 h) : f_X4_isWalker v0 h Q → f_X4_isWalker v0 h Q' := by
  unfold f_X4_isWalker
  repeat' first
    | with_reducible exact hQ _ _ (by assumption)
    | with_reducible refine zm_and ?_ ?_
    | with_reducible refine z_B_X4_isWalker_36 (fun y0 h1 z1 => ?_) (by assumption)
    | with_reducible refine zm_imp (fun _ => ?_)
    | with_reducible exact id
theorem z_f_X10_init {L0 : Nat} {xs0 : Nat → Int32} {Q Q' : AH → Prop} (hQ : ∀ (h : AH), ZZ L0 xs0 h → Q  h → Q'  h) {v0 : Nat} {v1 : Int32} {v2 : Int32} {h : AH} (z : ZZ L0 xs0 h) : f_X10_init v0 v1 v2 h Q → f_X10_init v0 v1 v2 h Q' := by
  unfold f_X10_init
  repeat' first
    | with_reducible exact hQ _ (by assumption)
    | with_reducible refine zm_and ?_ ?_
    | with_reducible refine zm_pW (by assumption) (fun h1 z1 => ?_)
    | with_reducible refine zm_imp (fun _ => ?_)
    | with_reducible exact id
theorem z_f_X1_init {L0 : Nat} {xs0 : Nat → Int32} {Q Q' : AH → Prop} (hQ : ∀ (h : AH), ZZ L0 xs0 h → Q  h → Q'  h) {v0 : Nat} {v1 : Int32} {v2 : Int32} {h : AH} (z : ZZ L0 xs0 h) : f_X1_init v0 v1 v2 h Q → f_X1_init v0 v1 v2 h Q' := by
  unfold f_X1_init
  repeat' first
    | with_reducible exact hQ _ (by assumption)
    | with_reducible refine zm_and ?_ ?_
    | with_reducible refine z_f_X10_init (fun  h1 z1 => ?_) (by assumption)
    | with_reducible refine zm_imp (fun _ => ?_)
    | with_reducible exact id
theorem z_f_X0_init {L0 : Nat} {xs0 : Nat → Int32} {Q Q' : AH → Prop} (hQ : ∀ (h : AH), ZZ L0 xs0 h → Q  h → Q'  h) {v0 : Nat} {v1 : Int32} {v2 : Int32} {h : AH} (z : ZZ L0 xs0 h) : f_X0_init v0 v1 v2 h Q → f_X0_init v0 v1 v2 h Q' := by
  unfold f_X0_init
  repeat' first
    | with_reducible exact hQ _ (by assumption)
    | with_reducible refine zm_and ?_ ?_
    | with_reducible refine z_f_X10_init (fun  h1 z1 => ?_) (by assumption)
    | with_reducible refine zm_imp (fun _ => ?_)
    | with_reducible exact id
theorem z_f_X2_init {L0 : Nat} {xs0 : Nat → Int32} {Q Q' : AH → Prop} (hQ : ∀ (h : AH), ZZ L0 xs0 h → Q  h → Q'  h) {v0 : Nat} {v1 : Int32} {v2 : Int32} {h : AH} (z : ZZ L0 xs0 h) : f_X2_init v0 v1 v2 h Q → f_X2_init v0 v1 v2 h Q' := by
  unfold f_X2_init
  repeat' first
    | with_reducible exact hQ _ (by assumption)
    | with_reducible refine zm_and ?_ ?_
    | with_reducible refine z_f_X10_init (fun  h1 z1 => ?_) (by assumption)
    | with_reducible refine zm_imp (fun _ => ?_)
    | with_reducible exact id
theorem z_f_X8_init {L0 : Nat} {xs0 : Nat → Int32} {Q Q' : AH → Prop} (hQ : ∀ (h : AH), ZZ L0 xs0 h → Q  h → Q'  h) {v0 : Nat} {v1 : Int32} {v2 : Int32} {h : AH} (z : ZZ L0 xs0 h) : f_X8_init v0 v1 v2 h Q → f_X8_init v0 v1 v2 h Q' := by
  unfold f_X8_init
  repeat' first
    | with_reducible exact hQ _ (by assumption)
    | with_reducible refine zm_and ?_ ?_
    | with_reducible refine z_f_X2_init (fun  h1 z1 => ?_) (by assumption)
    | with_reducible refine zm_imp (fun _ => ?_)
    | with_reducible exact id
theorem z_f_X3_init {L0 : Nat} {xs0 : Nat → Int32} {Q Q' : AH → Prop} (hQ : ∀ (h : AH), ZZ L0 xs0 h → Q  h → Q'  h) {v0 : Nat} {v1 : Int32} {v2 : Int32} {h : AH} (z : ZZ L0 xs0 h) : f_X3_init v0 v1 v2 h Q → f_X3_init v0 v1 v2 h Q' := by
  unfold f_X3_init
  repeat' first
    | with_reducible exact hQ _ (by assumption)
    | with_reducible refine zm_and ?_ ?_
    | with_reducible refine z_f_X0_init (fun  h1 z1 => ?_) (by assumption)
    | with_reducible refine zm_imp (fun _ => ?_)
    | with_reducible exact id
theorem z_f_X4_make {L0 : Nat} {xs0 : Nat → Int32} {Q Q' : Option Nat → AH → Prop} (hQ : ∀ (y0 : Option Nat) (h : AH), ZZ L0 xs0 h → Q y0 h → Q' y0 h) {v0 : Int32} {v1 : Int32} {v2 : Int32} {h : AH} (z : ZZ L0 xs0 h) : f_X4_make v0 v1 v2 h Q → f_X4_make v0 v1 v2 h Q' := by
  unfold f_X4_make
  repeat' first
    | with_reducible exact hQ _ _ (by assumption)
    | with_reducible refine zm_and ?_ ?_
    | with_reducible refine zm_nO (by assumption) (fun a1 h1 z1 => ?_)
    | with_reducible refine z_f_X0_init (fun  h1 z1 => ?_) (by assumption)
    | with_reducible refine z_f_X10_init (fun  h1 z1 => ?_) (by assumption)
    | with_reducible refine z_f_X1_init (fun  h1 z1 => ?_) (by assumption)
    | with_reducible refine z_f_X2_init (fun  h1 z1 => ?_) (by assumption)
    | with_reducible refine z_f_X3_init (fun  h1 z1 => ?_) (by assumption)
    | with_reducible refine z_f_X8_init (fun  h1 z1 => ?_) (by assumption)
    | with_reducible refine zm_imp (fun _ => ?_)
    | with_reducible exact id
theorem z_f_X5_addWalker {L0 : Nat} {xs0 : Nat → Int32} {Q Q' : AH → Prop} (hQ : ∀ (h : AH), ZZ L0 xs0 h → Q  h → Q'  h) {v0 : Nat} {v1 : Nat} {h : AH} (z : ZZ L0 xs0 h) : f_X5_addWalker v0 v1 h Q → f_X5_addWalker v0 v1 h Q' := by
  unfold f_X5_addWalker
  repeat' first
    | with_reducible exact hQ _ (by assumption)
    | with_reducible refine zm_and ?_ ?_
    | with_reducible refine zm_gI (fun x => ?_)
    | with_reducible refine zm_gR (fun x => ?_)
    | with_reducible refine zm_pF (by assumption) (fun h1 z1 => ?_)
    | with_reducible refine zm_sQ (by assumption) (fun h1 z1 => ?_)
    | with_reducible refine zm_imp (fun _ => ?_)
    | with_reducible exact id
theorem z_f_X4_readWalker {L0 : Nat} {xs0 : Nat → Int32} {Q Q' : Int32 → AH → Prop} (hQ : ∀ (y0 : Int32) (h : AH), ZZ L0 xs0 h → Q y0 h → Q' y0 h) {v0 : Nat} {h : AH} (z : ZZ L0 xs0 h) : f_X4_readWalker v0 h Q → f_X4_readWalker v0 h Q' := by
  unfold f_X4_readWalker
  repeat' first
    | with_reducible exact hQ _ _ (by assumption)
    | with_reducible refine zm_and ?_ ?_
    | with_reducible refine zm_gI (fun x => ?_)
    | with_reducible refine zm_gR (fun x => ?_)
    | with_reducible refine zm_pF (by assumption) (fun h1 z1 => ?_)
    | with_reducible refine zm_ex (fun x => ?_)
    | with_reducible refine z_f_X4_isFigure (fun y0 h1 z1 => ?_) (by assumption)
    | with_reducible refine z_f_X4_isWalker (fun y0 h1 z1 => ?_) (by assumption)
    | with_reducible refine z_f_X4_make (fun y0 h1 z1 => ?_) (by assumption)
    | with_reducible refine z_f_X4_sign (fun y0 h1 z1 => ?_) (by assumption)
    | with_reducible refine z_f_X4_takeFigure (fun y0 h1 z1 => ?_) (by assumption)
    | with_reducible refine z_f_X5_addWalker (fun  h1 z1 => ?_) (by assumption)
    | with_reducible refine zm_imp (fun _ => ?_)
    | with_reducible exact id
theorem z_B_X4_read_58 {L0 : Nat} {xs0 : Nat → Int32} {Q Q' : Int32 → AH → Prop} {K22 K22' : Int32 → AH → Prop} (hQ : ∀ (y0 : Int32) (h : AH), ZZ L0 xs0 h → Q y0 h → Q' y0 h) (hK22 : ∀ (y0 : Int32) (h : AH), ZZ L0 xs0 h → K22 y0 h → K22' y0 h) {v0 : Nat} {v1 : Int32} {t0 : Int32} {h : AH} (z : ZZ L0 xs0 h) : B_X4_read_58 Q K22 v0 v1 t0 h → B_X4_read_58 Q' K22' v0 v1 t0 h := by
  unfold B_X4_read_58
  repeat' first
    | with_reducible exact hQ _ _ (by assumption)
    | with_reducible exact hK22 _ _ (by assumption)
    | with_reducible refine zm_and ?_ ?_
    | with_reducible refine zm_gI (fun x => ?_)
    | with_reducible refine z_f_X4_skipBlanks (fun  h1 z1 => ?_) (by assumption)
    | with_reducible refine zm_imp (fun _ => ?_)
    | with_reducible exact id
theorem z_B_X4_read_22 {L0 : Nat} {xs0 : Nat → Int32} {Q Q' : Int32 → AH → Prop} {K22 K22' : Int32 → AH → Prop} (hQ : ∀ (y0 : Int32) (h : AH), ZZ L0 xs0 h → Q y0 h → Q' y0 h) (hK22 : ∀ (y0 : Int32) (h : AH), ZZ L0 xs0 h → K22 y0 h → K22' y0 h) {v0 : Nat} {v1 : Int32} {h : AH} (z : ZZ L0 xs0 h) : B_X4_read_22 Q K22 v0 v1 h → B_X4_read_22 Q' K22' v0 v1 h := by
  unfold B_X4_read_22
  repeat' first
    | with_reducible exact hQ _ _ (by assumption)
    | with_reducible exact hK22 _ _ (by assumption)
    | with_reducible refine zm_and ?_ ?_
    | with_reducible refine z_B_X4_read_58 (fun y0 h1 z1 => ?_) (fun y0 h1 z1 => ?_) (by assumption)
    | with_reducible refine z_f_X4_readStone (fun y0 h1 z1 => ?_) (by assumption)
    | with_reducible refine z_f_X4_readWalker (fun y0 h1 z1 => ?_) (by assumption)
    | with_reducible refine z_f_X4_sign (fun y0 h1 z1 => ?_) (by assumption)
    | with_reducible refine zm_imp (fun _ => ?_)
    | with_reducible exact id
theorem z_L_X4_read_22 {L0 : Nat} {xs0 : Nat → Int32} {Q Q' : Int32 → AH → Prop} (hQ : ∀ (y0 : Int32) (h : AH), ZZ L0 xs0 h → Q y0 h → Q' y0 h) {v0 : Nat} : ∀ (n : Nat) (w0 : Int32) (h : AH), ZZ L0 xs0 h → L_X4_read_22 Q v0 n w0 h → L_X4_read_22 Q' v0 n w0 h := by
  intro n
  induction n with
  | zero => intro w0 h z H; exact H.elim
  | succ n ih => intro w0 h z; exact z_B_X4_read_22 hQ ih z
theorem z_f_X4_read {L0 : Nat} {xs0 : Nat → Int32} {Q Q' : Int32 → AH → Prop} (hQ : ∀ (y0 : Int32) (h : AH), ZZ L0 xs0 h → Q y0 h → Q' y0 h) {v0 : Nat} {h : AH} (z : ZZ L0 xs0 h) : f_X4_read v0 h Q → f_X4_read v0 h Q' := by
  unfold f_X4_read
  repeat' first
    | with_reducible exact hQ _ _ (by assumption)
    | with_reducible refine zm_and ?_ ?_
    | with_reducible refine zm_gI (fun x => ?_)
    | with_reducible refine zm_ex (fun x => ?_)
    | with_reducible refine z_L_X4_read_22 (fun y0 h1 z1 => ?_) _ _ _ (by assumption)
    | with_reducible refine z_f_X4_readPosts (fun y0 h1 z1 => ?_) (by assumption)
    | with_reducible refine z_f_X4_skipBlanks (fun  h1 z1 => ?_) (by assumption)
    | with_reducible refine zm_imp (fun _ => ?_)
    | with_reducible exact id
theorem z_f_X11_fault {L0 : Nat} {xs0 : Nat → Int32} {Q Q' : Int32 → AH → Prop} (hQ : ∀ (y0 : Int32) (h : AH), ZZ L0 xs0 h → Q y0 h → Q' y0 h) {v0 : Nat} {v1 : Int32} {h : AH} (z : ZZ L0 xs0 h) : f_X11_fault v0 v1 h Q → f_X11_fault v0 v1 h Q' := by
  unfold f_X11_fault
  repeat' first
    | with_reducible exact hQ _ _ (by assumption)
    | with_reducible refine zm_and ?_ ?_
    | with_reducible refine zm_gR (fun x => ?_)
    | with_reducible refine zm_lQ (fun x => ?_)
    | with_reducible refine zm_nO (by assumption) (fun a1 h1 z1 => ?_)
    | with_reducible refine z_f_X11_refuseMissing (fun y0 h1 z1 => ?_) (by assumption)
    | with_reducible refine z_f_X4_init (fun  h1 z1 => ?_) (by assumption)
    | with_reducible refine z_f_X4_read (fun y0 h1 z1 => ?_) (by assumption)
    | with_reducible refine zm_imp (fun _ => ?_)
    | with_reducible exact id
theorem z_f_X12_here {L0 : Nat} {xs0 : Nat → Int32} {Q Q' : Int32 → AH → Prop} (hQ : ∀ (y0 : Int32) (h : AH), ZZ L0 xs0 h → Q y0 h → Q' y0 h) {v0 : Nat} {v1 : Int32} {h : AH} (z : ZZ L0 xs0 h) : f_X12_here v0 v1 h Q → f_X12_here v0 v1 h Q' := by
  unfold f_X12_here
  repeat' first
    | with_reducible exact hQ _ _ (by assumption)
    | with_reducible refine zm_and ?_ ?_
    | with_reducible refine zm_gI (fun x => ?_)
    | with_reducible refine zm_gR (fun x => ?_)
    | with_reducible refine zm_lI (fun x => ?_)
    | with_reducible refine zm_imp (fun _ => ?_)
    | with_reducible exact id
theorem z_B_X12_skip_0 {L0 : Nat} {xs0 : Nat → Int32} {Q Q' : AH → Prop} {K0 K0' : AH → Prop} (hQ : ∀ (h : AH), ZZ L0 xs0 h → Q  h → Q'  h) (hK0 : ∀ (h : AH), ZZ L0 xs0 h → K0  h → K0'  h) {v0 : Nat} {v1 : Int32} {h : AH} (z : ZZ L0 xs0 h) : B_X12_skip_0 Q K0 v0 v1 h → B_X12_skip_0 Q' K0' v0 v1 h := by
  unfold B_X12_skip_0
  repeat' first
    | with_reducible exact hQ _ (by assumption)
    | with_reducible exact hK0 _ (by assumption)
    | with_reducible refine zm_and ?_ ?_
    | with_reducible refine zm_gI (fun x => ?_)
    | with_reducible refine zm_pF (by assumption) (fun h1 z1 => ?_)
    | with_reducible refine z_f_X12_here (fun y0 h1 z1 => ?_) (by assumption)
    | with_reducible refine zm_imp (fun _ => ?_)
    | with_reducible exact id
theorem z_L_X12_skip_0 {L0 : Nat} {xs0 : Nat → Int32} {Q Q' : AH → Prop} (hQ : ∀ (h : AH), ZZ L0 xs0 h → Q  h → Q'  h) {v0 : Nat} {v1 : Int32} : ∀ (n : Nat)  (h : AH), ZZ L0 xs0 h → L_X12_skip_0 Q v0 v1 n  h → L_X12_skip_0 Q' v0 v1 n  h := by
  intro n
  induction n with
  | zero => intro  h z H; exact H.elim
  | succ n ih => intro  h z; exact z_B_X12_skip_0 hQ ih z
theorem z_f_X12_skip {L0 : Nat} {xs0 : Nat → Int32} {Q Q' : AH → Prop} (hQ : ∀ (h : AH), ZZ L0 xs0 h → Q  h → Q'  h) {v0 : Nat} {v1 : Int32} {h : AH} (z : ZZ L0 xs0 h) : f_X12_skip v0 v1 h Q → f_X12_skip v0 v1 h Q' := by
  unfold f_X12_skip
  repeat' first
    | with_reducible exact hQ _ (by assumption)
    | with_reducible refine zm_and ?_ ?_
    | with_reducible refine zm_ex (fun x => ?_)
    | with_reducible refine z_L_X12_skip_0 (fun  h1 z1 => ?_) _ _ (by assumption)
    | with_reducible refine zm_imp (fun _ => ?_)
    | with_reducible exact id
theorem z_f_X12_figure {L0 : Nat} {xs0 : Nat → Int32} {Q Q' : Int32 → AH → Prop} (hQ : ∀ (y0 : Int32) (h : AH), ZZ L0 xs0 h → Q y0 h → Q' y0 h) {v0 : Nat} {v1 : Int32} {v2 : Int32} {v3 : Int32} {v4 : Int32} {h : AH} (z : ZZ L0 xs0 h) : f_X12_figure v0 v1 v2 v3 v4 h Q → f_X12_figure v0 v1 v2 v3 v4 h Q' := by
  unfold f_X12_figure
  repeat' first
    | with_reducible exact hQ _ _ (by assumption)
    | with_reducible refine zm_and ?_ ?_
    | with_reducible refine zm_gI (fun x => ?_)
    | with_reducible refine zm_pF (by assumption) (fun h1 z1 => ?_)
    | with_reducible refine z_f_X12_here (fun y0 h1 z1 => ?_) (by assumption)
    | with_reducible refine z_f_X12_in (fun y0 h1 z1 => ?_) (by assumption)
    | with_reducible refine zm_imp (fun _ => ?_)
    | with_reducible exact id
theorem z_B_X12_takesStone_38 {L0 : Nat} {xs0 : Nat → Int32} {Q Q' : Int32 → AH → Prop} {K38 K38' : Int32 → AH → Prop} (hQ : ∀ (y0 : Int32) (h : AH), ZZ L0 xs0 h → Q y0 h → Q' y0 h) (hK38 : ∀ (y0 : Int32) (h : AH), ZZ L0 xs0 h → K38 y0 h → K38' y0 h) {v0 : Nat} {v1 : Int32} {v2 : Int32} {v3 : Int32} {h : AH} (z : ZZ L0 xs0 h) : B_X12_takesStone_38 Q K38 v0 v1 v2 v3 h → B_X12_takesStone_38 Q' K38' v0 v1 v2 v3 h := by
  unfold B_X12_takesStone_38
  repeat' first
    | with_reducible exact hQ _ _ (by assumption)
    | with_reducible exact hK38 _ _ (by assumption)
    | with_reducible refine zm_and ?_ ?_
    | with_reducible refine zm_gI (fun x => ?_)
    | with_reducible refine zm_gR (fun x => ?_)
    | with_reducible refine zm_lI (fun x => ?_)
    | with_reducible refine zm_pF (by assumption) (fun h1 z1 => ?_)
    | with_reducible refine zm_sI (by assumption) (fun h1 z1 => ?_)
    | with_reducible refine z_f_X12_figure (fun y0 h1 z1 => ?_) (by assumption)
    | with_reducible refine zm_imp (fun _ => ?_)
    | with_reducible exact id
theorem z_L_X12_takesStone_38 {L0 : Nat} {xs0 : Nat → Int32} {Q Q' : Int32 → AH → Prop} (hQ : ∀ (y0 : Int32) (h : AH), ZZ L0 xs0 h → Q y0 h → Q' y0 h) {v0 : Nat} {v1 : Int32} {v2 : Int32} : ∀ (n : Nat) (w0 : Int32) (h : AH), ZZ L0 xs0 h → L_X12_takesStone_38 Q v0 v1 v2 n w0 h → L_X12_takesStone_38 Q' v0 v1 v2 n w0 h := by
  intro n
  induction n with
  | zero => intro w0 h z H; exact H.elim
  | succ n ih => intro w0 h z; exact z_B_X12_takesStone_38 hQ ih z
theorem z_f_X12_takesStone {L0 : Nat} {xs0 : Nat → Int32} {Q Q' : Int32 → AH → Prop} (hQ : ∀ (y0 : Int32) (h : AH), ZZ L0 xs0 h → Q y0 h → Q' y0 h) {v0 : Nat} {v1 : Int32} {h : AH} (z : ZZ L0 xs0 h) : f_X12_takesStone v0 v1 h Q → f_X12_takesStone v0 v1 h Q' := by
  unfold f_X12_takesStone
  repeat' first
    | with_reducible exact hQ _ _ (by assumption)
    | with_reducible refine zm_and ?_ ?_
    | with_reducible refine zm_gI (fun x => ?_)
    | with_reducible refine zm_pF (by assumption) (fun h1 z1 => ?_)
    | with_reducible refine zm_ex (fun x => ?_)
    | with_reducible refine z_L_X12_takesStone_38 (fun y0 h1 z1 => ?_) _ _ _ (by assumption)
    | with_reducible refine z_f_X12_here (fun y0 h1 z1 => ?_) (by assumption)
    | with_reducible refine zm_imp (fun _ => ?_)
    | with_reducible exact id
theorem z_f_X12_kindOf {L0 : Nat} {xs0 : Nat → Int32} {Q Q' : Int32 → AH → Prop} (hQ : ∀ (y0 : Int32) (h : AH), ZZ L0 xs0 h → Q y0 h → Q' y0 h) {v0 : Int32} {h : AH} (z : ZZ L0 xs0 h) : f_X12_kindOf v0 h Q → f_X12_kindOf v0 h Q' := by
  unfold f_X12_kindOf
  repeat' first
    | with_reducible exact hQ _ _ (by assumption)
    | with_reducible refine zm_and ?_ ?_
    | with_reducible refine zm_imp (fun _ => ?_)
    | with_reducible exact id
theorem z_f_X12_takesWalker {L0 : Nat} {xs0 : Nat → Int32} {Q Q' : Int32 → AH → Prop} (hQ : ∀ (y0 : Int32) (h : AH), ZZ L0 xs0 h → Q y0 h → Q' y0 h) {v0 : Nat} {v1 : Int32} {h : AH} (z : ZZ L0 xs0 h) : f_X12_takesWalker v0 v1 h Q → f_X12_takesWalker v0 v1 h Q' := by
  unfold f_X12_takesWalker
  repeat' first
    | with_reducible exact hQ _ _ (by assumption)
    | with_reducible refine zm_and ?_ ?_
    | with_reducible refine zm_gI (fun x => ?_)
    | with_reducible refine zm_gR (fun x => ?_)
    | with_reducible refine zm_lI (fun x => ?_)
    | with_reducible refine zm_pF (by assumption) (fun h1 z1 => ?_)
    | with_reducible refine zm_sI (by assumption) (fun h1 z1 => ?_)
    | with_reducible refine z_f_X12_figure (fun y0 h1 z1 => ?_) (by assumption)
    | with_reducible refine z_f_X12_here (fun y0 h1 z1 => ?_) (by assumption)
    | with_reducible refine z_f_X12_kindOf (fun y0 h1 z1 => ?_) (by assumption)
    | with_reducible refine zm_imp (fun _ => ?_)
    | with_reducible exact id
theorem z_B_X12_reads_68 {L0 : Nat} {xs0 : Nat → Int32} {Q Q' : Int32 → AH → Prop} {K68 K68' : Int32 → AH → Prop} (hQ : ∀ (y0 : Int32) (h : AH), ZZ L0 xs0 h → Q y0 h → Q' y0 h) (hK68 : ∀ (y0 : Int32) (h : AH), ZZ L0 xs0 h → K68 y0 h → K68' y0 h) {v0 : Nat} {v1 : Int32} {v2 : Int32} {h : AH} (z : ZZ L0 xs0 h) : B_X12_reads_68 Q K68 v0 v1 v2 h → B_X12_reads_68 Q' K68' v0 v1 v2 h := by
  unfold B_X12_reads_68
  repeat' first
    | with_reducible exact hQ _ _ (by assumption)
    | with_reducible exact hK68 _ _ (by assumption)
    | with_reducible refine zm_and ?_ ?_
    | with_reducible refine z_f_X12_here (fun y0 h1 z1 => ?_) (by assumption)
    | with_reducible refine z_f_X12_skip (fun  h1 z1 => ?_) (by assumption)
    | with_reducible refine z_f_X12_takesStone (fun y0 h1 z1 => ?_) (by assumption)
    | with_reducible refine z_f_X12_takesWalker (fun y0 h1 z1 => ?_) (by assumption)
    | with_reducible refine zm_imp (fun _ => ?_)
    | with_reducible exact id
theorem z_L_X12_reads_68 {L0 : Nat} {xs0 : Nat → Int32} {Q Q' : Int32 → AH → Prop} (hQ : ∀ (y0 : Int32) (h : AH), ZZ L0 xs0 h → Q y0 h → Q' y0 h) {v0 : Nat} {v1 : Int32} : ∀ (n : Nat) (w0 : Int32) (h : AH), ZZ L0 xs0 h → L_X12_reads_68 Q v0 v1 n w0 h → L_X12_reads_68 Q' v0 v1 n w0 h := by
  intro n
  induction n with
  | zero => intro w0 h z H; exact H.elim
  | succ n ih => intro w0 h z; exact z_B_X12_reads_68 hQ ih z
theorem z_f_X12_reads {L0 : Nat} {xs0 : Nat → Int32} {Q Q' : Int32 → AH → Prop} (hQ : ∀ (y0 : Int32) (h : AH), ZZ L0 xs0 h → Q y0 h → Q' y0 h) {v0 : Nat} {v1 : Int32} {h : AH} (z : ZZ L0 xs0 h) : f_X12_reads v0 v1 h Q → f_X12_reads v0 v1 h Q' := by
  unfold f_X12_reads
  repeat' first
    | with_reducible exact hQ _ _ (by assumption)
    | with_reducible refine zm_and ?_ ?_
    | with_reducible refine zm_gI (fun x => ?_)
    | with_reducible refine zm_pF (by assumption) (fun h1 z1 => ?_)
    | with_reducible refine zm_ex (fun x => ?_)
    | with_reducible refine z_L_X12_reads_68 (fun y0 h1 z1 => ?_) _ _ _ (by assumption)
    | with_reducible refine z_f_X12_figure (fun y0 h1 z1 => ?_) (by assumption)
    | with_reducible refine z_f_X12_here (fun y0 h1 z1 => ?_) (by assumption)
    | with_reducible refine z_f_X12_skip (fun  h1 z1 => ?_) (by assumption)
    | with_reducible refine zm_imp (fun _ => ?_)
    | with_reducible exact id
theorem z_f_X12_fault {L0 : Nat} {xs0 : Nat → Int32} {Q Q' : Int32 → AH → Prop} (hQ : ∀ (y0 : Int32) (h : AH), ZZ L0 xs0 h → Q y0 h → Q' y0 h) {v0 : Nat} {v1 : Int32} {h : AH} (z : ZZ L0 xs0 h) : f_X12_fault v0 v1 h Q → f_X12_fault v0 v1 h Q' := by
  unfold f_X12_fault
  repeat' first
    | with_reducible exact hQ _ _ (by assumption)
    | with_reducible refine zm_and ?_ ?_
    | with_reducible refine zm_gI (fun x => ?_)
    | with_reducible refine zm_gR (fun x => ?_)
    | with_reducible refine zm_lI (fun x => ?_)
    | with_reducible refine z_f_X12_find (fun y0 h1 z1 => ?_) (by assumption)
    | with_reducible refine z_f_X12_isText (fun y0 h1 z1 => ?_) (by assumption)
    | with_reducible refine z_f_X12_reads (fun y0 h1 z1 => ?_) (by assumption)
    | with_reducible refine zm_imp (fun _ => ?_)
    | with_reducible exact id
theorem z_f_X11_road {L0 : Nat} {xs0 : Nat → Int32} {Q Q' : Int32 → AH → Prop} (hQ : ∀ (y0 : Int32) (h : AH), ZZ L0 xs0 h → Q y0 h → Q' y0 h) {v0 : Nat} {v1 : Int32} {h : AH} (z : ZZ L0 xs0 h) : f_X11_road v0 v1 h Q → f_X11_road v0 v1 h Q' := by
  unfold f_X11_road
  repeat' first
    | with_reducible exact hQ _ _ (by assumption)
    | with_reducible refine zm_and ?_ ?_
    | with_reducible refine zm_gI (fun x => ?_)
    | with_reducible refine zm_gR (fun x => ?_)
    | with_reducible refine zm_lQ (fun x => ?_)
    | with_reducible refine zm_pF (by assumption) (fun h1 z1 => ?_)
    | with_reducible refine zm_nO (by assumption) (fun a1 h1 z1 => ?_)
    | with_reducible refine z_f_J7_fill_53178 (fun  h1 z1 => ?_) (by assumption)
    | with_reducible refine z_f_X11_refuseMissing (fun y0 h1 z1 => ?_) (by assumption)
    | with_reducible refine z_f_X4_init (fun  h1 z1 => ?_) (by assumption)
    | with_reducible refine z_f_X4_read (fun y0 h1 z1 => ?_) (by assumption)
    | with_reducible refine zm_imp (fun _ => ?_)
    | with_reducible exact id
theorem z_B_X12_clear_7 {L0 : Nat} {xs0 : Nat → Int32} {Q Q' : AH → Prop} {K7 K7' : Int32 → AH → Prop} (hQ : ∀ (h : AH), ZZ L0 xs0 h → Q  h → Q'  h) (hK7 : ∀ (y0 : Int32) (h : AH), ZZ L0 xs0 h → K7 y0 h → K7' y0 h) {v0 : Nat} {v1 : Int32} {h : AH} (z : ZZ L0 xs0 h) : B_X12_clear_7 Q K7 v0 v1 h → B_X12_clear_7 Q' K7' v0 v1 h := by
  unfold B_X12_clear_7
  repeat' first
    | with_reducible exact hQ _ (by assumption)
    | with_reducible exact hK7 _ _ (by assumption)
    | with_reducible refine zm_and ?_ ?_
    | with_reducible refine zm_gR (fun x => ?_)
    | with_reducible refine zm_sI (by assumption) (fun h1 z1 => ?_)
    | with_reducible refine zm_imp (fun _ => ?_)
    | with_reducible exact id
theorem z_L_X12_clear_7 {L0 : Nat} {xs0 : Nat → Int32} {Q Q' : AH → Prop} (hQ : ∀ (h : AH), ZZ L0 xs0 h → Q  h → Q'  h) {v0 : Nat} : ∀ (n : Nat) (w0 : Int32) (h : AH), ZZ L0 xs0 h → L_X12_clear_7 Q v0 n w0 h → L_X12_clear_7 Q' v0 n w0 h := by
  intro n
  induction n with
  | zero => intro w0 h z H; exact H.elim
  | succ n ih => intro w0 h z; exact z_B_X12_clear_7 hQ ih z
theorem z_f_X12_clear {L0 : Nat} {xs0 : Nat → Int32} {Q Q' : AH → Prop} (hQ : ∀ (h : AH), ZZ L0 xs0 h → Q  h → Q'  h) {v0 : Nat} {h : AH} (z : ZZ L0 xs0 h) : f_X12_clear v0 h Q → f_X12_clear v0 h Q' := by
  unfold f_X12_clear
  repeat' first
    | with_reducible exact hQ _ (by assumption)
    | with_reducible refine zm_and ?_ ?_
    | with_reducible refine zm_pF (by assumption) (fun h1 z1 => ?_)
    | with_reducible refine zm_ex (fun x => ?_)
    | with_reducible refine z_L_X12_clear_7 (fun  h1 z1 => ?_) _ _ _ (by assumption)
    | with_reducible refine zm_imp (fun _ => ?_)
    | with_reducible exact id
theorem z_B_X12_road_110 {L0 : Nat} {xs0 : Nat → Int32} {Q Q' : Int32 → AH → Prop} {K66 K66' : Int32 → AH → Prop} (hQ : ∀ (y0 : Int32) (h : AH), ZZ L0 xs0 h → Q y0 h → Q' y0 h) (hK66 : ∀ (y0 : Int32) (h : AH), ZZ L0 xs0 h → K66 y0 h → K66' y0 h) {v0 : Nat} {v2 : Int32} {t0 : Nat} {t1 : Int32} {t2 : Int32} {h : AH} (z : ZZ L0 xs0 h) : B_X12_road_110 Q K66 v0 v2 t0 t1 t2 h → B_X12_road_110 Q' K66' v0 v2 t0 t1 t2 h := by
  unfold B_X12_road_110
  repeat' first
    | with_reducible exact hQ _ _ (by assumption)
    | with_reducible exact hK66 _ _ (by assumption)
    | with_reducible refine zm_and ?_ ?_
    | with_reducible refine zm_gR (fun x => ?_)
    | with_reducible refine zm_lI (fun x => ?_)
    | with_reducible refine zm_pF (by assumption) (fun h1 z1 => ?_)
    | with_reducible refine zm_sI (by assumption) (fun h1 z1 => ?_)
    | with_reducible refine zm_imp (fun _ => ?_)
    | with_reducible exact id
theorem z_B_X12_road_163 {L0 : Nat} {xs0 : Nat → Int32} {Q Q' : Int32 → AH → Prop} {K163 K163' : Int32 → AH → Prop} (hQ : ∀ (y0 : Int32) (h : AH), ZZ L0 xs0 h → Q y0 h → Q' y0 h) (hK163 : ∀ (y0 : Int32) (h : AH), ZZ L0 xs0 h → K163 y0 h → K163' y0 h) {v0 : Nat} {v2 : Int32} {h : AH} (z : ZZ L0 xs0 h) : B_X12_road_163 Q K163 v0 v2 h → B_X12_road_163 Q' K163' v0 v2 h := by
  unfold B_X12_road_163
  repeat' first
    | with_reducible exact hQ _ _ (by assumption)
    | with_reducible exact hK163 _ _ (by assumption)
    | with_reducible refine zm_and ?_ ?_
    | with_reducible refine zm_gI (fun x => ?_)
    | with_reducible refine zm_gR (fun x => ?_)
    | with_reducible refine zm_sI (by assumption) (fun h1 z1 => ?_)
    | with_reducible refine z_f_X12_clear (fun  h1 z1 => ?_) (by assumption)
    | with_reducible refine zm_imp (fun _ => ?_)
    | with_reducible exact id
theorem z_L_X12_road_163 {L0 : Nat} {xs0 : Nat → Int32} {Q Q' : Int32 → AH → Prop} (hQ : ∀ (y0 : Int32) (h : AH), ZZ L0 xs0 h → Q y0 h → Q' y0 h) {v0 : Nat} : ∀ (n : Nat) (w0 : Int32) (h : AH), ZZ L0 xs0 h → L_X12_road_163 Q v0 n w0 h → L_X12_road_163 Q' v0 n w0 h := by
  intro n
  induction n with
  | zero => intro w0 h z H; exact H.elim
  | succ n ih => intro w0 h z; exact z_B_X12_road_163 hQ ih z
theorem z_B_X12_road_66 {L0 : Nat} {xs0 : Nat → Int32} {Q Q' : Int32 → AH → Prop} {K66 K66' : Int32 → AH → Prop} (hQ : ∀ (y0 : Int32) (h : AH), ZZ L0 xs0 h → Q y0 h → Q' y0 h) (hK66 : ∀ (y0 : Int32) (h : AH), ZZ L0 xs0 h → K66 y0 h → K66' y0 h) {v0 : Nat} {v2 : Int32} {h : AH} (z : ZZ L0 xs0 h) : B_X12_road_66 Q K66 v0 v2 h → B_X12_road_66 Q' K66' v0 v2 h := by
  unfold B_X12_road_66
  repeat' first
    | with_reducible exact hQ _ _ (by assumption)
    | with_reducible exact hK66 _ _ (by assumption)
    | with_reducible refine zm_and ?_ ?_
    | with_reducible refine zm_gI (fun x => ?_)
    | with_reducible refine zm_gR (fun x => ?_)
    | with_reducible refine zm_lI (fun x => ?_)
    | with_reducible refine zm_pF (by assumption) (fun h1 z1 => ?_)
    | with_reducible refine zm_sI (by assumption) (fun h1 z1 => ?_)
    | with_reducible refine zm_ex (fun x => ?_)
    | with_reducible refine z_B_X12_road_110 (fun y0 h1 z1 => ?_) (fun y0 h1 z1 => ?_) (by assumption)
    | with_reducible refine z_L_X12_road_163 (fun y0 h1 z1 => ?_) _ _ _ (by assumption)
    | with_reducible refine zm_imp (fun _ => ?_)
    | with_reducible exact id
theorem z_L_X12_road_66 {L0 : Nat} {xs0 : Nat → Int32} {Q Q' : Int32 → AH → Prop} (hQ : ∀ (y0 : Int32) (h : AH), ZZ L0 xs0 h → Q y0 h → Q' y0 h) {v0 : Nat} : ∀ (n : Nat) (w0 : Int32) (h : AH), ZZ L0 xs0 h → L_X12_road_66 Q v0 n w0 h → L_X12_road_66 Q' v0 n w0 h := by
  intro n
  induction n with
  | zero => intro w0 h z H; exact H.elim
  | succ n ih => intro w0 h z; exact z_B_X12_road_66 hQ ih z
theorem z_f_X12_road {L0 : Nat} {xs0 : Nat → Int32} {Q Q' : Int32 → AH → Prop} (hQ : ∀ (y0 : Int32) (h : AH), ZZ L0 xs0 h → Q y0 h → Q' y0 h) {v0 : Nat} {v1 : Int32} {h : AH} (z : ZZ L0 xs0 h) : f_X12_road v0 v1 h Q → f_X12_road v0 v1 h Q' := by
  unfold f_X12_road
  repeat' first
    | with_reducible exact hQ _ _ (by assumption)
    | with_reducible refine zm_and ?_ ?_
    | with_reducible refine zm_gI (fun x => ?_)
    | with_reducible refine zm_gR (fun x => ?_)
    | with_reducible refine zm_lI (fun x => ?_)
    | with_reducible refine zm_pF (by assumption) (fun h1 z1 => ?_)
    | with_reducible refine zm_ex (fun x => ?_)
    | with_reducible refine z_L_X12_road_66 (fun y0 h1 z1 => ?_) _ _ _ (by assumption)
    | with_reducible refine z_f_X12_find (fun y0 h1 z1 => ?_) (by assumption)
    | with_reducible refine z_f_X12_isText (fun y0 h1 z1 => ?_) (by assumption)
    | with_reducible refine z_f_X12_reads (fun y0 h1 z1 => ?_) (by assumption)
    | with_reducible refine zm_imp (fun _ => ?_)
    | with_reducible exact id
theorem z_f_X5_postOf {L0 : Nat} {xs0 : Nat → Int32} {Q Q' : Int32 → AH → Prop} (hQ : ∀ (y0 : Int32) (h : AH), ZZ L0 xs0 h → Q y0 h → Q' y0 h) {v0 : Int32} {v1 : Int32} {h : AH} (z : ZZ L0 xs0 h) : f_X5_postOf v0 v1 h Q → f_X5_postOf v0 v1 h Q' := by
  unfold f_X5_postOf
  repeat' first
    | with_reducible exact hQ _ _ (by assumption)
    | with_reducible refine zm_and ?_ ?_
    | with_reducible refine zm_imp (fun _ => ?_)
    | with_reducible exact id
theorem z_f_X5_tellPost {L0 : Nat} {xs0 : Nat → Int32} {Q Q' : Int32 → AH → Prop} (hQ : ∀ (y0 : Int32) (h : AH), ZZ L0 xs0 h → Q y0 h → Q' y0 h) {v0 : Int32} {v1 : Int32} {h : AH} (z : ZZ L0 xs0 h) : f_X5_tellPost v0 v1 h Q → f_X5_tellPost v0 v1 h Q' := by
  unfold f_X5_tellPost
  repeat' first
    | with_reducible exact hQ _ _ (by assumption)
    | with_reducible refine zm_and ?_ ?_
    | with_reducible refine z_f_X5_postOf (fun y0 h1 z1 => ?_) (by assumption)
    | with_reducible refine zm_imp (fun _ => ?_)
    | with_reducible exact id
theorem z_f_X9_timesMoved {L0 : Nat} {xs0 : Nat → Int32} {Q Q' : Int32 → AH → Prop} (hQ : ∀ (y0 : Int32) (h : AH), ZZ L0 xs0 h → Q y0 h → Q' y0 h) {v0 : Nat} {v1 : Int32} {h : AH} (z : ZZ L0 xs0 h) : f_X9_timesMoved v0 v1 h Q → f_X9_timesMoved v0 v1 h Q' := by
  unfold f_X9_timesMoved
  repeat' first
    | with_reducible exact hQ _ _ (by assumption)
    | with_reducible refine zm_and ?_ ?_
    | with_reducible refine zm_gI (fun x => ?_)
    | with_reducible refine z_f_X5_postOf (fun y0 h1 z1 => ?_) (by assumption)
    | with_reducible refine zm_imp (fun _ => ?_)
    | with_reducible exact id
theorem z_B_X11_allMoves_4 {L0 : Nat} {xs0 : Nat → Int32} {Q Q' : Int32 → AH → Prop} {K4 K4' : Int32 → Int32 → AH → Prop} (hQ : ∀ (y0 : Int32) (h : AH), ZZ L0 xs0 h → Q y0 h → Q' y0 h) (hK4 : ∀ (y0 : Int32) (y1 : Int32) (h : AH), ZZ L0 xs0 h → K4 y0 y1 h → K4' y0 y1 h) {v0 : Nat} {v1 : Int32} {v2 : Int32} {v3 : Int32} {h : AH} (z : ZZ L0 xs0 h) : B_X11_allMoves_4 Q K4 v0 v1 v2 v3 h → B_X11_allMoves_4 Q' K4' v0 v1 v2 v3 h := by
  unfold B_X11_allMoves_4
  repeat' first
    | with_reducible exact hQ _ _ (by assumption)
    | with_reducible exact hK4 _ _ _ (by assumption)
    | with_reducible refine zm_and ?_ ?_
    | with_reducible refine zm_gI (fun x => ?_)
    | with_reducible refine zm_gR (fun x => ?_)
    | with_reducible refine zm_lQ (fun x => ?_)
    | with_reducible refine z_f_X9_timesMoved (fun y0 h1 z1 => ?_) (by assumption)
    | with_reducible refine zm_imp (fun _ => ?_)
    | with_reducible exact id
theorem z_L_X11_allMoves_4 {L0 : Nat} {xs0 : Nat → Int32} {Q Q' : Int32 → AH → Prop} (hQ : ∀ (y0 : Int32) (h : AH), ZZ L0 xs0 h → Q y0 h → Q' y0 h) {v0 : Nat} {v1 : Int32} : ∀ (n : Nat) (w0 : Int32) (w1 : Int32) (h : AH), ZZ L0 xs0 h → L_X11_allMoves_4 Q v0 v1 n w0 w1 h → L_X11_allMoves_4 Q' v0 v1 n w0 w1 h := by
  intro n
  induction n with
  | zero => intro w0 w1 h z H; exact H.elim
  | succ n ih => intro w0 w1 h z; exact z_B_X11_allMoves_4 hQ ih z
theorem z_f_X11_allMoves {L0 : Nat} {xs0 : Nat → Int32} {Q Q' : Int32 → AH → Prop} (hQ : ∀ (y0 : Int32) (h : AH), ZZ L0 xs0 h → Q y0 h → Q' y0 h) {v0 : Nat} {v1 : Int32} {h : AH} (z : ZZ L0 xs0 h) : f_X11_allMoves v0 v1 h Q → f_X11_allMoves v0 v1 h Q' := by
  unfold f_X11_allMoves
  repeat' first
    | with_reducible exact hQ _ _ (by assumption)
    | with_reducible refine zm_and ?_ ?_
    | with_reducible refine zm_ex (fun x => ?_)
    | with_reducible refine z_L_X11_allMoves_4 (fun y0 h1 z1 => ?_) _ _ _ _ (by assumption)
    | with_reducible refine zm_imp (fun _ => ?_)
    | with_reducible exact id
theorem z_f_X11_ofStone {L0 : Nat} {xs0 : Nat → Int32} {Q Q' : Int32 → AH → Prop} (hQ : ∀ (y0 : Int32) (h : AH), ZZ L0 xs0 h → Q y0 h → Q' y0 h) {v0 : Nat} {v1 : Int32} {v2 : Int32} {h : AH} (z : ZZ L0 xs0 h) : f_X11_ofStone v0 v1 v2 h Q → f_X11_ofStone v0 v1 v2 h Q' := by
  unfold f_X11_ofStone
  repeat' first
    | with_reducible exact hQ _ _ (by assumption)
    | with_reducible refine zm_and ?_ ?_
    | with_reducible refine zm_gI (fun x => ?_)
    | with_reducible refine zm_gR (fun x => ?_)
    | with_reducible refine zm_lI (fun x => ?_)
    | with_reducible refine z_f_X11_allMoves (fun y0 h1 z1 => ?_) (by assumption)
    | with_reducible refine z_f_X5_tellPost (fun y0 h1 z1 => ?_) (by assumption)
    | with_reducible refine zm_imp (fun _ => ?_)
    | with_reducible exact id
theorem z_f_X11_stone {L0 : Nat} {xs0 : Nat → Int32} {Q Q' : Int32 → AH → Prop} (hQ : ∀ (y0 : Int32) (h : AH), ZZ L0 xs0 h → Q y0 h → Q' y0 h) {v0 : Nat} {v1 : Int32} {v2 : Int32} {h : AH} (z : ZZ L0 xs0 h) : f_X11_stone v0 v1 v2 h Q → f_X11_stone v0 v1 v2 h Q' := by
  unfold f_X11_stone
  repeat' first
    | with_reducible exact hQ _ _ (by assumption)
    | with_reducible refine zm_and ?_ ?_
    | with_reducible refine zm_gI (fun x => ?_)
    | with_reducible refine zm_gR (fun x => ?_)
    | with_reducible refine zm_pF (by assumption) (fun h1 z1 => ?_)
    | with_reducible refine z_f_X11_isBelow (fun y0 h1 z1 => ?_) (by assumption)
    | with_reducible refine z_f_X11_ofStone (fun y0 h1 z1 => ?_) (by assumption)
    | with_reducible refine zm_imp (fun _ => ?_)
    | with_reducible exact id
theorem z_f_X12_isStone {L0 : Nat} {xs0 : Nat → Int32} {Q Q' : Int32 → AH → Prop} (hQ : ∀ (y0 : Int32) (h : AH), ZZ L0 xs0 h → Q y0 h → Q' y0 h) {v0 : Nat} {v1 : Int32} {h : AH} (z : ZZ L0 xs0 h) : f_X12_isStone v0 v1 h Q → f_X12_isStone v0 v1 h Q' := by
  unfold f_X12_isStone
  repeat' first
    | with_reducible exact hQ _ _ (by assumption)
    | with_reducible refine zm_and ?_ ?_
    | with_reducible refine zm_gI (fun x => ?_)
    | with_reducible refine z_f_X12_in (fun y0 h1 z1 => ?_) (by assumption)
    | with_reducible refine zm_imp (fun _ => ?_)
    | with_reducible exact id
theorem z_f_X12_spotOf {L0 : Nat} {xs0 : Nat → Int32} {Q Q' : Int32 → AH → Prop} (hQ : ∀ (y0 : Int32) (h : AH), ZZ L0 xs0 h → Q y0 h → Q' y0 h) {v0 : Int32} {v1 : Int32} {h : AH} (z : ZZ L0 xs0 h) : f_X12_spotOf v0 v1 h Q → f_X12_spotOf v0 v1 h Q' := by
  unfold f_X12_spotOf
  repeat' first
    | with_reducible exact hQ _ _ (by assumption)
    | with_reducible refine zm_and ?_ ?_
    | with_reducible refine zm_imp (fun _ => ?_)
    | with_reducible exact id
theorem z_f_X12_told {L0 : Nat} {xs0 : Nat → Int32} {Q Q' : Int32 → AH → Prop} (hQ : ∀ (y0 : Int32) (h : AH), ZZ L0 xs0 h → Q y0 h → Q' y0 h) {v0 : Int32} {h : AH} (z : ZZ L0 xs0 h) : f_X12_told v0 h Q → f_X12_told v0 h Q' := by
  unfold f_X12_told
  repeat' first
    | with_reducible exact hQ _ _ (by assumption)
    | with_reducible refine zm_and ?_ ?_
    | with_reducible refine zm_imp (fun _ => ?_)
    | with_reducible exact id
theorem z_f_X12_home {L0 : Nat} {xs0 : Nat → Int32} {Q Q' : Int32 → AH → Prop} (hQ : ∀ (y0 : Int32) (h : AH), ZZ L0 xs0 h → Q y0 h → Q' y0 h) {v0 : Nat} {v1 : Int32} {h : AH} (z : ZZ L0 xs0 h) : f_X12_home v0 v1 h Q → f_X12_home v0 v1 h Q' := by
  unfold f_X12_home
  repeat' first
    | with_reducible exact hQ _ _ (by assumption)
    | with_reducible refine zm_and ?_ ?_
    | with_reducible refine zm_gI (fun x => ?_)
    | with_reducible refine zm_gR (fun x => ?_)
    | with_reducible refine zm_lI (fun x => ?_)
    | with_reducible refine zm_imp (fun _ => ?_)
    | with_reducible exact id
theorem z_B_X12_stone_74 {L0 : Nat} {xs0 : Nat → Int32} {Q Q' : Int32 → AH → Prop} (hQ : ∀ (y0 : Int32) (h : AH), ZZ L0 xs0 h → Q y0 h → Q' y0 h) {t0 : Nat} {t1 : Int32} {h : AH} (z : ZZ L0 xs0 h) : B_X12_stone_74 Q t0 t1 h → B_X12_stone_74 Q' t0 t1 h := by
  unfold B_X12_stone_74
  repeat' first
    | with_reducible exact hQ _ _ (by assumption)
    | with_reducible refine zm_and ?_ ?_
    | with_reducible refine z_f_X12_tells (fun y0 h1 z1 => ?_) (by assumption)
    | with_reducible refine zm_imp (fun _ => ?_)
    | with_reducible exact id
theorem z_f_X12_stone {L0 : Nat} {xs0 : Nat → Int32} {Q Q' : Int32 → AH → Prop} (hQ : ∀ (y0 : Int32) (h : AH), ZZ L0 xs0 h → Q y0 h → Q' y0 h) {v0 : Nat} {v1 : Int32} {v2 : Int32} {h : AH} (z : ZZ L0 xs0 h) : f_X12_stone v0 v1 v2 h Q → f_X12_stone v0 v1 v2 h Q' := by
  unfold f_X12_stone
  repeat' first
    | with_reducible exact hQ _ _ (by assumption)
    | with_reducible refine zm_and ?_ ?_
    | with_reducible refine zm_gI (fun x => ?_)
    | with_reducible refine zm_gR (fun x => ?_)
    | with_reducible refine zm_lI (fun x => ?_)
    | with_reducible refine z_B_X12_stone_74 (fun y0 h1 z1 => ?_) (by assumption)
    | with_reducible refine z_f_X12_home (fun y0 h1 z1 => ?_) (by assumption)
    | with_reducible refine z_f_X12_in (fun y0 h1 z1 => ?_) (by assumption)
    | with_reducible refine z_f_X12_isStone (fun y0 h1 z1 => ?_) (by assumption)
    | with_reducible refine z_f_X12_spotOf (fun y0 h1 z1 => ?_) (by assumption)
    | with_reducible refine z_f_X12_told (fun y0 h1 z1 => ?_) (by assumption)
    | with_reducible refine zm_imp (fun _ => ?_)
    | with_reducible exact id
theorem z_f_X5_walkerAt {L0 : Nat} {xs0 : Nat → Int32} {Q Q' : Option Nat → AH → Prop} (hQ : ∀ (y0 : Option Nat) (h : AH), ZZ L0 xs0 h → Q y0 h → Q' y0 h) {v0 : Nat} {v1 : Int32} {h : AH} (z : ZZ L0 xs0 h) : f_X5_walkerAt v0 v1 h Q → f_X5_walkerAt v0 v1 h Q' := by
  unfold f_X5_walkerAt
  repeat' first
    | with_reducible exact hQ _ _ (by assumption)
    | with_reducible refine zm_and ?_ ?_
    | with_reducible refine zm_gI (fun x => ?_)
    | with_reducible refine zm_gR (fun x => ?_)
    | with_reducible refine zm_lQ (fun x => ?_)
    | with_reducible refine zm_imp (fun _ => ?_)
    | with_reducible exact id
theorem z_f_X0_kind {L0 : Nat} {xs0 : Nat → Int32} {Q Q' : Int32 → AH → Prop} (hQ : ∀ (y0 : Int32) (h : AH), ZZ L0 xs0 h → Q y0 h → Q' y0 h) {v0 : Nat} {h : AH} (z : ZZ L0 xs0 h) : f_X0_kind v0 h Q → f_X0_kind v0 h Q' := by
  unfold f_X0_kind
  repeat' first
    | with_reducible exact hQ _ _ (by assumption)
    | with_reducible refine zm_and ?_ ?_
    | with_reducible refine zm_imp (fun _ => ?_)
    | with_reducible exact id
theorem z_f_X1_kind {L0 : Nat} {xs0 : Nat → Int32} {Q Q' : Int32 → AH → Prop} (hQ : ∀ (y0 : Int32) (h : AH), ZZ L0 xs0 h → Q y0 h → Q' y0 h) {v0 : Nat} {h : AH} (z : ZZ L0 xs0 h) : f_X1_kind v0 h Q → f_X1_kind v0 h Q' := by
  unfold f_X1_kind
  repeat' first
    | with_reducible exact hQ _ _ (by assumption)
    | with_reducible refine zm_and ?_ ?_
    | with_reducible refine zm_imp (fun _ => ?_)
    | with_reducible exact id
theorem z_f_X2_kind {L0 : Nat} {xs0 : Nat → Int32} {Q Q' : Int32 → AH → Prop} (hQ : ∀ (y0 : Int32) (h : AH), ZZ L0 xs0 h → Q y0 h → Q' y0 h) {v0 : Nat} {h : AH} (z : ZZ L0 xs0 h) : f_X2_kind v0 h Q → f_X2_kind v0 h Q' := by
  unfold f_X2_kind
  repeat' first
    | with_reducible exact hQ _ _ (by assumption)
    | with_reducible refine zm_and ?_ ?_
    | with_reducible refine zm_imp (fun _ => ?_)
    | with_reducible exact id
theorem z_f_X3_kind {L0 : Nat} {xs0 : Nat → Int32} {Q Q' : Int32 → AH → Prop} (hQ : ∀ (y0 : Int32) (h : AH), ZZ L0 xs0 h → Q y0 h → Q' y0 h) {v0 : Nat} {h : AH} (z : ZZ L0 xs0 h) : f_X3_kind v0 h Q → f_X3_kind v0 h Q' := by
  unfold f_X3_kind
  repeat' first
    | with_reducible exact hQ _ _ (by assumption)
    | with_reducible refine zm_and ?_ ?_
    | with_reducible refine zm_imp (fun _ => ?_)
    | with_reducible exact id
theorem z_f_X8_kind {L0 : Nat} {xs0 : Nat → Int32} {Q Q' : Int32 → AH → Prop} (hQ : ∀ (y0 : Int32) (h : AH), ZZ L0 xs0 h → Q y0 h → Q' y0 h) {v0 : Nat} {h : AH} (z : ZZ L0 xs0 h) : f_X8_kind v0 h Q → f_X8_kind v0 h Q' := by
  unfold f_X8_kind
  repeat' first
    | with_reducible exact hQ _ _ (by assumption)
    | with_reducible refine zm_and ?_ ?_
    | with_reducible refine zm_imp (fun _ => ?_)
    | with_reducible exact id
theorem z_f_X10_kind {L0 : Nat} {xs0 : Nat → Int32} {Q Q' : Int32 → AH → Prop} (hQ : ∀ (y0 : Int32) (h : AH), ZZ L0 xs0 h → Q y0 h → Q' y0 h) {v0 : Nat} {h : AH} (z : ZZ L0 xs0 h) : f_X10_kind v0 h Q → f_X10_kind v0 h Q' := by
  unfold f_X10_kind
  repeat' first
    | with_reducible exact hQ _ _ (by assumption)
    | with_reducible refine zm_and ?_ ?_
    | with_reducible refine zm_imp (fun _ => ?_)
    | with_reducible exact id
theorem z_v_kind0 {L0 : Nat} {xs0 : Nat → Int32} {Q Q' : Int32 → AH → Prop} (hQ : ∀ (y0 : Int32) (h : AH), ZZ L0 xs0 h → Q y0 h → Q' y0 h) {a : Nat} {h : AH} (z : ZZ L0 xs0 h) : v_kind0 a h Q → v_kind0 a h Q' := by
  unfold v_kind0
  repeat' first
    | with_reducible exact hQ _ _ (by assumption)
    | with_reducible refine zm_and ?_ ?_
    | with_reducible refine zm_ex (fun x => ?_)
    | with_reducible refine zm_or ?_ ?_
    | with_reducible refine z_f_X0_kind (fun y0 h1 z1 => ?_) (by assumption)
    | with_reducible refine z_f_X10_kind (fun y0 h1 z1 => ?_) (by assumption)
    | with_reducible refine z_f_X1_kind (fun y0 h1 z1 => ?_) (by assumption)
    | with_reducible refine z_f_X2_kind (fun y0 h1 z1 => ?_) (by assumption)
    | with_reducible refine z_f_X3_kind (fun y0 h1 z1 => ?_) (by assumption)
    | with_reducible refine z_f_X8_kind (fun y0 h1 z1 => ?_) (by assumption)
    | with_reducible refine zm_imp (fun _ => ?_)
    | with_reducible exact id
theorem z_B_X11_allPay_4 {L0 : Nat} {xs0 : Nat → Int32} {Q Q' : Int32 → AH → Prop} {K4 K4' : Int32 → Int32 → AH → Prop} (hQ : ∀ (y0 : Int32) (h : AH), ZZ L0 xs0 h → Q y0 h → Q' y0 h) (hK4 : ∀ (y0 : Int32) (y1 : Int32) (h : AH), ZZ L0 xs0 h → K4 y0 y1 h → K4' y0 y1 h) {v0 : Nat} {v1 : Int32} {v2 : Int32} {v3 : Int32} {h : AH} (z : ZZ L0 xs0 h) : B_X11_allPay_4 Q K4 v0 v1 v2 v3 h → B_X11_allPay_4 Q' K4' v0 v1 v2 v3 h := by
  unfold B_X11_allPay_4
  repeat' first
    | with_reducible exact hQ _ _ (by assumption)
    | with_reducible exact hK4 _ _ _ (by assumption)
    | with_reducible refine zm_and ?_ ?_
    | with_reducible refine zm_gI (fun x => ?_)
    | with_reducible refine zm_gR (fun x => ?_)
    | with_reducible refine zm_lQ (fun x => ?_)
    | with_reducible refine zm_imp (fun _ => ?_)
    | with_reducible exact id
theorem z_L_X11_allPay_4 {L0 : Nat} {xs0 : Nat → Int32} {Q Q' : Int32 → AH → Prop} (hQ : ∀ (y0 : Int32) (h : AH), ZZ L0 xs0 h → Q y0 h → Q' y0 h) {v0 : Nat} {v1 : Int32} : ∀ (n : Nat) (w0 : Int32) (w1 : Int32) (h : AH), ZZ L0 xs0 h → L_X11_allPay_4 Q v0 v1 n w0 w1 h → L_X11_allPay_4 Q' v0 v1 n w0 w1 h := by
  intro n
  induction n with
  | zero => intro w0 w1 h z H; exact H.elim
  | succ n ih => intro w0 w1 h z; exact z_B_X11_allPay_4 hQ ih z
theorem z_f_X11_allPay {L0 : Nat} {xs0 : Nat → Int32} {Q Q' : Int32 → AH → Prop} (hQ : ∀ (y0 : Int32) (h : AH), ZZ L0 xs0 h → Q y0 h → Q' y0 h) {v0 : Nat} {v1 : Int32} {h : AH} (z : ZZ L0 xs0 h) : f_X11_allPay v0 v1 h Q → f_X11_allPay v0 v1 h Q' := by
  unfold f_X11_allPay
  repeat' first
    | with_reducible exact hQ _ _ (by assumption)
    | with_reducible refine zm_and ?_ ?_
    | with_reducible refine zm_ex (fun x => ?_)
    | with_reducible refine z_L_X11_allPay_4 (fun y0 h1 z1 => ?_) _ _ _ _ (by assumption)
    | with_reducible refine zm_imp (fun _ => ?_)
    | with_reducible exact id
theorem z_f_X11_ofWalker {L0 : Nat} {xs0 : Nat → Int32} {Q Q' : Int32 → AH → Prop} (hQ : ∀ (y0 : Int32) (h : AH), ZZ L0 xs0 h → Q y0 h → Q' y0 h) {v0 : Nat} {v1 : Int32} {v2 : Int32} {h : AH} (z : ZZ L0 xs0 h) : f_X11_ofWalker v0 v1 v2 h Q → f_X11_ofWalker v0 v1 v2 h Q' := by
  unfold f_X11_ofWalker
  repeat' first
    | with_reducible exact hQ _ _ (by assumption)
    | with_reducible refine zm_and ?_ ?_
    | with_reducible refine zm_gR (fun x => ?_)
    | with_reducible refine zm_gW (fun x => ?_)
    | with_reducible refine zm_all (fun x _ => ?_)
    | with_reducible refine z_f_X11_allPay (fun y0 h1 z1 => ?_) (by assumption)
    | with_reducible refine z_f_X5_walkerAt (fun y0 h1 z1 => ?_) (by assumption)
    | with_reducible refine z_v_kind0 (fun y0 h1 z1 => ?_) (by assumption)
    | with_reducible refine zm_imp (fun _ => ?_)
    | with_reducible exact id
theorem z_f_X11_walker {L0 : Nat} {xs0 : Nat → Int32} {Q Q' : Int32 → AH → Prop} (hQ : ∀ (y0 : Int32) (h : AH), ZZ L0 xs0 h → Q y0 h → Q' y0 h) {v0 : Nat} {v1 : Int32} {v2 : Int32} {h : AH} (z : ZZ L0 xs0 h) : f_X11_walker v0 v1 v2 h Q → f_X11_walker v0 v1 v2 h Q' := by
  unfold f_X11_walker
  repeat' first
    | with_reducible exact hQ _ _ (by assumption)
    | with_reducible refine zm_and ?_ ?_
    | with_reducible refine zm_gI (fun x => ?_)
    | with_reducible refine zm_gR (fun x => ?_)
    | with_reducible refine zm_pF (by assumption) (fun h1 z1 => ?_)
    | with_reducible refine z_f_X11_isBelow (fun y0 h1 z1 => ?_) (by assumption)
    | with_reducible refine z_f_X11_ofWalker (fun y0 h1 z1 => ?_) (by assumption)
    | with_reducible refine zm_imp (fun _ => ?_)
    | with_reducible exact id
theorem z_f_X12_isWalker {L0 : Nat} {xs0 : Nat → Int32} {Q Q' : Int32 → AH → Prop} (hQ : ∀ (y0 : Int32) (h : AH), ZZ L0 xs0 h → Q y0 h → Q' y0 h) {v0 : Nat} {v1 : Int32} {h : AH} (z : ZZ L0 xs0 h) : f_X12_isWalker v0 v1 h Q → f_X12_isWalker v0 v1 h Q' := by
  unfold f_X12_isWalker
  repeat' first
    | with_reducible exact hQ _ _ (by assumption)
    | with_reducible refine zm_and ?_ ?_
    | with_reducible refine zm_gI (fun x => ?_)
    | with_reducible refine z_f_X12_in (fun y0 h1 z1 => ?_) (by assumption)
    | with_reducible refine zm_imp (fun _ => ?_)
    | with_reducible exact id
theorem z_B_X12_walker_70 {L0 : Nat} {xs0 : Nat → Int32} {Q Q' : Int32 → AH → Prop} (hQ : ∀ (y0 : Int32) (h : AH), ZZ L0 xs0 h → Q y0 h → Q' y0 h) {t0 : Nat} {t1 : Int32} {h : AH} (z : ZZ L0 xs0 h) : B_X12_walker_70 Q t0 t1 h → B_X12_walker_70 Q' t0 t1 h := by
  unfold B_X12_walker_70
  repeat' first
    | with_reducible exact hQ _ _ (by assumption)
    | with_reducible refine zm_and ?_ ?_
    | with_reducible refine z_f_X12_tells (fun y0 h1 z1 => ?_) (by assumption)
    | with_reducible refine zm_imp (fun _ => ?_)
    | with_reducible exact id
theorem z_f_X12_walker {L0 : Nat} {xs0 : Nat → Int32} {Q Q' : Int32 → AH → Prop} (hQ : ∀ (y0 : Int32) (h : AH), ZZ L0 xs0 h → Q y0 h → Q' y0 h) {v0 : Nat} {v1 : Int32} {v2 : Int32} {h : AH} (z : ZZ L0 xs0 h) : f_X12_walker v0 v1 v2 h Q → f_X12_walker v0 v1 v2 h Q' := by
  unfold f_X12_walker
  repeat' first
    | with_reducible exact hQ _ _ (by assumption)
    | with_reducible refine zm_and ?_ ?_
    | with_reducible refine zm_gR (fun x => ?_)
    | with_reducible refine zm_lI (fun x => ?_)
    | with_reducible refine z_B_X12_walker_70 (fun y0 h1 z1 => ?_) (by assumption)
    | with_reducible refine z_f_X12_in (fun y0 h1 z1 => ?_) (by assumption)
    | with_reducible refine z_f_X12_isWalker (fun y0 h1 z1 => ?_) (by assumption)
    | with_reducible refine zm_imp (fun _ => ?_)
    | with_reducible exact id
theorem z_f_X9_begin {L0 : Nat} {xs0 : Nat → Int32} {Q Q' : AH → Prop} (hQ : ∀ (h : AH), ZZ L0 xs0 h → Q  h → Q'  h) {v0 : Nat} {v1 : Nat} {v2 : Int32} {v3 : Int32} {h : AH} (z : ZZ L0 xs0 h) : f_X9_begin v0 v1 v2 v3 h Q → f_X9_begin v0 v1 v2 v3 h Q' := by
  unfold f_X9_begin
  repeat' first
    | with_reducible exact hQ _ (by assumption)
    | with_reducible refine zm_and ?_ ?_
    | with_reducible refine zm_pF (by assumption) (fun h1 z1 => ?_)
    | with_reducible refine zm_imp (fun _ => ?_)
    | with_reducible exact id
theorem z_f_X10_tell {L0 : Nat} {xs0 : Nat → Int32} {Q Q' : Int32 → AH → Prop} (hQ : ∀ (y0 : Int32) (h : AH), ZZ L0 xs0 h → Q y0 h → Q' y0 h) {v0 : Nat} {v1 : Int32} {v2 : Nat} {h : AH} (z : ZZ L0 xs0 h) : f_X10_tell v0 v1 v2 h Q → f_X10_tell v0 v1 v2 h Q' := by
  unfold f_X10_tell
  repeat' first
    | with_reducible exact hQ _ _ (by assumption)
    | with_reducible refine zm_and ?_ ?_
    | with_reducible refine zm_imp (fun _ => ?_)
    | with_reducible exact id
theorem z_f_X5_turnOf {L0 : Nat} {xs0 : Nat → Int32} {Q Q' : Int32 → AH → Prop} (hQ : ∀ (y0 : Int32) (h : AH), ZZ L0 xs0 h → Q y0 h → Q' y0 h) {v0 : Nat} {v1 : Int32} {v2 : Int32} {v3 : Int32} {h : AH} (z : ZZ L0 xs0 h) : f_X5_turnOf v0 v1 v2 v3 h Q → f_X5_turnOf v0 v1 v2 v3 h Q' := by
  unfold f_X5_turnOf
  repeat' first
    | with_reducible exact hQ _ _ (by assumption)
    | with_reducible refine zm_and ?_ ?_
    | with_reducible refine zm_gR (fun x => ?_)
    | with_reducible refine zm_lI (fun x => ?_)
    | with_reducible refine zm_imp (fun _ => ?_)
    | with_reducible exact id
theorem z_B_X9_firstOn_102 {L0 : Nat} {xs0 : Nat → Int32} {Q Q' : Int32 → AH → Prop} {K17 K17' : Int32 → Int32 → Int32 → AH → Prop} (hQ : ∀ (y0 : Int32) (h : AH), ZZ L0 xs0 h → Q y0 h → Q' y0 h) (hK17 : ∀ (y0 : Int32) (y1 : Int32) (y2 : Int32) (h : AH), ZZ L0 xs0 h → K17 y0 y1 y2 h → K17' y0 y1 y2 h) {v0 : Nat} {v1 : Int32} {v2 : Int32} {v3 : Int32} {v6 : Int32} {v7 : Int32} {v10 : Int32} {h : AH} (z : ZZ L0 xs0 h) : B_X9_firstOn_102 Q K17 v0 v1 v2 v3 v6 v7 v10 h → B_X9_firstOn_102 Q' K17' v0 v1 v2 v3 v6 v7 v10 h := by
  unfold B_X9_firstOn_102
  repeat' first
    | with_reducible exact hQ _ _ (by assumption)
    | with_reducible exact hK17 _ _ _ _ (by assumption)
    | with_reducible refine zm_and ?_ ?_
    | with_reducible refine zm_imp (fun _ => ?_)
    | with_reducible exact id
