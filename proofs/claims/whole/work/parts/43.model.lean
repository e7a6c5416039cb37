/-- the model's object: its numbers mi by their places; its rows lie at 103 .. 130 -/
def mfs (mi : Nat → Int32) (u l : Int64) : List Value := [.ref 103, .ref 104, .ref 105, .ref 106, .int (mi 4), .long u, .long l, .int (mi 7), .ref 107, .int (mi 9), .int (mi 10), .ref 108, .int (mi 12), .ref 109, .ref 110, .ref 111, .int (mi 16), .int (mi 17), .ref 112, .ref 113, .int (mi 20), .ref 114, .ref 115, .ref 116, .ref 117, .ref 118, .ref 119, .int (mi 27), .int (mi 28), .int (mi 29), .int (mi 30), .ref 120, .ref 121, .ref 122, .ref 123, .ref 124, .ref 125, .ref 126, .int (mi 38), .int (mi 39), .ref 127, .int (mi 41), .ref 128, .ref 129, .ref 130, .int (mi 45), .int (mi 46), .int (mi 47), .int (mi 48), .int (mi 49), .int (mi 50)]
def mlen : List Nat := [6, 360, 4, 240, 6, 5, 5, 5, 5, 5, 5, 60, 60, 60, 300, 3, 3, 5, 5, 5, 5, 5, 5, 5, 125, 32768, 32768, 32768]
def mtag (j : Nat) : Nat := if j = 27 then 1 else 0
theorem mg4 (mi : Nat → Int32) (u l : Int64) : (mfs mi u l)[4]? = some (.int (mi 4)) := rfl
theorem ms4 (mi : Nat → Int32) (u l : Int64) (v : Int32) : (mfs mi u l).set 4 (.int v) = mfs (upd mi 4 v) u l := rfl
theorem mg7 (mi : Nat → Int32) (u l : Int64) : (mfs mi u l)[7]? = some (.int (mi 7)) := rfl
theorem ms7 (mi : Nat → Int32) (u l : Int64) (v : Int32) : (mfs mi u l).set 7 (.int v) = mfs (upd mi 7 v) u l := rfl
theorem mg9 (mi : Nat → Int32) (u l : Int64) : (mfs mi u l)[9]? = some (.int (mi 9)) := rfl
theorem ms9 (mi : Nat → Int32) (u l : Int64) (v : Int32) : (mfs mi u l).set 9 (.int v) = mfs (upd mi 9 v) u l := rfl
theorem mg10 (mi : Nat → Int32) (u l : Int64) : (mfs mi u l)[10]? = some (.int (mi 10)) := rfl
theorem ms10 (mi : Nat → Int32) (u l : Int64) (v : Int32) : (mfs mi u l).set 10 (.int v) = mfs (upd mi 10 v) u l := rfl
theorem mg12 (mi : Nat → Int32) (u l : Int64) : (mfs mi u l)[12]? = some (.int (mi 12)) := rfl
theorem ms12 (mi : Nat → Int32) (u l : Int64) (v : Int32) : (mfs mi u l).set 12 (.int v) = mfs (upd mi 12 v) u l := rfl
theorem mg16 (mi : Nat → Int32) (u l : Int64) : (mfs mi u l)[16]? = some (.int (mi 16)) := rfl
theorem ms16 (mi : Nat → Int32) (u l : Int64) (v : Int32) : (mfs mi u l).set 16 (.int v) = mfs (upd mi 16 v) u l := rfl
theorem mg17 (mi : Nat → Int32) (u l : Int64) : (mfs mi u l)[17]? = some (.int (mi 17)) := rfl
theorem ms17 (mi : Nat → Int32) (u l : Int64) (v : Int32) : (mfs mi u l).set 17 (.int v) = mfs (upd mi 17 v) u l := rfl
theorem mg20 (mi : Nat → Int32) (u l : Int64) : (mfs mi u l)[20]? = some (.int (mi 20)) := rfl
theorem ms20 (mi : Nat → Int32) (u l : Int64) (v : Int32) : (mfs mi u l).set 20 (.int v) = mfs (upd mi 20 v) u l := rfl
theorem mg27 (mi : Nat → Int32) (u l : Int64) : (mfs mi u l)[27]? = some (.int (mi 27)) := rfl
theorem ms27 (mi : Nat → Int32) (u l : Int64) (v : Int32) : (mfs mi u l).set 27 (.int v) = mfs (upd mi 27 v) u l := rfl
theorem mg28 (mi : Nat → Int32) (u l : Int64) : (mfs mi u l)[28]? = some (.int (mi 28)) := rfl
theorem ms28 (mi : Nat → Int32) (u l : Int64) (v : Int32) : (mfs mi u l).set 28 (.int v) = mfs (upd mi 28 v) u l := rfl
theorem mg29 (mi : Nat → Int32) (u l : Int64) : (mfs mi u l)[29]? = some (.int (mi 29)) := rfl
theorem ms29 (mi : Nat → Int32) (u l : Int64) (v : Int32) : (mfs mi u l).set 29 (.int v) = mfs (upd mi 29 v) u l := rfl
theorem mg30 (mi : Nat → Int32) (u l : Int64) : (mfs mi u l)[30]? = some (.int (mi 30)) := rfl
theorem ms30 (mi : Nat → Int32) (u l : Int64) (v : Int32) : (mfs mi u l).set 30 (.int v) = mfs (upd mi 30 v) u l := rfl
theorem mg38 (mi : Nat → Int32) (u l : Int64) : (mfs mi u l)[38]? = some (.int (mi 38)) := rfl
theorem ms38 (mi : Nat → Int32) (u l : Int64) (v : Int32) : (mfs mi u l).set 38 (.int v) = mfs (upd mi 38 v) u l := rfl
theorem mg39 (mi : Nat → Int32) (u l : Int64) : (mfs mi u l)[39]? = some (.int (mi 39)) := rfl
theorem ms39 (mi : Nat → Int32) (u l : Int64) (v : Int32) : (mfs mi u l).set 39 (.int v) = mfs (upd mi 39 v) u l := rfl
theorem mg41 (mi : Nat → Int32) (u l : Int64) : (mfs mi u l)[41]? = some (.int (mi 41)) := rfl
theorem ms41 (mi : Nat → Int32) (u l : Int64) (v : Int32) : (mfs mi u l).set 41 (.int v) = mfs (upd mi 41 v) u l := rfl
theorem mg45 (mi : Nat → Int32) (u l : Int64) : (mfs mi u l)[45]? = some (.int (mi 45)) := rfl
theorem ms45 (mi : Nat → Int32) (u l : Int64) (v : Int32) : (mfs mi u l).set 45 (.int v) = mfs (upd mi 45 v) u l := rfl
theorem mg46 (mi : Nat → Int32) (u l : Int64) : (mfs mi u l)[46]? = some (.int (mi 46)) := rfl
theorem ms46 (mi : Nat → Int32) (u l : Int64) (v : Int32) : (mfs mi u l).set 46 (.int v) = mfs (upd mi 46 v) u l := rfl
theorem mg47 (mi : Nat → Int32) (u l : Int64) : (mfs mi u l)[47]? = some (.int (mi 47)) := rfl
theorem ms47 (mi : Nat → Int32) (u l : Int64) (v : Int32) : (mfs mi u l).set 47 (.int v) = mfs (upd mi 47 v) u l := rfl
theorem mg48 (mi : Nat → Int32) (u l : Int64) : (mfs mi u l)[48]? = some (.int (mi 48)) := rfl
theorem ms48 (mi : Nat → Int32) (u l : Int64) (v : Int32) : (mfs mi u l).set 48 (.int v) = mfs (upd mi 48 v) u l := rfl
theorem mg49 (mi : Nat → Int32) (u l : Int64) : (mfs mi u l)[49]? = some (.int (mi 49)) := rfl
theorem ms49 (mi : Nat → Int32) (u l : Int64) (v : Int32) : (mfs mi u l).set 49 (.int v) = mfs (upd mi 49 v) u l := rfl
theorem mg50 (mi : Nat → Int32) (u l : Int64) : (mfs mi u l)[50]? = some (.int (mi 50)) := rfl
theorem ms50 (mi : Nat → Int32) (u l : Int64) (v : Int32) : (mfs mi u l).set 50 (.int v) = mfs (upd mi 50 v) u l := rfl
theorem mr0 (mi : Nat → Int32) (u l : Int64) : (mfs mi u l)[0]? = some (.ref 103) := rfl
theorem mr1 (mi : Nat → Int32) (u l : Int64) : (mfs mi u l)[1]? = some (.ref 104) := rfl
theorem mr2 (mi : Nat → Int32) (u l : Int64) : (mfs mi u l)[2]? = some (.ref 105) := rfl
theorem mr3 (mi : Nat → Int32) (u l : Int64) : (mfs mi u l)[3]? = some (.ref 106) := rfl
theorem mr8 (mi : Nat → Int32) (u l : Int64) : (mfs mi u l)[8]? = some (.ref 107) := rfl
theorem mr11 (mi : Nat → Int32) (u l : Int64) : (mfs mi u l)[11]? = some (.ref 108) := rfl
theorem mr13 (mi : Nat → Int32) (u l : Int64) : (mfs mi u l)[13]? = some (.ref 109) := rfl
theorem mr14 (mi : Nat → Int32) (u l : Int64) : (mfs mi u l)[14]? = some (.ref 110) := rfl
theorem mr15 (mi : Nat → Int32) (u l : Int64) : (mfs mi u l)[15]? = some (.ref 111) := rfl
theorem mr18 (mi : Nat → Int32) (u l : Int64) : (mfs mi u l)[18]? = some (.ref 112) := rfl
theorem mr19 (mi : Nat → Int32) (u l : Int64) : (mfs mi u l)[19]? = some (.ref 113) := rfl
theorem mr21 (mi : Nat → Int32) (u l : Int64) : (mfs mi u l)[21]? = some (.ref 114) := rfl
theorem mr22 (mi : Nat → Int32) (u l : Int64) : (mfs mi u l)[22]? = some (.ref 115) := rfl
theorem mr23 (mi : Nat → Int32) (u l : Int64) : (mfs mi u l)[23]? = some (.ref 116) := rfl
theorem mr24 (mi : Nat → Int32) (u l : Int64) : (mfs mi u l)[24]? = some (.ref 117) := rfl
theorem mr25 (mi : Nat → Int32) (u l : Int64) : (mfs mi u l)[25]? = some (.ref 118) := rfl
theorem mr26 (mi : Nat → Int32) (u l : Int64) : (mfs mi u l)[26]? = some (.ref 119) := rfl
theorem mr31 (mi : Nat → Int32) (u l : Int64) : (mfs mi u l)[31]? = some (.ref 120) := rfl
theorem mr32 (mi : Nat → Int32) (u l : Int64) : (mfs mi u l)[32]? = some (.ref 121) := rfl
theorem mr33 (mi : Nat → Int32) (u l : Int64) : (mfs mi u l)[33]? = some (.ref 122) := rfl
theorem mr34 (mi : Nat → Int32) (u l : Int64) : (mfs mi u l)[34]? = some (.ref 123) := rfl
theorem mr35 (mi : Nat → Int32) (u l : Int64) : (mfs mi u l)[35]? = some (.ref 124) := rfl
theorem mr36 (mi : Nat → Int32) (u l : Int64) : (mfs mi u l)[36]? = some (.ref 125) := rfl
theorem mr37 (mi : Nat → Int32) (u l : Int64) : (mfs mi u l)[37]? = some (.ref 126) := rfl
theorem mr40 (mi : Nat → Int32) (u l : Int64) : (mfs mi u l)[40]? = some (.ref 127) := rfl
theorem mr42 (mi : Nat → Int32) (u l : Int64) : (mfs mi u l)[42]? = some (.ref 128) := rfl
theorem mr43 (mi : Nat → Int32) (u l : Int64) : (mfs mi u l)[43]? = some (.ref 129) := rfl
theorem mr44 (mi : Nat → Int32) (u l : Int64) : (mfs mi u l)[44]? = some (.ref 130) := rfl
theorem mset_u (mi : Nat → Int32) (u l v : Int64) : (mfs mi u l).set 5 (.long v) = mfs mi v l := rfl
theorem mset_l (mi : Nat → Int32) (u l v : Int64) : (mfs mi u l).set 6 (.long v) = mfs mi u v := rfl
theorem mlen_s (mi : Nat → Int32) (u l : Int64) : (mfs mi u l).length = 51 := rfl
/-- the model's cells -/
def RepM (h : AH) (mi : Nat → Int32) (u l : Int64) (ma : Nat → Nat → Int32) : Prop := h.2.2 102 = some (.inr (12, mfs mi u l)) ∧ ∀ j n, mlen[j]? = some n → h.2.2 (103 + j) = some (.inl (mtag j, n, .inl (ma j)))
/-- of two heaps: nothing but the model's cells may differ -/
def Mag (h h1 : AH) : Prop := h1.1 = h.1 ∧ h1.2.1 = h.2.1 ∧ ∀ a, ¬ (102 ≤ a ∧ a ≤ 130) → h1.2.2 a = h.2.2 a
theorem Mag.rf {h : AH} : Mag h h := ⟨rfl, rfl, fun _ _ => rfl⟩
theorem Mag.tr {h h1 h2 : AH} (A : Mag h h1) (B : Mag h1 h2) : Mag h h2 := ⟨B.1.trans A.1, B.2.1.trans A.2.1, fun a ha => (B.2.2 a ha).trans (A.2.2 a ha)⟩
theorem Mag.put {h : AH} {a : Nat} {e : va_E} (ha : 102 ≤ a ∧ a ≤ 130) : Mag h (aput h a e) := ⟨rfl, rfl, fun b hb => aput_n h e (fun q => hb (q ▸ ha))⟩
section MM
variable {h : AH} {mi : Nat → Int32} {u l : Int64} {ma : Nat → Nat → Int32}
theorem RepM.o (R : RepM h mi u l ma) : isO h 102 12 := ⟨_, R.1⟩
theorem RepM.keep {h1 : AH} (R : RepM h mi u l ma) (ha : ∀ a, 102 ≤ a → a ≤ 130 → h1.2.2 a = h.2.2 a) : RepM h1 mi u l ma := ⟨by rw [ha 102 (by omega) (by omega)]; exact R.1, fun j n hj => by
  have h1 : j < 28 := (List.getElem?_eq_some_iff.mp hj).1
  rw [ha (103 + j) (by omega) (by omega)]
  exact R.2 j n hj⟩
theorem RepM.obj {fs : List Value} (R : RepM h mi u l ma) {mi1 : Nat → Int32} {u1 l1 : Int64} (hf : fs = mfs mi1 u1 l1) : RepM (aput h 102 (.inr (12, fs))) mi1 u1 l1 ma := by
  subst hf
  exact ⟨aput_s _ _ _, fun j n hj => by rw [aput_n _ _ (by omega)]; exact R.2 j n hj⟩
theorem RepM.arr (R : RepM h mi u l ma) {j n : Nat} (hj : mlen[j]? = some n) {f : Nat → Int32} : RepM (aput h (103 + j) (.inl (mtag j, n, .inl f))) mi u l (va_up ma j f) := by
  refine ⟨by rw [aput_n _ _ (by omega)]; exact R.1, fun i m hi => ?_⟩
  by_cases e : i = j
  · subst e
    have : n = m := Option.some.inj (hj.symm.trans hi)
    subst this
    rw [aput_s, va_up_self]
  · rw [aput_n _ _ (by omega), va_up_ne _ _ e]
    exact R.2 i m hi
/-- a number is read, written; a place of a row is read, written -/
theorem m_gI {k : Nat} {K : Int32 → Prop} (R : RepM h mi u l ma) (hk : (mfs mi u l)[k]? = some (.int (mi k))) (H : K (mi k)) : gI h 102 12 k K := gI_of R.1 hk H
theorem m_gR {k a : Nat} {K : Nat → Prop} (R : RepM h mi u l ma) (hk : (mfs mi u l)[k]? = some (.ref a)) (H : K a) : gR h 102 12 k K := gR_of R.1 hk H
theorem m_pF {k : Nat} {v : Int32} {K : AH → Prop} (R : RepM h mi u l ma) (hk : k < 51) (hs : (mfs mi u l).set k (.int v) = mfs (upd mi k v) u l) (H : ∀ h1, RepM h1 (upd mi k v) u l ma → Mag h h1 → K h1) : pF h 102 12 k (.int v) K :=
  pF_of R.1 hk rfl (H _ (R.obj hs) (Mag.put (by omega)))
theorem m_lI {a j n : Nat} {i : Int32} {K : Int32 → Prop} (R : RepM h mi u l ma) (ha : a = 103 + j) (hj : mlen[j]? = some n) (h0 : mtag j = 0) (hi : vp_in i n) (H : K (ma j i.toNatClampNeg)) : lI h a i K := by
  subst ha
  have := R.2 j n hj
  rw [h0] at this
  exact lI_of this hi H
theorem m_sI {a j n : Nat} {i x : Int32} {K : AH → Prop} (R : RepM h mi u l ma) (ha : a = 103 + j) (hj : mlen[j]? = some n) (h0 : mtag j = 0) (hi : vp_in i n) (H : ∀ h1, RepM h1 mi u l (va_up ma j (upd (ma j) i.toNatClampNeg x)) → Mag h h1 → K h1) : sI h a i x K := by
  subst ha
  have h2 := R.2 j n hj
  have hl : j < 28 := (List.getElem?_eq_some_iff.mp hj).1
  have h3 := R.arr hj (f := upd (ma j) i.toNatClampNeg x)
  rw [h0] at h2 h3
  exact sI_of h2 hi (H _ h3 (Mag.put (by omega)))
end MM

