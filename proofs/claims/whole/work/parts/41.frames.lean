def zFp {α : Type} (a k : Nat) (v : Int32) (e : Option (α × zMem)) : Prop := ∀ r S, e = some (r, S) → S a k = v
theorem zf_none {α : Type} {a k : Nat} {v : Int32} : zFp a k v (none : Option (α × zMem)) := fun _ _ h => by cases h
theorem zf_some {α : Type} {a k : Nat} {v : Int32} {r : α} {s : zMem} (h : s a k = v) : zFp a k v (some (r, s)) := fun _ _ q => by cases q; exact h
theorem zf_gd {α : Type} {a k : Nat} {v : Int32} {c : Bool} {e : Option (α × zMem)} (h : zFp a k v e) : zFp a k v (gd c e) := fun r S q => h r S (zgd q).2
theorem zf_nmV {α : Type} {a k : Nat} {v : Int32} {x : Int32} {e : Int32 → Option (α × zMem)} (h : ∀ y, zFp a k v (e y)) : zFp a k v (nm x e) := h x
theorem zf_nmL {α : Type} {a k : Nat} {v : Int32} {x : Int64} {e : Int64 → Option (α × zMem)} (h : ∀ y, zFp a k v (e y)) : zFp a k v (nm x e) := h x
theorem zf_nmM {α : Type} {a k : Nat} {v : Int32} {x : zMem} {e : zMem → Option (α × zMem)} (hx : x a k = v) (h : ∀ s : zMem, s a k = v → zFp a k v (e s)) : zFp a k v (nm x e) := h x hx
theorem zf_ite {α : Type} {a k : Nat} {v : Int32} {c : Prop} [Decidable c] {e1 e2 : Option (α × zMem)} (h1 : zFp a k v e1) (h2 : zFp a k v e2) : zFp a k v (if c then e1 else e2) := by
  by_cases q : c
  · rw [if_pos q]; exact h1
  · rw [if_neg q]; exact h2
theorem zf_bd {α β : Type} {a k : Nat} {v : Int32} {m : Option (α × zMem)} {f : α → zMem → Option (β × zMem)} (h1 : zFp a k v m) (h2 : ∀ r (s : zMem), s a k = v → zFp a k v (f r s)) : zFp a k v (bd m f) := by
  intro r S q
  obtain ⟨r2, S2, e1, e2⟩ := zbd q
  exact h2 r2 S2 (h1 r2 S2 e1) r S e2
theorem zCp_off {σ : zMem} {a sp b dp n x : Nat} (h : x ≠ b) : zCp σ a sp b dp n x = σ x := by simp [zCp, h]
theorem fr_X2_emit {v : Int32} (a k : Nat) (hn : ¬ ((a = 5 ∧ (k = 3)) ∨ a = 7)) {p1 : Int32} {s : zMem} (hs : s a k = v) : zFp a k v (f_X2_emit p1 s) := by
  unfold f_X2_emit
  repeat' (first
    | with_reducible exact zf_none
    | (with_reducible refine zf_some ?_); assumption
    | with_reducible assumption
    | exact (zUp_off (by omega)).trans (by assumption)
    | exact (congrFun (zCp_off (by omega)) _).trans (by assumption)
    | with_reducible apply zf_nmM
    | with_reducible apply zf_nmV
    | with_reducible apply zf_nmL
    | with_reducible apply zf_gd
    | with_reducible apply zf_ite
    | with_reducible apply zf_bd
    | intro _
    | omega
    )
theorem fr_X2_byteAt {v : Int32} (a k : Nat) (hn : ¬ (False)) {p1 : Int32} {s : zMem} (hs : s a k = v) : zFp a k v (f_X2_byteAt p1 s) := by
  unfold f_X2_byteAt
  repeat' (first
    | with_reducible exact zf_none
    | (with_reducible refine zf_some ?_); assumption
    | with_reducible assumption
    | exact (zUp_off (by omega)).trans (by assumption)
    | exact (congrFun (zCp_off (by omega)) _).trans (by assumption)
    | with_reducible apply zf_nmM
    | with_reducible apply zf_nmV
    | with_reducible apply zf_nmL
    | with_reducible apply zf_gd
    | with_reducible apply zf_ite
    | with_reducible apply zf_bd
    | intro _
    | omega
    )
theorem fr_X6_isFromTo {v : Int32} (a k : Nat) (hn : ¬ (False)) {p1 : Int32} {p2 : Int32} {p3 : Int32} {s : zMem} (hs : s a k = v) : zFp a k v (f_X6_isFromTo p1 p2 p3 s) := by
  unfold f_X6_isFromTo
  repeat' (first
    | with_reducible exact zf_none
    | (with_reducible refine zf_some ?_); assumption
    | with_reducible assumption
    | exact (zUp_off (by omega)).trans (by assumption)
    | exact (congrFun (zCp_off (by omega)) _).trans (by assumption)
    | with_reducible apply zf_nmM
    | with_reducible apply zf_nmV
    | with_reducible apply zf_nmL
    | with_reducible apply zf_gd
    | with_reducible apply zf_ite
    | with_reducible apply zf_bd
    | intro _
    | omega
    )
theorem fr_X2_isLetter {v : Int32} (a k : Nat) (hn : ¬ (False)) {p1 : Int32} {s : zMem} (hs : s a k = v) : zFp a k v (f_X2_isLetter p1 s) := by
  unfold f_X2_isLetter
  repeat' (first
    | with_reducible exact zf_none
    | (with_reducible refine zf_some ?_); assumption
    | with_reducible assumption
    | exact (zUp_off (by omega)).trans (by assumption)
    | exact (congrFun (zCp_off (by omega)) _).trans (by assumption)
    | with_reducible apply zf_nmM
    | with_reducible apply zf_nmV
    | with_reducible apply zf_nmL
    | with_reducible apply zf_gd
    | with_reducible apply zf_ite
    | with_reducible apply zf_bd
    | with_reducible apply fr_X6_isFromTo a k
    | intro _
    | omega
    )
theorem fr_X2_endOfWord_10 {v : Int32} (a k : Nat) (hn : ¬ (False))  : ∀ {n : Nat} {x3 : Int32} {x4 : Int32} {s : zMem}, s a k = v → zFp a k v (f_X2_endOfWord_10 n x3 x4 s) := by
  intro n
  induction n with
  | zero => intros; exact zf_none
  | succ n ih =>
    intros
    rw [f_X2_endOfWord_10]
    repeat' (first
      | with_reducible exact zf_none
      | (with_reducible refine zf_some ?_); assumption
      | with_reducible assumption
      | exact (zUp_off (by omega)).trans (by assumption)
      | exact (congrFun (zCp_off (by omega)) _).trans (by assumption)
      | with_reducible apply zf_nmM
      | with_reducible apply zf_nmV
      | with_reducible apply zf_nmL
      | with_reducible apply zf_gd
      | with_reducible apply zf_ite
      | with_reducible apply zf_bd
      | with_reducible apply ih
      | with_reducible apply fr_X2_byteAt a k
      | with_reducible apply fr_X2_isLetter a k
      | intro _
      | omega
      )
theorem fr_X2_endOfWord {v : Int32} (a k : Nat) (hn : ¬ (False))  {s : zMem} (hs : s a k = v) : zFp a k v (f_X2_endOfWord s) := by
  unfold f_X2_endOfWord
  repeat' (first
    | with_reducible exact zf_none
    | (with_reducible refine zf_some ?_); assumption
    | with_reducible assumption
    | exact (zUp_off (by omega)).trans (by assumption)
    | exact (congrFun (zCp_off (by omega)) _).trans (by assumption)
    | with_reducible apply zf_nmM
    | with_reducible apply zf_nmV
    | with_reducible apply zf_nmL
    | with_reducible apply zf_gd
    | with_reducible apply zf_ite
    | with_reducible apply zf_bd
    | with_reducible apply fr_X2_byteAt a k
    | with_reducible apply fr_X2_isLetter a k
    | with_reducible apply fr_X2_endOfWord_10 a k
    | intro _
    | omega
    )
theorem fr_X2_isBlank {v : Int32} (a k : Nat) (hn : ¬ (False)) {p1 : Int32} {s : zMem} (hs : s a k = v) : zFp a k v (f_X2_isBlank p1 s) := by
  unfold f_X2_isBlank
  repeat' (first
    | with_reducible exact zf_none
    | (with_reducible refine zf_some ?_); assumption
    | with_reducible assumption
    | exact (zUp_off (by omega)).trans (by assumption)
    | exact (congrFun (zCp_off (by omega)) _).trans (by assumption)
    | with_reducible apply zf_nmM
    | with_reducible apply zf_nmV
    | with_reducible apply zf_nmL
    | with_reducible apply zf_gd
    | with_reducible apply zf_ite
    | with_reducible apply zf_bd
    | intro _
    | omega
    )
theorem fr_X2_isDigit {v : Int32} (a k : Nat) (hn : ¬ (False)) {p1 : Int32} {s : zMem} (hs : s a k = v) : zFp a k v (f_X2_isDigit p1 s) := by
  unfold f_X2_isDigit
  repeat' (first
    | with_reducible exact zf_none
    | (with_reducible refine zf_some ?_); assumption
    | with_reducible assumption
    | exact (zUp_off (by omega)).trans (by assumption)
    | exact (congrFun (zCp_off (by omega)) _).trans (by assumption)
    | with_reducible apply zf_nmM
    | with_reducible apply zf_nmV
    | with_reducible apply zf_nmL
    | with_reducible apply zf_gd
    | with_reducible apply zf_ite
    | with_reducible apply zf_bd
    | with_reducible apply fr_X6_isFromTo a k
    | intro _
    | omega
    )
theorem fr_X2_isSign {v : Int32} (a k : Nat) (hn : ¬ (False)) {p1 : Int32} {s : zMem} (hs : s a k = v) : zFp a k v (f_X2_isSign p1 s) := by
  unfold f_X2_isSign
  repeat' (first
    | with_reducible exact zf_none
    | (with_reducible refine zf_some ?_); assumption
    | with_reducible assumption
    | exact (zUp_off (by omega)).trans (by assumption)
    | exact (congrFun (zCp_off (by omega)) _).trans (by assumption)
    | with_reducible apply zf_nmM
    | with_reducible apply zf_nmV
    | with_reducible apply zf_nmL
    | with_reducible apply zf_gd
    | with_reducible apply zf_ite
    | with_reducible apply zf_bd
    | intro _
    | omega
    )
theorem fr_J0_isLatin1_aae02 {v : Int32} {i : Nat} (a k : Nat) (hn : ¬ (False))  {s : zMem} (hs : s a k = v) : zFp a k v (f_J0_isLatin1_aae02 i s) := by
  unfold f_J0_isLatin1_aae02
  repeat' (first
    | with_reducible exact zf_none
    | (with_reducible refine zf_some ?_); assumption
    | with_reducible assumption
    | exact (zUp_off (by omega)).trans (by assumption)
    | exact (congrFun (zCp_off (by omega)) _).trans (by assumption)
    | with_reducible apply zf_nmM
    | with_reducible apply zf_nmV
    | with_reducible apply zf_nmL
    | with_reducible apply zf_gd
    | with_reducible apply zf_ite
    | with_reducible apply zf_bd
    | intro _
    | omega
    )
theorem fr_J3_checkIndex_8e157 {v : Int32} (a k : Nat) (hn : ¬ (False)) {p1 : Int32} {p2 : Int32} {s : zMem} (hs : s a k = v) : zFp a k v (f_J3_checkIndex_8e157 p1 p2 s) := by
  unfold f_J3_checkIndex_8e157
  repeat' (first
    | with_reducible exact zf_none
    | (with_reducible refine zf_some ?_); assumption
    | with_reducible assumption
    | exact (zUp_off (by omega)).trans (by assumption)
    | exact (congrFun (zCp_off (by omega)) _).trans (by assumption)
    | with_reducible apply zf_nmM
    | with_reducible apply zf_nmV
    | with_reducible apply zf_nmL
    | with_reducible apply zf_gd
    | with_reducible apply zf_ite
    | with_reducible apply zf_bd
    | intro _
    | omega
    )
theorem fr_J0_checkIndex_df160 {v : Int32} (a k : Nat) (hn : ¬ (False)) {p1 : Int32} {p2 : Int32} {s : zMem} (hs : s a k = v) : zFp a k v (f_J0_checkIndex_df160 p1 p2 s) := by
  unfold f_J0_checkIndex_df160
  repeat' (first
    | with_reducible exact zf_none
    | (with_reducible refine zf_some ?_); assumption
    | with_reducible assumption
    | exact (zUp_off (by omega)).trans (by assumption)
    | exact (congrFun (zCp_off (by omega)) _).trans (by assumption)
    | with_reducible apply zf_nmM
    | with_reducible apply zf_nmV
    | with_reducible apply zf_nmL
    | with_reducible apply zf_gd
    | with_reducible apply zf_ite
    | with_reducible apply zf_bd
    | with_reducible apply fr_J3_checkIndex_8e157 a k
    | intro _
    | omega
    )
theorem fr_J1_charAt_3b067 {v : Int32} {i : Nat} (a k : Nat) (hn : ¬ (False)) {p2 : Int32} {s : zMem} (hs : s a k = v) : zFp a k v (f_J1_charAt_3b067 i p2 s) := by
  unfold f_J1_charAt_3b067
  repeat' (first
    | with_reducible exact zf_none
    | (with_reducible refine zf_some ?_); assumption
    | with_reducible assumption
    | exact (zUp_off (by omega)).trans (by assumption)
    | exact (congrFun (zCp_off (by omega)) _).trans (by assumption)
    | with_reducible apply zf_nmM
    | with_reducible apply zf_nmV
    | with_reducible apply zf_nmL
    | with_reducible apply zf_gd
    | with_reducible apply zf_ite
    | with_reducible apply zf_bd
    | with_reducible apply fr_J0_checkIndex_df160 a k
    | intro _
    | omega
    )
theorem fr_J0_charAt_5068e {v : Int32} {i : Nat} (a k : Nat) (hn : ¬ (False)) {p1 : Int32} {s : zMem} (hs : s a k = v) : zFp a k v (f_J0_charAt_5068e i p1 s) := by
  unfold f_J0_charAt_5068e
  repeat' (first
    | with_reducible exact zf_none
    | (with_reducible refine zf_some ?_); assumption
    | with_reducible assumption
    | exact (zUp_off (by omega)).trans (by assumption)
    | exact (congrFun (zCp_off (by omega)) _).trans (by assumption)
    | with_reducible apply zf_nmM
    | with_reducible apply zf_nmV
    | with_reducible apply zf_nmL
    | with_reducible apply zf_gd
    | with_reducible apply zf_ite
    | with_reducible apply zf_bd
    | with_reducible apply fr_J0_isLatin1_aae02 a k
    | with_reducible apply fr_J1_charAt_3b067 a k
    | intro _
    | omega
    )
theorem fr_J0_coder_7d493 {v : Int32} {i : Nat} (a k : Nat) (hn : ¬ (False))  {s : zMem} (hs : s a k = v) : zFp a k v (f_J0_coder_7d493 i s) := by
  unfold f_J0_coder_7d493
  repeat' (first
    | with_reducible exact zf_none
    | (with_reducible refine zf_some ?_); assumption
    | with_reducible assumption
    | exact (zUp_off (by omega)).trans (by assumption)
    | exact (congrFun (zCp_off (by omega)) _).trans (by assumption)
    | with_reducible apply zf_nmM
    | with_reducible apply zf_nmV
    | with_reducible apply zf_nmL
    | with_reducible apply zf_gd
    | with_reducible apply zf_ite
    | with_reducible apply zf_bd
    | intro _
    | omega
    )
theorem fr_J0_length_8abf5 {v : Int32} {i : Nat} (a k : Nat) (hn : ¬ (False))  {s : zMem} (hs : s a k = v) : zFp a k v (f_J0_length_8abf5 i s) := by
  unfold f_J0_length_8abf5
  repeat' (first
    | with_reducible exact zf_none
    | (with_reducible refine zf_some ?_); assumption
    | with_reducible assumption
    | exact (zUp_off (by omega)).trans (by assumption)
    | exact (congrFun (zCp_off (by omega)) _).trans (by assumption)
    | with_reducible apply zf_nmM
    | with_reducible apply zf_nmV
    | with_reducible apply zf_nmL
    | with_reducible apply zf_gd
    | with_reducible apply zf_ite
    | with_reducible apply zf_bd
    | with_reducible apply fr_J0_coder_7d493 a k
    | intro _
    | omega
    )
theorem fr_X2_isRead_20 {v : Int32} {i : Nat} (a k : Nat) (hn : ¬ (False))  : ∀ {n : Nat} {x3 : Int32} {s : zMem}, s a k = v → zFp a k v (f_X2_isRead_20 i n x3 s) := by
  intro n
  induction n with
  | zero => intros; exact zf_none
  | succ n ih =>
    intros
    rw [f_X2_isRead_20]
    repeat' (first
      | with_reducible exact zf_none
      | (with_reducible refine zf_some ?_); assumption
      | with_reducible assumption
      | exact (zUp_off (by omega)).trans (by assumption)
      | exact (congrFun (zCp_off (by omega)) _).trans (by assumption)
      | with_reducible apply zf_nmM
      | with_reducible apply zf_nmV
      | with_reducible apply zf_nmL
      | with_reducible apply zf_gd
      | with_reducible apply zf_ite
      | with_reducible apply zf_bd
      | with_reducible apply ih
      | with_reducible apply fr_J0_charAt_5068e a k
      | with_reducible apply fr_J0_length_8abf5 a k
      | with_reducible apply fr_X2_byteAt a k
      | intro _
      | omega
      )
theorem fr_X2_isRead {v : Int32} {i : Nat} (a k : Nat) (hn : ¬ (False))  {s : zMem} (hs : s a k = v) : zFp a k v (f_X2_isRead i s) := by
  unfold f_X2_isRead
  repeat' (first
    | with_reducible exact zf_none
    | (with_reducible refine zf_some ?_); assumption
    | with_reducible assumption
    | exact (zUp_off (by omega)).trans (by assumption)
    | exact (congrFun (zCp_off (by omega)) _).trans (by assumption)
    | with_reducible apply zf_nmM
    | with_reducible apply zf_nmV
    | with_reducible apply zf_nmL
    | with_reducible apply zf_gd
    | with_reducible apply zf_ite
    | with_reducible apply zf_bd
    | with_reducible apply fr_J0_charAt_5068e a k
    | with_reducible apply fr_J0_length_8abf5 a k
    | with_reducible apply fr_X2_byteAt a k
    | with_reducible apply fr_X2_isRead_20 a k
    | intro _
    | omega
    )
theorem fr_X2_keyRead {v : Int32} (a k : Nat) (hn : ¬ (False))  {s : zMem} (hs : s a k = v) : zFp a k v (f_X2_keyRead s) := by
  unfold f_X2_keyRead
  repeat' (first
    | with_reducible exact zf_none
    | (with_reducible refine zf_some ?_); assumption
    | with_reducible assumption
    | exact (zUp_off (by omega)).trans (by assumption)
    | exact (congrFun (zCp_off (by omega)) _).trans (by assumption)
    | with_reducible apply zf_nmM
    | with_reducible apply zf_nmV
    | with_reducible apply zf_nmL
    | with_reducible apply zf_gd
    | with_reducible apply zf_ite
    | with_reducible apply zf_bd
    | with_reducible apply fr_X2_isRead a k
    | intro _
    | omega
    )
theorem fr_X2_nameRead {v : Int32} (a k : Nat) (hn : ¬ (False))  {s : zMem} (hs : s a k = v) : zFp a k v (f_X2_nameRead s) := by
  unfold f_X2_nameRead
  repeat' (first
    | with_reducible exact zf_none
    | (with_reducible refine zf_some ?_); assumption
    | with_reducible assumption
    | exact (zUp_off (by omega)).trans (by assumption)
    | exact (congrFun (zCp_off (by omega)) _).trans (by assumption)
    | with_reducible apply zf_nmM
    | with_reducible apply zf_nmV
    | with_reducible apply zf_nmL
    | with_reducible apply zf_gd
    | with_reducible apply zf_ite
    | with_reducible apply zf_bd
    | with_reducible apply fr_X2_isRead a k
    | intro _
    | omega
    )
theorem fr_X2_readNumber_10 {v : Int32} {c62 : zMem → Option (Unit × zMem)} (a k : Nat) (hn : ¬ ((a = 5 ∧ (k = 5 ∨ k = 7 ∨ k = 8))))  (hc62 : ∀ (s9 : zMem), s9 a k = v → zFp a k v (c62 s9)) : ∀ {n : Nat} {x3 : Int32} {s : zMem}, s a k = v → zFp a k v (f_X2_readNumber_10 c62 n x3 s) := by
  intro n
  induction n with
  | zero => intros; exact zf_none
  | succ n ih =>
    intros
    rw [f_X2_readNumber_10]
    repeat' (first
      | with_reducible exact zf_none
      | (with_reducible refine zf_some ?_); assumption
      | with_reducible assumption
      | exact (zUp_off (by omega)).trans (by assumption)
      | exact (congrFun (zCp_off (by omega)) _).trans (by assumption)
      | with_reducible apply zf_nmM
      | with_reducible apply zf_nmV
      | with_reducible apply zf_nmL
      | with_reducible apply zf_gd
      | with_reducible apply zf_ite
      | with_reducible apply zf_bd
      | with_reducible apply ih
      | with_reducible apply hc62
      | with_reducible apply fr_X2_byteAt a k
      | with_reducible apply fr_X2_isDigit a k
      | intro _
      | omega
      )
theorem fr_X2_readNumber {v : Int32} (a k : Nat) (hn : ¬ ((a = 5 ∧ (k = 5 ∨ k = 7 ∨ k = 8))))  {s : zMem} (hs : s a k = v) : zFp a k v (f_X2_readNumber s) := by
  unfold f_X2_readNumber
  repeat' (first
    | with_reducible exact zf_none
    | (with_reducible refine zf_some ?_); assumption
    | with_reducible assumption
    | exact (zUp_off (by omega)).trans (by assumption)
    | exact (congrFun (zCp_off (by omega)) _).trans (by assumption)
    | with_reducible apply zf_nmM
    | with_reducible apply zf_nmV
    | with_reducible apply zf_nmL
    | with_reducible apply zf_gd
    | with_reducible apply zf_ite
    | with_reducible apply zf_bd
    | with_reducible apply fr_X2_byteAt a k
    | with_reducible apply fr_X2_isDigit a k
    | with_reducible apply fr_X2_readNumber_10 a k
    | intro _
    | omega
    )
theorem fr_X2_readToken_5 {v : Int32} {c37 : zMem → Option (Unit × zMem)} (a k : Nat) (hn : ¬ ((a = 5 ∧ (k = 5 ∨ k = 6 ∨ k = 7 ∨ k = 8))))  (hc37 : ∀ (s9 : zMem), s9 a k = v → zFp a k v (c37 s9)) : ∀ {n : Nat} {x2 : Int32} {s : zMem}, s a k = v → zFp a k v (f_X2_readToken_5 c37 n x2 s) := by
  intro n
  induction n with
  | zero => intros; exact zf_none
  | succ n ih =>
    intros
    rw [f_X2_readToken_5]
    repeat' (first
      | with_reducible exact zf_none
      | (with_reducible refine zf_some ?_); assumption
      | with_reducible assumption
      | exact (zUp_off (by omega)).trans (by assumption)
      | exact (congrFun (zCp_off (by omega)) _).trans (by assumption)
      | with_reducible apply zf_nmM
      | with_reducible apply zf_nmV
      | with_reducible apply zf_nmL
      | with_reducible apply zf_gd
      | with_reducible apply zf_ite
      | with_reducible apply zf_bd
      | with_reducible apply ih
      | with_reducible apply hc37
      | with_reducible apply fr_X2_byteAt a k
      | with_reducible apply fr_X2_endOfWord a k
      | with_reducible apply fr_X2_isBlank a k
      | with_reducible apply fr_X2_isDigit a k
      | with_reducible apply fr_X2_isLetter a k
      | with_reducible apply fr_X2_isSign a k
      | with_reducible apply fr_X2_keyRead a k
      | with_reducible apply fr_X2_nameRead a k
      | with_reducible apply fr_X2_readNumber a k
      | intro _
      | omega
      )
theorem fr_X2_readToken_37 {v : Int32} (a k : Nat) (hn : ¬ ((a = 5 ∧ (k = 5 ∨ k = 6 ∨ k = 7 ∨ k = 8))))   {s : zMem} (hs : s a k = v) : zFp a k v (f_X2_readToken_37  s) := by
  unfold f_X2_readToken_37
  repeat' (first
    | with_reducible exact zf_none
    | (with_reducible refine zf_some ?_); assumption
    | with_reducible assumption
    | exact (zUp_off (by omega)).trans (by assumption)
    | exact (congrFun (zCp_off (by omega)) _).trans (by assumption)
    | with_reducible apply zf_nmM
    | with_reducible apply zf_nmV
    | with_reducible apply zf_nmL
    | with_reducible apply zf_gd
    | with_reducible apply zf_ite
    | with_reducible apply zf_bd
    | with_reducible apply fr_X2_byteAt a k
    | with_reducible apply fr_X2_endOfWord a k
    | with_reducible apply fr_X2_isBlank a k
    | with_reducible apply fr_X2_isDigit a k
    | with_reducible apply fr_X2_isLetter a k
    | with_reducible apply fr_X2_isSign a k
    | with_reducible apply fr_X2_keyRead a k
    | with_reducible apply fr_X2_nameRead a k
    | with_reducible apply fr_X2_readNumber a k
    | with_reducible apply fr_X2_readToken_5 a k
    | intro _
    | omega
    )
theorem fr_X2_readToken {v : Int32} (a k : Nat) (hn : ¬ ((a = 5 ∧ (k = 5 ∨ k = 6 ∨ k = 7 ∨ k = 8))))  {s : zMem} (hs : s a k = v) : zFp a k v (f_X2_readToken s) := by
  unfold f_X2_readToken
  repeat' (first
    | with_reducible exact zf_none
    | (with_reducible refine zf_some ?_); assumption
    | with_reducible assumption
    | exact (zUp_off (by omega)).trans (by assumption)
    | exact (congrFun (zCp_off (by omega)) _).trans (by assumption)
    | with_reducible apply zf_nmM
    | with_reducible apply zf_nmV
    | with_reducible apply zf_nmL
    | with_reducible apply zf_gd
    | with_reducible apply zf_ite
    | with_reducible apply zf_bd
    | with_reducible apply fr_X2_byteAt a k
    | with_reducible apply fr_X2_endOfWord a k
    | with_reducible apply fr_X2_isBlank a k
    | with_reducible apply fr_X2_isDigit a k
    | with_reducible apply fr_X2_isLetter a k
    | with_reducible apply fr_X2_isSign a k
    | with_reducible apply fr_X2_keyRead a k
    | with_reducible apply fr_X2_nameRead a k
    | with_reducible apply fr_X2_readNumber a k
    | with_reducible apply fr_X2_readToken_5 a k
    | with_reducible apply fr_X2_readToken_37 a k
    | intro _
    | omega
    )
theorem fr_X2_fail {v : Int32} (a k : Nat) (hn : ¬ ((a = 5 ∧ (k = 7 ∨ k = 9))))  {s : zMem} (hs : s a k = v) : zFp a k v (f_X2_fail s) := by
  unfold f_X2_fail
  repeat' (first
    | with_reducible exact zf_none
    | (with_reducible refine zf_some ?_); assumption
    | with_reducible assumption
    | exact (zUp_off (by omega)).trans (by assumption)
    | exact (congrFun (zCp_off (by omega)) _).trans (by assumption)
    | with_reducible apply zf_nmM
    | with_reducible apply zf_nmV
    | with_reducible apply zf_nmL
    | with_reducible apply zf_gd
    | with_reducible apply zf_ite
    | with_reducible apply zf_bd
    | intro _
    | omega
    )
theorem fr_X2_opens {v : Int32} (a k : Nat) (hn : ¬ ((a = 5 ∧ (k = 5 ∨ k = 6 ∨ k = 7 ∨ k = 8 ∨ k = 9)))) {p1 : Int32} {s : zMem} (hs : s a k = v) : zFp a k v (f_X2_opens p1 s) := by
  unfold f_X2_opens
  repeat' (first
    | with_reducible exact zf_none
    | (with_reducible refine zf_some ?_); assumption
    | with_reducible assumption
    | exact (zUp_off (by omega)).trans (by assumption)
    | exact (congrFun (zCp_off (by omega)) _).trans (by assumption)
    | with_reducible apply zf_nmM
    | with_reducible apply zf_nmV
    | with_reducible apply zf_nmL
    | with_reducible apply zf_gd
    | with_reducible apply zf_ite
    | with_reducible apply zf_bd
    | with_reducible apply fr_X2_fail a k
    | with_reducible apply fr_X2_readToken a k
    | intro _
    | omega
    )
theorem fr_X0_ofName {v : Int32} (a k : Nat) (hn : ¬ (False)) {p1 : Int32} {s : zMem} (hs : s a k = v) : zFp a k v (f_X0_ofName p1 s) := by
  unfold f_X0_ofName
  repeat' (first
    | with_reducible exact zf_none
    | (with_reducible refine zf_some ?_); assumption
    | with_reducible assumption
    | exact (zUp_off (by omega)).trans (by assumption)
    | exact (congrFun (zCp_off (by omega)) _).trans (by assumption)
    | with_reducible apply zf_nmM
    | with_reducible apply zf_nmV
    | with_reducible apply zf_nmL
    | with_reducible apply zf_gd
    | with_reducible apply zf_ite
    | with_reducible apply zf_bd
    | intro _
    | omega
    )
theorem fr_X2_expect {v : Int32} (a k : Nat) (hn : ¬ ((a = 5 ∧ (k = 5 ∨ k = 6 ∨ k = 7 ∨ k = 8 ∨ k = 9)))) {p1 : Int32} {s : zMem} (hs : s a k = v) : zFp a k v (f_X2_expect p1 s) := by
  unfold f_X2_expect
  repeat' (first
    | with_reducible exact zf_none
    | (with_reducible refine zf_some ?_); assumption
    | with_reducible assumption
    | exact (zUp_off (by omega)).trans (by assumption)
    | exact (congrFun (zCp_off (by omega)) _).trans (by assumption)
    | with_reducible apply zf_nmM
    | with_reducible apply zf_nmV
    | with_reducible apply zf_nmL
    | with_reducible apply zf_gd
    | with_reducible apply zf_ite
    | with_reducible apply zf_bd
    | with_reducible apply fr_X2_fail a k
    | with_reducible apply fr_X2_readToken a k
    | intro _
    | omega
    )
theorem fr_X5_heatOfAll_4 {v : Int32} {w : Nat} (a k : Nat) (hn : ¬ (False))  : ∀ {n : Nat} {x1 : Int32} {x2 : Int32} {s : zMem}, s a k = v → zFp a k v (f_X5_heatOfAll_4 w n x1 x2 s) := by
  intro n
  induction n with
  | zero => intros; exact zf_none
  | succ n ih =>
    intros
    rw [f_X5_heatOfAll_4]
    repeat' (first
      | with_reducible exact zf_none
      | (with_reducible refine zf_some ?_); assumption
      | with_reducible assumption
      | exact (zUp_off (by omega)).trans (by assumption)
      | exact (congrFun (zCp_off (by omega)) _).trans (by assumption)
      | with_reducible apply zf_nmM
      | with_reducible apply zf_nmV
      | with_reducible apply zf_nmL
      | with_reducible apply zf_gd
      | with_reducible apply zf_ite
      | with_reducible apply zf_bd
      | with_reducible apply ih
      | intro _
      | omega
      )
theorem fr_X5_heatOfAll {v : Int32} {w : Nat} (a k : Nat) (hn : ¬ (False))  {s : zMem} (hs : s a k = v) : zFp a k v (f_X5_heatOfAll w s) := by
  unfold f_X5_heatOfAll
  repeat' (first
    | with_reducible exact zf_none
    | (with_reducible refine zf_some ?_); assumption
    | with_reducible assumption
    | exact (zUp_off (by omega)).trans (by assumption)
    | exact (congrFun (zCp_off (by omega)) _).trans (by assumption)
    | with_reducible apply zf_nmM
    | with_reducible apply zf_nmV
    | with_reducible apply zf_nmL
    | with_reducible apply zf_gd
    | with_reducible apply zf_ite
    | with_reducible apply zf_bd
    | with_reducible apply fr_X5_heatOfAll_4 a k
    | intro _
    | omega
    )
theorem fr_X6_count {v : Int32} (a k : Nat) (hn : ¬ (False)) {p1 : Int32} {s : zMem} (hs : s a k = v) : zFp a k v (f_X6_count p1 s) := by
  unfold f_X6_count
  repeat' (first
    | with_reducible exact zf_none
    | (with_reducible refine zf_some ?_); assumption
    | with_reducible assumption
    | exact (zUp_off (by omega)).trans (by assumption)
    | exact (congrFun (zCp_off (by omega)) _).trans (by assumption)
    | with_reducible apply zf_nmM
    | with_reducible apply zf_nmV
    | with_reducible apply zf_nmL
    | with_reducible apply zf_gd
    | with_reducible apply zf_ite
    | with_reducible apply zf_bd
    | with_reducible apply fr_X5_heatOfAll a k
    | intro _
    | omega
    )
theorem fr_X2_takeByte {v : Int32} (a k : Nat) (hn : ¬ ((a = 5 ∧ (k = 1)) ∨ a = 6)) {p1 : Int32} {s : zMem} (hs : s a k = v) : zFp a k v (f_X2_takeByte p1 s) := by
  unfold f_X2_takeByte
  repeat' (first
    | with_reducible exact zf_none
    | (with_reducible refine zf_some ?_); assumption
    | with_reducible assumption
    | exact (zUp_off (by omega)).trans (by assumption)
    | exact (congrFun (zCp_off (by omega)) _).trans (by assumption)
    | with_reducible apply zf_nmM
    | with_reducible apply zf_nmV
    | with_reducible apply zf_nmL
    | with_reducible apply zf_gd
    | with_reducible apply zf_ite
    | with_reducible apply zf_bd
    | intro _
    | omega
    )
theorem fr_X6_isByte {v : Int32} (a k : Nat) (hn : ¬ (False)) {p1 : Int32} {s : zMem} (hs : s a k = v) : zFp a k v (f_X6_isByte p1 s) := by
  unfold f_X6_isByte
  repeat' (first
    | with_reducible exact zf_none
    | (with_reducible refine zf_some ?_); assumption
    | with_reducible assumption
    | exact (zUp_off (by omega)).trans (by assumption)
    | exact (congrFun (zCp_off (by omega)) _).trans (by assumption)
    | with_reducible apply zf_nmM
    | with_reducible apply zf_nmV
    | with_reducible apply zf_nmL
    | with_reducible apply zf_gd
    | with_reducible apply zf_ite
    | with_reducible apply zf_bd
    | with_reducible apply fr_X6_isFromTo a k
    | intro _
    | omega
    )
theorem fr_X6_feed_103 {v : Int32} (a k : Nat) (hn : ¬ ((a = 5 ∧ (k = 1)) ∨ a = 6))  {x20 : Int32} {x21 : Int32} {x22 : Int32} {s : zMem} (hs : s a k = v) : zFp a k v (f_X6_feed_103 x20 x21 x22 s) := by
  unfold f_X6_feed_103
  repeat' (first
    | with_reducible exact zf_none
    | (with_reducible refine zf_some ?_); assumption
    | with_reducible assumption
    | exact (zUp_off (by omega)).trans (by assumption)
    | exact (congrFun (zCp_off (by omega)) _).trans (by assumption)
    | with_reducible apply zf_nmM
    | with_reducible apply zf_nmV
    | with_reducible apply zf_nmL
    | with_reducible apply zf_gd
    | with_reducible apply zf_ite
    | with_reducible apply zf_bd
    | with_reducible apply fr_X2_takeByte a k
    | with_reducible apply fr_X6_isByte a k
    | with_reducible apply fr_X6_isFromTo a k
    | intro _
    | omega
    )
theorem fr_X6_feed_89 {v : Int32} (a k : Nat) (hn : ¬ ((a = 5 ∧ (k = 1)) ∨ a = 6))  {x15 : Int32} {x16 : Int32} {x17 : Int32} {x18 : Int32} {s : zMem} (hs : s a k = v) : zFp a k v (f_X6_feed_89 x15 x16 x17 x18 s) := by
  unfold f_X6_feed_89
  repeat' (first
    | with_reducible exact zf_none
    | (with_reducible refine zf_some ?_); assumption
    | with_reducible assumption
    | exact (zUp_off (by omega)).trans (by assumption)
    | exact (congrFun (zCp_off (by omega)) _).trans (by assumption)
    | with_reducible apply zf_nmM
    | with_reducible apply zf_nmV
    | with_reducible apply zf_nmL
    | with_reducible apply zf_gd
    | with_reducible apply zf_ite
    | with_reducible apply zf_bd
    | with_reducible apply fr_X2_takeByte a k
    | with_reducible apply fr_X6_isByte a k
    | with_reducible apply fr_X6_isFromTo a k
    | with_reducible apply fr_X6_feed_103 a k
    | intro _
    | omega
    )
theorem fr_X6_feed {v : Int32} (a k : Nat) (hn : ¬ ((a = 5 ∧ (k = 1)) ∨ a = 6)) {p1 : Int32} {p2 : Int32} {p3 : Int32} {p4 : Int32} {p5 : Int32} {p6 : Int32} {s : zMem} (hs : s a k = v) : zFp a k v (f_X6_feed p1 p2 p3 p4 p5 p6 s) := by
  unfold f_X6_feed
  repeat' (first
    | with_reducible exact zf_none
    | (with_reducible refine zf_some ?_); assumption
    | with_reducible assumption
    | exact (zUp_off (by omega)).trans (by assumption)
    | exact (congrFun (zCp_off (by omega)) _).trans (by assumption)
    | with_reducible apply zf_nmM
    | with_reducible apply zf_nmV
    | with_reducible apply zf_nmL
    | with_reducible apply zf_gd
    | with_reducible apply zf_ite
    | with_reducible apply zf_bd
    | with_reducible apply fr_X2_takeByte a k
    | with_reducible apply fr_X6_isByte a k
    | with_reducible apply fr_X6_isFromTo a k
    | with_reducible apply fr_X6_feed_103 a k
    | with_reducible apply fr_X6_feed_89 a k
    | intro _
    | omega
    )
theorem fr_X2_clear {v : Int32} (a k : Nat) (hn : ¬ ((a = 5 ∧ (k = 1))))  {s : zMem} (hs : s a k = v) : zFp a k v (f_X2_clear s) := by
  unfold f_X2_clear
  repeat' (first
    | with_reducible exact zf_none
    | (with_reducible refine zf_some ?_); assumption
    | with_reducible assumption
    | exact (zUp_off (by omega)).trans (by assumption)
    | exact (congrFun (zCp_off (by omega)) _).trans (by assumption)
    | with_reducible apply zf_nmM
    | with_reducible apply zf_nmV
    | with_reducible apply zf_nmL
    | with_reducible apply zf_gd
    | with_reducible apply zf_ite
    | with_reducible apply zf_bd
    | intro _
    | omega
    )
theorem fr_X2_readOr_7 {v : Int32} {rc : Nat → Int32 → zMem → Option (Unit × zMem)} (a k : Nat) (hn : ¬ ((a = 5 ∧ (k = 3 ∨ k = 5 ∨ k = 6 ∨ k = 7 ∨ k = 8 ∨ k = 9)) ∨ a = 7)) (hrc : ∀ (q : Nat) (o : Int32) (s : zMem), s a k = v → zFp a k v (rc q o s))  : ∀ {n : Nat} {x3 : Int32} {x4 : Int32} {s : zMem}, s a k = v → zFp a k v (f_X2_readOr_7 rc n x3 x4 s) := by
  intro n
  induction n with
  | zero => intros; exact zf_none
  | succ n ih =>
    intros
    rw [f_X2_readOr_7]
    repeat' (first
      | with_reducible exact zf_none
      | (with_reducible refine zf_some ?_); assumption
      | with_reducible assumption
      | exact (zUp_off (by omega)).trans (by assumption)
      | exact (congrFun (zCp_off (by omega)) _).trans (by assumption)
      | with_reducible apply zf_nmM
      | with_reducible apply zf_nmV
      | with_reducible apply zf_nmL
      | with_reducible apply zf_gd
      | with_reducible apply zf_ite
      | with_reducible apply zf_bd
      | with_reducible apply ih
      | with_reducible apply fr_X2_emit a k
      | with_reducible apply hrc
      | with_reducible apply fr_X2_readToken a k
      | intro _
      | omega
      )
theorem frb_X2_readOr {v : Int32} {rc : Nat → Int32 → zMem → Option (Unit × zMem)} (a k : Nat) (hn : ¬ ((a = 5 ∧ (k = 3 ∨ k = 5 ∨ k = 6 ∨ k = 7 ∨ k = 8 ∨ k = 9)) ∨ a = 7)) (hrc : ∀ (q : Nat) (o : Int32) (s : zMem), s a k = v → zFp a k v (rc q o s)) {p1 : Int32} {s : zMem} (hs : s a k = v) : zFp a k v (fb_X2_readOr rc p1 s) := by
  unfold fb_X2_readOr
  repeat' (first
    | with_reducible exact zf_none
    | (with_reducible refine zf_some ?_); assumption
    | with_reducible assumption
    | exact (zUp_off (by omega)).trans (by assumption)
    | exact (congrFun (zCp_off (by omega)) _).trans (by assumption)
    | with_reducible apply zf_nmM
    | with_reducible apply zf_nmV
    | with_reducible apply zf_nmL
    | with_reducible apply zf_gd
    | with_reducible apply zf_ite
    | with_reducible apply zf_bd
    | with_reducible apply fr_X2_emit a k
    | with_reducible apply hrc
    | with_reducible apply fr_X2_readToken a k
    | with_reducible apply fr_X2_readOr_7 a k
    | intro _
    | omega
    )
theorem fr_X2_readAnd_7 {v : Int32} {rc : Nat → Int32 → zMem → Option (Unit × zMem)} (a k : Nat) (hn : ¬ ((a = 5 ∧ (k = 3 ∨ k = 5 ∨ k = 6 ∨ k = 7 ∨ k = 8 ∨ k = 9)) ∨ a = 7)) (hrc : ∀ (q : Nat) (o : Int32) (s : zMem), s a k = v → zFp a k v (rc q o s))  : ∀ {n : Nat} {x3 : Int32} {x4 : Int32} {s : zMem}, s a k = v → zFp a k v (f_X2_readAnd_7 rc n x3 x4 s) := by
  intro n
  induction n with
  | zero => intros; exact zf_none
  | succ n ih =>
    intros
    rw [f_X2_readAnd_7]
    repeat' (first
      | with_reducible exact zf_none
      | (with_reducible refine zf_some ?_); assumption
      | with_reducible assumption
      | exact (zUp_off (by omega)).trans (by assumption)
      | exact (congrFun (zCp_off (by omega)) _).trans (by assumption)
      | with_reducible apply zf_nmM
      | with_reducible apply zf_nmV
      | with_reducible apply zf_nmL
      | with_reducible apply zf_gd
      | with_reducible apply zf_ite
      | with_reducible apply zf_bd
      | with_reducible apply ih
      | with_reducible apply fr_X2_emit a k
      | with_reducible apply hrc
      | with_reducible apply fr_X2_readToken a k
      | intro _
      | omega
      )
theorem frb_X2_readAnd {v : Int32} {rc : Nat → Int32 → zMem → Option (Unit × zMem)} (a k : Nat) (hn : ¬ ((a = 5 ∧ (k = 3 ∨ k = 5 ∨ k = 6 ∨ k = 7 ∨ k = 8 ∨ k = 9)) ∨ a = 7)) (hrc : ∀ (q : Nat) (o : Int32) (s : zMem), s a k = v → zFp a k v (rc q o s)) {p1 : Int32} {s : zMem} (hs : s a k = v) : zFp a k v (fb_X2_readAnd rc p1 s) := by
  unfold fb_X2_readAnd
  repeat' (first
    | with_reducible exact zf_none
    | (with_reducible refine zf_some ?_); assumption
    | with_reducible assumption
    | exact (zUp_off (by omega)).trans (by assumption)
    | exact (congrFun (zCp_off (by omega)) _).trans (by assumption)
    | with_reducible apply zf_nmM
    | with_reducible apply zf_nmV
    | with_reducible apply zf_nmL
    | with_reducible apply zf_gd
    | with_reducible apply zf_ite
    | with_reducible apply zf_bd
    | with_reducible apply fr_X2_emit a k
    | with_reducible apply hrc
    | with_reducible apply fr_X2_readToken a k
    | with_reducible apply fr_X2_readAnd_7 a k
    | intro _
    | omega
    )
theorem fr_X2_readNot_54 {v : Int32} {rc : Nat → Int32 → zMem → Option (Unit × zMem)} (a k : Nat) (hn : ¬ ((a = 5 ∧ (k = 3 ∨ k = 5 ∨ k = 6 ∨ k = 7 ∨ k = 8 ∨ k = 9)) ∨ a = 7)) (hrc : ∀ (q : Nat) (o : Int32) (s : zMem), s a k = v → zFp a k v (rc q o s))  {x3 : Int32} {s : zMem} (hs : s a k = v) : zFp a k v (f_X2_readNot_54 rc x3 s) := by
  unfold f_X2_readNot_54
  repeat' (first
    | with_reducible exact zf_none
    | (with_reducible refine zf_some ?_); assumption
    | with_reducible assumption
    | exact (zUp_off (by omega)).trans (by assumption)
    | exact (congrFun (zCp_off (by omega)) _).trans (by assumption)
    | with_reducible apply zf_nmM
    | with_reducible apply zf_nmV
    | with_reducible apply zf_nmL
    | with_reducible apply zf_gd
    | with_reducible apply zf_ite
    | with_reducible apply zf_bd
    | with_reducible apply fr_X2_emit a k
    | with_reducible apply fr_X2_opens a k
    | with_reducible apply hrc
    | with_reducible apply hrc
    | with_reducible apply fr_X2_readToken a k
    | intro _
    | omega
    )
theorem frb_X2_readNot {v : Int32} {rc : Nat → Int32 → zMem → Option (Unit × zMem)} (a k : Nat) (hn : ¬ ((a = 5 ∧ (k = 3 ∨ k = 5 ∨ k = 6 ∨ k = 7 ∨ k = 8 ∨ k = 9)) ∨ a = 7)) (hrc : ∀ (q : Nat) (o : Int32) (s : zMem), s a k = v → zFp a k v (rc q o s)) {p1 : Int32} {s : zMem} (hs : s a k = v) : zFp a k v (fb_X2_readNot rc p1 s) := by
  unfold fb_X2_readNot
  repeat' (first
    | with_reducible exact zf_none
    | (with_reducible refine zf_some ?_); assumption
    | with_reducible assumption
    | exact (zUp_off (by omega)).trans (by assumption)
    | exact (congrFun (zCp_off (by omega)) _).trans (by assumption)
    | with_reducible apply zf_nmM
    | with_reducible apply zf_nmV
    | with_reducible apply zf_nmL
    | with_reducible apply zf_gd
    | with_reducible apply zf_ite
    | with_reducible apply zf_bd
    | with_reducible apply fr_X2_emit a k
    | with_reducible apply fr_X2_opens a k
    | with_reducible apply hrc
    | with_reducible apply hrc
    | with_reducible apply fr_X2_readToken a k
    | with_reducible apply fr_X2_readNot_54 a k
    | intro _
    | omega
    )
theorem fr_X2_readSum_32 {v : Int32} {rc : Nat → Int32 → zMem → Option (Unit × zMem)} {c7 : Int32 → Int32 → zMem → Option (Unit × zMem)} (a k : Nat) (hn : ¬ ((a = 5 ∧ (k = 3 ∨ k = 5 ∨ k = 6 ∨ k = 7 ∨ k = 8 ∨ k = 9)) ∨ a = 7)) (hrc : ∀ (q : Nat) (o : Int32) (s : zMem), s a k = v → zFp a k v (rc q o s))  (hc7 : ∀ (y1 : Int32) (y2 : Int32) (s9 : zMem), s9 a k = v → zFp a k v (c7 y1 y2 s9)) {x6 : Int32} {x7 : Int32} {s : zMem} (hs : s a k = v) : zFp a k v (f_X2_readSum_32 rc c7 x6 x7 s) := by
  unfold f_X2_readSum_32
  repeat' (first
    | with_reducible exact zf_none
    | (with_reducible refine zf_some ?_); assumption
    | with_reducible assumption
    | exact (zUp_off (by omega)).trans (by assumption)
    | exact (congrFun (zCp_off (by omega)) _).trans (by assumption)
    | with_reducible apply zf_nmM
    | with_reducible apply zf_nmV
    | with_reducible apply zf_nmL
    | with_reducible apply zf_gd
    | with_reducible apply zf_ite
    | with_reducible apply zf_bd
    | with_reducible apply hc7
    | with_reducible apply fr_X2_emit a k
    | with_reducible apply hrc
    | with_reducible apply fr_X2_readToken a k
    | intro _
    | omega
    )
theorem fr_X2_readSum_7 {v : Int32} {rc : Nat → Int32 → zMem → Option (Unit × zMem)} (a k : Nat) (hn : ¬ ((a = 5 ∧ (k = 3 ∨ k = 5 ∨ k = 6 ∨ k = 7 ∨ k = 8 ∨ k = 9)) ∨ a = 7)) (hrc : ∀ (q : Nat) (o : Int32) (s : zMem), s a k = v → zFp a k v (rc q o s))  : ∀ {n : Nat} {x3 : Int32} {x4 : Int32} {s : zMem}, s a k = v → zFp a k v (f_X2_readSum_7 rc n x3 x4 s) := by
  intro n
  induction n with
  | zero => intros; exact zf_none
  | succ n ih =>
    intros
    rw [f_X2_readSum_7]
    repeat' (first
      | with_reducible exact zf_none
      | (with_reducible refine zf_some ?_); assumption
      | with_reducible assumption
      | exact (zUp_off (by omega)).trans (by assumption)
      | exact (congrFun (zCp_off (by omega)) _).trans (by assumption)
      | with_reducible apply zf_nmM
      | with_reducible apply zf_nmV
      | with_reducible apply zf_nmL
      | with_reducible apply zf_gd
      | with_reducible apply zf_ite
      | with_reducible apply zf_bd
      | with_reducible apply ih
      | with_reducible apply fr_X2_emit a k
      | with_reducible apply hrc
      | with_reducible apply fr_X2_readToken a k
      | with_reducible apply fr_X2_readSum_32 a k
      | intro _
      | omega
      )
theorem frb_X2_readSum {v : Int32} {rc : Nat → Int32 → zMem → Option (Unit × zMem)} (a k : Nat) (hn : ¬ ((a = 5 ∧ (k = 3 ∨ k = 5 ∨ k = 6 ∨ k = 7 ∨ k = 8 ∨ k = 9)) ∨ a = 7)) (hrc : ∀ (q : Nat) (o : Int32) (s : zMem), s a k = v → zFp a k v (rc q o s)) {p1 : Int32} {s : zMem} (hs : s a k = v) : zFp a k v (fb_X2_readSum rc p1 s) := by
  unfold fb_X2_readSum
  repeat' (first
    | with_reducible exact zf_none
    | (with_reducible refine zf_some ?_); assumption
    | with_reducible assumption
    | exact (zUp_off (by omega)).trans (by assumption)
    | exact (congrFun (zCp_off (by omega)) _).trans (by assumption)
    | with_reducible apply zf_nmM
    | with_reducible apply zf_nmV
    | with_reducible apply zf_nmL
    | with_reducible apply zf_gd
    | with_reducible apply zf_ite
    | with_reducible apply zf_bd
    | with_reducible apply fr_X2_emit a k
    | with_reducible apply hrc
    | with_reducible apply fr_X2_readToken a k
    | with_reducible apply fr_X2_readSum_32 a k
    | with_reducible apply fr_X2_readSum_7 a k
    | intro _
    | omega
    )
theorem fr_X2_readTerm_7 {v : Int32} {rc : Nat → Int32 → zMem → Option (Unit × zMem)} (a k : Nat) (hn : ¬ ((a = 5 ∧ (k = 3 ∨ k = 5 ∨ k = 6 ∨ k = 7 ∨ k = 8 ∨ k = 9)) ∨ a = 7)) (hrc : ∀ (q : Nat) (o : Int32) (s : zMem), s a k = v → zFp a k v (rc q o s))  : ∀ {n : Nat} {x3 : Int32} {x4 : Int32} {s : zMem}, s a k = v → zFp a k v (f_X2_readTerm_7 rc n x3 x4 s) := by
  intro n
  induction n with
  | zero => intros; exact zf_none
  | succ n ih =>
    intros
    rw [f_X2_readTerm_7]
    repeat' (first
      | with_reducible exact zf_none
      | (with_reducible refine zf_some ?_); assumption
      | with_reducible assumption
      | exact (zUp_off (by omega)).trans (by assumption)
      | exact (congrFun (zCp_off (by omega)) _).trans (by assumption)
      | with_reducible apply zf_nmM
      | with_reducible apply zf_nmV
      | with_reducible apply zf_nmL
      | with_reducible apply zf_gd
      | with_reducible apply zf_ite
      | with_reducible apply zf_bd
      | with_reducible apply ih
      | with_reducible apply fr_X2_emit a k
      | with_reducible apply hrc
      | with_reducible apply fr_X2_readToken a k
      | intro _
      | omega
      )
theorem frb_X2_readTerm {v : Int32} {rc : Nat → Int32 → zMem → Option (Unit × zMem)} (a k : Nat) (hn : ¬ ((a = 5 ∧ (k = 3 ∨ k = 5 ∨ k = 6 ∨ k = 7 ∨ k = 8 ∨ k = 9)) ∨ a = 7)) (hrc : ∀ (q : Nat) (o : Int32) (s : zMem), s a k = v → zFp a k v (rc q o s)) {p1 : Int32} {s : zMem} (hs : s a k = v) : zFp a k v (fb_X2_readTerm rc p1 s) := by
  unfold fb_X2_readTerm
  repeat' (first
    | with_reducible exact zf_none
    | (with_reducible refine zf_some ?_); assumption
    | with_reducible assumption
    | exact (zUp_off (by omega)).trans (by assumption)
    | exact (congrFun (zCp_off (by omega)) _).trans (by assumption)
    | with_reducible apply zf_nmM
    | with_reducible apply zf_nmV
    | with_reducible apply zf_nmL
    | with_reducible apply zf_gd
    | with_reducible apply zf_ite
    | with_reducible apply zf_bd
    | with_reducible apply fr_X2_emit a k
    | with_reducible apply hrc
    | with_reducible apply fr_X2_readToken a k
    | with_reducible apply fr_X2_readTerm_7 a k
    | intro _
    | omega
    )
theorem fr_X2_readOne_16 {v : Int32} {rc : Nat → Int32 → zMem → Option (Unit × zMem)} (a k : Nat) (hn : ¬ ((a = 5 ∧ (k = 3 ∨ k = 5 ∨ k = 6 ∨ k = 7 ∨ k = 8 ∨ k = 9)) ∨ a = 7)) (hrc : ∀ (q : Nat) (o : Int32) (s : zMem), s a k = v → zFp a k v (rc q o s))   {s : zMem} (hs : s a k = v) : zFp a k v (f_X2_readOne_16 rc  s) := by
  unfold f_X2_readOne_16
  repeat' (first
    | with_reducible exact zf_none
    | (with_reducible refine zf_some ?_); assumption
    | with_reducible assumption
    | exact (zUp_off (by omega)).trans (by assumption)
    | exact (congrFun (zCp_off (by omega)) _).trans (by assumption)
    | with_reducible apply zf_nmM
    | with_reducible apply zf_nmV
    | with_reducible apply zf_nmL
    | with_reducible apply zf_gd
    | with_reducible apply zf_ite
    | with_reducible apply zf_bd
    | with_reducible apply fr_X0_ofName a k
    | with_reducible apply fr_X2_emit a k
    | with_reducible apply fr_X2_expect a k
    | with_reducible apply fr_X2_fail a k
    | with_reducible apply fr_X2_opens a k
    | with_reducible apply hrc
    | with_reducible apply hrc
    | with_reducible apply fr_X2_readToken a k
    | intro _
    | omega
    )
theorem frb_X2_readOne {v : Int32} {rc : Nat → Int32 → zMem → Option (Unit × zMem)} (a k : Nat) (hn : ¬ ((a = 5 ∧ (k = 3 ∨ k = 5 ∨ k = 6 ∨ k = 7 ∨ k = 8 ∨ k = 9)) ∨ a = 7)) (hrc : ∀ (q : Nat) (o : Int32) (s : zMem), s a k = v → zFp a k v (rc q o s)) {p1 : Int32} {s : zMem} (hs : s a k = v) : zFp a k v (fb_X2_readOne rc p1 s) := by
  unfold fb_X2_readOne
  repeat' (first
    | with_reducible exact zf_none
    | (with_reducible refine zf_some ?_); assumption
    | with_reducible assumption
    | exact (zUp_off (by omega)).trans (by assumption)
    | exact (congrFun (zCp_off (by omega)) _).trans (by assumption)
    | with_reducible apply zf_nmM
    | with_reducible apply zf_nmV
    | with_reducible apply zf_nmL
    | with_reducible apply zf_gd
    | with_reducible apply zf_ite
    | with_reducible apply zf_bd
    | with_reducible apply fr_X0_ofName a k
    | with_reducible apply fr_X2_emit a k
    | with_reducible apply fr_X2_expect a k
    | with_reducible apply fr_X2_fail a k
    | with_reducible apply fr_X2_opens a k
    | with_reducible apply hrc
    | with_reducible apply hrc
    | with_reducible apply fr_X2_readToken a k
    | with_reducible apply fr_X2_readOne_16 a k
    | intro _
    | omega
    )
theorem fr_rd {v : Int32} (a k : Nat) (hn : ¬ ((a = 5 ∧ (k = 3 ∨ k = 5 ∨ k = 6 ∨ k = 7 ∨ k = 8 ∨ k = 9)) ∨ a = 7)) : ∀ {n : Nat} {q : Nat} {o : Int32} {s : zMem}, s a k = v → zFp a k v (f_rd n q o s) := by
  intro n
  induction n with
  | zero => intros; exact zf_none
  | succ n ih =>
    intro q o s hs
    rw [f_rd]
    have hrc : ∀ (q : Nat) (o : Int32) (s : zMem), s a k = v → zFp a k v (f_rd n q o s) := fun q o s h => ih h
    repeat' (first
      | exact frb_X2_readOr a k hn hrc hs
      | exact frb_X2_readAnd a k hn hrc hs
      | exact frb_X2_readNot a k hn hrc hs
      | exact frb_X2_readSum a k hn hrc hs
      | exact frb_X2_readTerm a k hn hrc hs
      | exact frb_X2_readOne a k hn hrc hs
      | exact zf_none
      | apply zf_ite)
theorem fr_X2_readText_21 {v : Int32} {c60 : zMem → Option (Int32 × zMem)} (a k : Nat) (hn : ¬ ((a = 5 ∧ (k = 3 ∨ k = 5 ∨ k = 6 ∨ k = 7 ∨ k = 8 ∨ k = 9)) ∨ a = 7 ∨ a = 8))  (hc60 : ∀ (s9 : zMem), s9 a k = v → zFp a k v (c60 s9)) : ∀ {n : Nat} {x6 : Int32} {s : zMem}, s a k = v → zFp a k v (f_X2_readText_21 c60 n x6 s) := by
  intro n
  induction n with
  | zero => intros; exact zf_none
  | succ n ih =>
    intros
    rw [f_X2_readText_21]
    repeat' (first
      | with_reducible exact zf_none
      | (with_reducible refine zf_some ?_); assumption
      | with_reducible assumption
      | exact (zUp_off (by omega)).trans (by assumption)
      | exact (congrFun (zCp_off (by omega)) _).trans (by assumption)
      | with_reducible apply zf_nmM
      | with_reducible apply zf_nmV
      | with_reducible apply zf_nmL
      | with_reducible apply zf_gd
      | with_reducible apply zf_ite
      | with_reducible apply zf_bd
      | with_reducible apply ih
      | with_reducible apply hc60
      | with_reducible apply fr_X2_expect a k
      | with_reducible apply fr_rd a k
      | with_reducible apply fr_X2_readToken a k
      | intro _
      | omega
      )
theorem fr_X2_readText {v : Int32} (a k : Nat) (hn : ¬ ((a = 5 ∧ (k = 3 ∨ k = 5 ∨ k = 6 ∨ k = 7 ∨ k = 8 ∨ k = 9)) ∨ a = 7 ∨ a = 8))  {s : zMem} (hs : s a k = v) : zFp a k v (f_X2_readText s) := by
  unfold f_X2_readText
  repeat' (first
    | with_reducible exact zf_none
    | (with_reducible refine zf_some ?_); assumption
    | with_reducible assumption
    | exact (zUp_off (by omega)).trans (by assumption)
    | exact (congrFun (zCp_off (by omega)) _).trans (by assumption)
    | with_reducible apply zf_nmM
    | with_reducible apply zf_nmV
    | with_reducible apply zf_nmL
    | with_reducible apply zf_gd
    | with_reducible apply zf_ite
    | with_reducible apply zf_bd
    | with_reducible apply fr_X2_expect a k
    | with_reducible apply fr_rd a k
    | with_reducible apply fr_X2_readToken a k
    | with_reducible apply fr_X2_readText_21 a k
    | intro _
    | omega
    )
theorem fr_X4_keep {v : Int32} (a k : Nat) (hn : ¬ ((a = 1 ∧ (k = 3)) ∨ a = 2 ∨ a = 3))  {s : zMem} (hs : s a k = v) : zFp a k v (f_X4_keep s) := by
  unfold f_X4_keep
  repeat' (first
    | with_reducible exact zf_none
    | (with_reducible refine zf_some ?_); assumption
    | with_reducible assumption
    | exact (zUp_off (by omega)).trans (by assumption)
    | exact (congrFun (zCp_off (by omega)) _).trans (by assumption)
    | with_reducible apply zf_nmM
    | with_reducible apply zf_nmV
    | with_reducible apply zf_nmL
    | with_reducible apply zf_gd
    | with_reducible apply zf_ite
    | with_reducible apply zf_bd
    | intro _
    | omega
    )
theorem fr_X6_text {v : Int32} (a k : Nat) (hn : ¬ ((a = 1 ∧ (k = 3)) ∨ a = 2 ∨ a = 3 ∨ (a = 5 ∧ (k = 1 ∨ k = 3 ∨ k = 5 ∨ k = 6 ∨ k = 7 ∨ k = 8 ∨ k = 9)) ∨ a = 7 ∨ a = 8))  {s : zMem} (hs : s a k = v) : zFp a k v (f_X6_text s) := by
  unfold f_X6_text
  repeat' (first
    | with_reducible exact zf_none
    | (with_reducible refine zf_some ?_); assumption
    | with_reducible assumption
    | exact (zUp_off (by omega)).trans (by assumption)
    | exact (congrFun (zCp_off (by omega)) _).trans (by assumption)
    | with_reducible apply zf_nmM
    | with_reducible apply zf_nmV
    | with_reducible apply zf_nmL
    | with_reducible apply zf_gd
    | with_reducible apply zf_ite
    | with_reducible apply zf_bd
    | with_reducible apply fr_X2_clear a k
    | with_reducible apply fr_X2_readText a k
    | with_reducible apply fr_X4_keep a k
    | intro _
    | omega
    )
theorem fr_X6_force {v : Int32} (a k : Nat) (hn : ¬ ((a = 9 ∧ (k = 12)))) {p1 : Int32} {s : zMem} (hs : s a k = v) : zFp a k v (f_X6_force p1 s) := by
  unfold f_X6_force
  repeat' (first
    | with_reducible exact zf_none
    | (with_reducible refine zf_some ?_); assumption
    | with_reducible assumption
    | exact (zUp_off (by omega)).trans (by assumption)
    | exact (congrFun (zCp_off (by omega)) _).trans (by assumption)
    | with_reducible apply zf_nmM
    | with_reducible apply zf_nmV
    | with_reducible apply zf_nmL
    | with_reducible apply zf_gd
    | with_reducible apply zf_ite
    | with_reducible apply zf_bd
    | with_reducible apply fr_X6_isFromTo a k
    | intro _
    | omega
    )
theorem fr_X5_isHut {v : Int32} {w : Nat} (a k : Nat) (hn : ¬ (False)) {p1 : Int32} {s : zMem} (hs : s a k = v) : zFp a k v (f_X5_isHut w p1 s) := by
  unfold f_X5_isHut
  repeat' (first
    | with_reducible exact zf_none
    | (with_reducible refine zf_some ?_); assumption
    | with_reducible assumption
    | exact (zUp_off (by omega)).trans (by assumption)
    | exact (congrFun (zCp_off (by omega)) _).trans (by assumption)
    | with_reducible apply zf_nmM
    | with_reducible apply zf_nmV
    | with_reducible apply zf_nmL
    | with_reducible apply zf_gd
    | with_reducible apply zf_ite
    | with_reducible apply zf_bd
    | intro _
    | omega
    )
theorem fr_X0_isName {v : Int32} (a k : Nat) (hn : ¬ (False)) {p1 : Int32} {s : zMem} (hs : s a k = v) : zFp a k v (f_X0_isName p1 s) := by
  unfold f_X0_isName
  repeat' (first
    | with_reducible exact zf_none
    | (with_reducible refine zf_some ?_); assumption
    | with_reducible assumption
    | exact (zUp_off (by omega)).trans (by assumption)
    | exact (congrFun (zCp_off (by omega)) _).trans (by assumption)
    | with_reducible apply zf_nmM
    | with_reducible apply zf_nmV
    | with_reducible apply zf_nmL
    | with_reducible apply zf_gd
    | with_reducible apply zf_ite
    | with_reducible apply zf_bd
    | intro _
    | omega
    )
theorem fr_X0_isOfOne {v : Int32} (a k : Nat) (hn : ¬ (False)) {p1 : Int32} {s : zMem} (hs : s a k = v) : zFp a k v (f_X0_isOfOne p1 s) := by
  unfold f_X0_isOfOne
  repeat' (first
    | with_reducible exact zf_none
    | (with_reducible refine zf_some ?_); assumption
    | with_reducible assumption
    | exact (zUp_off (by omega)).trans (by assumption)
    | exact (congrFun (zCp_off (by omega)) _).trans (by assumption)
    | with_reducible apply zf_nmM
    | with_reducible apply zf_nmV
    | with_reducible apply zf_nmL
    | with_reducible apply zf_gd
    | with_reducible apply zf_ite
    | with_reducible apply zf_bd
    | intro _
    | omega
    )
theorem fr_X0_isOfTwo {v : Int32} (a k : Nat) (hn : ¬ (False)) {p1 : Int32} {s : zMem} (hs : s a k = v) : zFp a k v (f_X0_isOfTwo p1 s) := by
  unfold f_X0_isOfTwo
  repeat' (first
    | with_reducible exact zf_none
    | (with_reducible refine zf_some ?_); assumption
    | with_reducible assumption
    | exact (zUp_off (by omega)).trans (by assumption)
    | exact (congrFun (zCp_off (by omega)) _).trans (by assumption)
    | with_reducible apply zf_nmM
    | with_reducible apply zf_nmV
    | with_reducible apply zf_nmL
    | with_reducible apply zf_gd
    | with_reducible apply zf_ite
    | with_reducible apply zf_bd
    | intro _
    | omega
    )
theorem fr_X0_ofOne {v : Int32} (a k : Nat) (hn : ¬ (False)) {p1 : Int32} {p2 : Int32} {s : zMem} (hs : s a k = v) : zFp a k v (f_X0_ofOne p1 p2 s) := by
  unfold f_X0_ofOne
  repeat' (first
    | with_reducible exact zf_none
    | (with_reducible refine zf_some ?_); assumption
    | with_reducible assumption
    | exact (zUp_off (by omega)).trans (by assumption)
    | exact (congrFun (zCp_off (by omega)) _).trans (by assumption)
    | with_reducible apply zf_nmM
    | with_reducible apply zf_nmV
    | with_reducible apply zf_nmL
    | with_reducible apply zf_gd
    | with_reducible apply zf_ite
    | with_reducible apply zf_bd
    | intro _
    | omega
    )
theorem fr_X0_ofTwo {v : Int32} (a k : Nat) (hn : ¬ (False)) {p1 : Int32} {p2 : Int32} {p3 : Int32} {s : zMem} (hs : s a k = v) : zFp a k v (f_X0_ofTwo p1 p2 p3 s) := by
  unfold f_X0_ofTwo
  repeat' (first
    | with_reducible exact zf_none
    | (with_reducible refine zf_some ?_); assumption
    | with_reducible assumption
    | exact (zUp_off (by omega)).trans (by assumption)
    | exact (congrFun (zCp_off (by omega)) _).trans (by assumption)
    | with_reducible apply zf_nmM
    | with_reducible apply zf_nmV
    | with_reducible apply zf_nmL
    | with_reducible apply zf_gd
    | with_reducible apply zf_ite
    | with_reducible apply zf_bd
    | intro _
    | omega
    )
theorem fr_X4_valueOf_150 {v : Int32} {a3 : Nat} {c53 : Int32 → Int32 → Int32 → zMem → Option (Int32 × zMem)} (a k : Nat) (hn : ¬ (a = 4))  (hc53 : ∀ (y1 : Int32) (y2 : Int32) (y3 : Int32) (s9 : zMem), s9 a k = v → zFp a k v (c53 y1 y2 y3 s9)) {x23 : Int32} {x24 : Int32} {x25 : Int32} {x26 : Int32} {x27 : Int32} {s : zMem} (hs : s a k = v) : zFp a k v (f_X4_valueOf_150 a3 c53 x23 x24 x25 x26 x27 s) := by
  unfold f_X4_valueOf_150
  repeat' (first
    | with_reducible exact zf_none
    | (with_reducible refine zf_some ?_); assumption
    | with_reducible assumption
    | exact (zUp_off (by omega)).trans (by assumption)
    | exact (congrFun (zCp_off (by omega)) _).trans (by assumption)
    | with_reducible apply zf_nmM
    | with_reducible apply zf_nmV
    | with_reducible apply zf_nmL
    | with_reducible apply zf_gd
    | with_reducible apply zf_ite
    | with_reducible apply zf_bd
    | with_reducible apply hc53
    | with_reducible apply fr_X0_isName a k
    | with_reducible apply fr_X0_isOfOne a k
    | with_reducible apply fr_X0_isOfTwo a k
    | with_reducible apply fr_X0_ofName a k
    | with_reducible apply fr_X0_ofOne a k
    | with_reducible apply fr_X0_ofTwo a k
    | intro _
    | omega
    )
theorem fr_X4_valueOf_116 {v : Int32} {a3 : Nat} {c53 : Int32 → Int32 → Int32 → zMem → Option (Int32 × zMem)} (a k : Nat) (hn : ¬ (a = 4))  (hc53 : ∀ (y1 : Int32) (y2 : Int32) (y3 : Int32) (s9 : zMem), s9 a k = v → zFp a k v (c53 y1 y2 y3 s9)) {x15 : Int32} {x16 : Int32} {x17 : Int32} {x18 : Int32} {x19 : Int32} {s : zMem} (hs : s a k = v) : zFp a k v (f_X4_valueOf_116 a3 c53 x15 x16 x17 x18 x19 s) := by
  unfold f_X4_valueOf_116
  repeat' (first
    | with_reducible exact zf_none
    | (with_reducible refine zf_some ?_); assumption
    | with_reducible assumption
    | exact (zUp_off (by omega)).trans (by assumption)
    | exact (congrFun (zCp_off (by omega)) _).trans (by assumption)
    | with_reducible apply zf_nmM
    | with_reducible apply zf_nmV
    | with_reducible apply zf_nmL
    | with_reducible apply zf_gd
    | with_reducible apply zf_ite
    | with_reducible apply zf_bd
    | with_reducible apply hc53
    | with_reducible apply fr_X0_isName a k
    | with_reducible apply fr_X0_isOfOne a k
    | with_reducible apply fr_X0_isOfTwo a k
    | with_reducible apply fr_X0_ofName a k
    | with_reducible apply fr_X0_ofOne a k
    | with_reducible apply fr_X0_ofTwo a k
    | with_reducible apply fr_X4_valueOf_150 a k
    | intro _
    | omega
    )
theorem fr_X4_valueOf_53 {v : Int32} {a3 : Nat} {c195 : Int32 → zMem → Option (Int32 × zMem)} (a k : Nat) (hn : ¬ (a = 4))  (hc195 : ∀ (y1 : Int32) (s9 : zMem), s9 a k = v → zFp a k v (c195 y1 s9)) : ∀ {n : Nat} {x8 : Int32} {x9 : Int32} {x10 : Int32} {s : zMem}, s a k = v → zFp a k v (f_X4_valueOf_53 a3 c195 n x8 x9 x10 s) := by
  intro n
  induction n with
  | zero => intros; exact zf_none
  | succ n ih =>
    intros
    rw [f_X4_valueOf_53]
    repeat' (first
      | with_reducible exact zf_none
      | (with_reducible refine zf_some ?_); assumption
      | with_reducible assumption
      | exact (zUp_off (by omega)).trans (by assumption)
      | exact (congrFun (zCp_off (by omega)) _).trans (by assumption)
      | with_reducible apply zf_nmM
      | with_reducible apply zf_nmV
      | with_reducible apply zf_nmL
      | with_reducible apply zf_gd
      | with_reducible apply zf_ite
      | with_reducible apply zf_bd
      | with_reducible apply ih
      | with_reducible apply hc195
      | with_reducible apply fr_X0_isName a k
      | with_reducible apply fr_X0_isOfOne a k
      | with_reducible apply fr_X0_isOfTwo a k
      | with_reducible apply fr_X0_ofName a k
      | with_reducible apply fr_X0_ofOne a k
      | with_reducible apply fr_X0_ofTwo a k
      | with_reducible apply fr_X4_valueOf_150 a k
      | with_reducible apply fr_X4_valueOf_116 a k
      | intro _
      | omega
      )
theorem fr_X4_valueOf_25 {v : Int32} {a3 : Nat} (a k : Nat) (hn : ¬ (a = 4))  {x1 : Int32} {x2 : Int32} {t3 : Int32} {t4 : Int32} {s : zMem} (hs : s a k = v) : zFp a k v (f_X4_valueOf_25 a3 x1 x2 t3 t4 s) := by
  unfold f_X4_valueOf_25
  repeat' (first
    | with_reducible exact zf_none
    | (with_reducible refine zf_some ?_); assumption
    | with_reducible assumption
    | exact (zUp_off (by omega)).trans (by assumption)
    | exact (congrFun (zCp_off (by omega)) _).trans (by assumption)
    | with_reducible apply zf_nmM
    | with_reducible apply zf_nmV
    | with_reducible apply zf_nmL
    | with_reducible apply zf_gd
    | with_reducible apply zf_ite
    | with_reducible apply zf_bd
    | with_reducible apply fr_X0_isName a k
    | with_reducible apply fr_X0_isOfOne a k
    | with_reducible apply fr_X0_isOfTwo a k
    | with_reducible apply fr_X0_ofName a k
    | with_reducible apply fr_X0_ofOne a k
    | with_reducible apply fr_X0_ofTwo a k
    | with_reducible apply fr_X4_valueOf_150 a k
    | with_reducible apply fr_X4_valueOf_116 a k
    | with_reducible apply fr_X4_valueOf_53 a k
    | intro _
    | omega
    )
theorem fr_X4_valueOf {v : Int32} {a3 : Nat} (a k : Nat) (hn : ¬ (a = 4)) {p1 : Int32} {p2 : Int32} {s : zMem} (hs : s a k = v) : zFp a k v (f_X4_valueOf a3 p1 p2 s) := by
  unfold f_X4_valueOf
  repeat' (first
    | with_reducible exact zf_none
    | (with_reducible refine zf_some ?_); assumption
    | with_reducible assumption
    | exact (zUp_off (by omega)).trans (by assumption)
    | exact (congrFun (zCp_off (by omega)) _).trans (by assumption)
    | with_reducible apply zf_nmM
    | with_reducible apply zf_nmV
    | with_reducible apply zf_nmL
    | with_reducible apply zf_gd
    | with_reducible apply zf_ite
    | with_reducible apply zf_bd
    | with_reducible apply fr_X0_isName a k
    | with_reducible apply fr_X0_isOfOne a k
    | with_reducible apply fr_X0_isOfTwo a k
    | with_reducible apply fr_X0_ofName a k
    | with_reducible apply fr_X0_ofOne a k
    | with_reducible apply fr_X0_ofTwo a k
    | with_reducible apply fr_X4_valueOf_150 a k
    | with_reducible apply fr_X4_valueOf_116 a k
    | with_reducible apply fr_X4_valueOf_53 a k
    | with_reducible apply fr_X4_valueOf_25 a k
    | intro _
    | omega
    )
theorem fr_X5_coalsWhere_5 {v : Int32} {w : Nat} {a1 : Nat} (a k : Nat) (hn : ¬ (False))  : ∀ {n : Nat} {x1 : Int32} {x2 : Int32} {x3 : Int32} {s : zMem}, s a k = v → zFp a k v (f_X5_coalsWhere_5 w a1 n x1 x2 x3 s) := by
  intro n
  induction n with
  | zero => intros; exact zf_none
  | succ n ih =>
    intros
    rw [f_X5_coalsWhere_5]
    repeat' (first
      | with_reducible exact zf_none
      | (with_reducible refine zf_some ?_); assumption
      | with_reducible assumption
      | exact (zUp_off (by omega)).trans (by assumption)
      | exact (congrFun (zCp_off (by omega)) _).trans (by assumption)
      | with_reducible apply zf_nmM
      | with_reducible apply zf_nmV
      | with_reducible apply zf_nmL
      | with_reducible apply zf_gd
      | with_reducible apply zf_ite
      | with_reducible apply zf_bd
      | with_reducible apply ih
      | intro _
      | omega
      )
theorem fr_X5_coalsWhere {v : Int32} {w : Nat} {a1 : Nat} (a k : Nat) (hn : ¬ (False)) {p2 : Int32} {s : zMem} (hs : s a k = v) : zFp a k v (f_X5_coalsWhere w a1 p2 s) := by
  unfold f_X5_coalsWhere
  repeat' (first
    | with_reducible exact zf_none
    | (with_reducible refine zf_some ?_); assumption
    | with_reducible assumption
    | exact (zUp_off (by omega)).trans (by assumption)
    | exact (congrFun (zCp_off (by omega)) _).trans (by assumption)
    | with_reducible apply zf_nmM
    | with_reducible apply zf_nmV
    | with_reducible apply zf_nmL
    | with_reducible apply zf_gd
    | with_reducible apply zf_ite
    | with_reducible apply zf_bd
    | with_reducible apply fr_X5_coalsWhere_5 a k
    | intro _
    | omega
    )
theorem fr_X5_owes {v : Int32} {w : Nat} (a k : Nat) (hn : ¬ (False)) {p1 : Int32} {s : zMem} (hs : s a k = v) : zFp a k v (f_X5_owes w p1 s) := by
  unfold f_X5_owes
  repeat' (first
    | with_reducible exact zf_none
    | (with_reducible refine zf_some ?_); assumption
    | with_reducible assumption
    | exact (zUp_off (by omega)).trans (by assumption)
    | exact (congrFun (zCp_off (by omega)) _).trans (by assumption)
    | with_reducible apply zf_nmM
    | with_reducible apply zf_nmV
    | with_reducible apply zf_nmL
    | with_reducible apply zf_gd
    | with_reducible apply zf_ite
    | with_reducible apply zf_bd
    | with_reducible apply fr_X5_coalsWhere a k
    | intro _
    | omega
    )
theorem fr_X5_says {v : Int32} {w : Nat} (a k : Nat) (hn : ¬ (a = 4 ∨ a = (w + 10))) {p1 : Int32} {p2 : Int32} {p3 : Int32} {s : zMem} (hs : s a k = v) : zFp a k v (f_X5_says w p1 p2 p3 s) := by
  unfold f_X5_says
  repeat' (first
    | with_reducible exact zf_none
    | (with_reducible refine zf_some ?_); assumption
    | with_reducible assumption
    | exact (zUp_off (by omega)).trans (by assumption)
    | exact (congrFun (zCp_off (by omega)) _).trans (by assumption)
    | with_reducible apply zf_nmM
    | with_reducible apply zf_nmV
    | with_reducible apply zf_nmL
    | with_reducible apply zf_gd
    | with_reducible apply zf_ite
    | with_reducible apply zf_bd
    | with_reducible apply fr_X4_valueOf a k
    | with_reducible apply fr_X5_owes a k
    | intro _
    | omega
    )
theorem fr_X6_asks {v : Int32} (a k : Nat) (hn : ¬ (a = 4 ∨ a = 19)) {p1 : Int32} {p2 : Int32} {p3 : Int32} {s : zMem} (hs : s a k = v) : zFp a k v (f_X6_asks p1 p2 p3 s) := by
  unfold f_X6_asks
  repeat' (first
    | with_reducible exact zf_none
    | (with_reducible refine zf_some ?_); assumption
    | with_reducible assumption
    | exact (zUp_off (by omega)).trans (by assumption)
    | exact (congrFun (zCp_off (by omega)) _).trans (by assumption)
    | with_reducible apply zf_nmM
    | with_reducible apply zf_nmV
    | with_reducible apply zf_nmL
    | with_reducible apply zf_gd
    | with_reducible apply zf_ite
    | with_reducible apply zf_bd
    | with_reducible apply fr_X5_isHut a k
    | with_reducible apply fr_X5_says a k
    | with_reducible apply fr_X6_isFromTo a k
    | intro _
    | omega
    )
theorem fr_X5_comes {v : Int32} {w : Nat} (a k : Nat) (hn : ¬ ((a = w ∧ (k = 9)) ∨ a = (w + 1) ∨ a = (w + 2) ∨ a = (w + 3) ∨ a = (w + 4) ∨ a = (w + 5))) {p1 : Int32} {p2 : Int32} {s : zMem} (hs : s a k = v) : zFp a k v (f_X5_comes w p1 p2 s) := by
  unfold f_X5_comes
  repeat' (first
    | with_reducible exact zf_none
    | (with_reducible refine zf_some ?_); assumption
    | with_reducible assumption
    | exact (zUp_off (by omega)).trans (by assumption)
    | exact (congrFun (zCp_off (by omega)) _).trans (by assumption)
    | with_reducible apply zf_nmM
    | with_reducible apply zf_nmV
    | with_reducible apply zf_nmL
    | with_reducible apply zf_gd
    | with_reducible apply zf_ite
    | with_reducible apply zf_bd
    | with_reducible apply fr_X6_isFromTo a k
    | intro _
    | omega
    )
theorem fr_X6_hut {v : Int32} (a k : Nat) (hn : ¬ ((a = 9 ∧ (k = 9)) ∨ a = 10 ∨ a = 11 ∨ a = 12 ∨ a = 13 ∨ a = 14)) {p1 : Int32} {p2 : Int32} {s : zMem} (hs : s a k = v) : zFp a k v (f_X6_hut p1 p2 s) := by
  unfold f_X6_hut
  repeat' (first
    | with_reducible exact zf_none
    | (with_reducible refine zf_some ?_); assumption
    | with_reducible assumption
    | exact (zUp_off (by omega)).trans (by assumption)
    | exact (congrFun (zCp_off (by omega)) _).trans (by assumption)
    | with_reducible apply zf_nmM
    | with_reducible apply zf_nmV
    | with_reducible apply zf_nmL
    | with_reducible apply zf_gd
    | with_reducible apply zf_ite
    | with_reducible apply zf_bd
    | with_reducible apply fr_X5_comes a k
    | intro _
    | omega
    )
theorem fr_X5_become {v : Int32} {w : Nat} (a k : Nat) (hn : ¬ (a = (w + 1) ∨ a = (w + 2) ∨ a = (w + 3))) {p1 : Int32} {p2 : Int32} {p3 : Int32} {s : zMem} (hs : s a k = v) : zFp a k v (f_X5_become w p1 p2 p3 s) := by
  unfold f_X5_become
  repeat' (first
    | with_reducible exact zf_none
    | (with_reducible refine zf_some ?_); assumption
    | with_reducible assumption
    | exact (zUp_off (by omega)).trans (by assumption)
    | exact (congrFun (zCp_off (by omega)) _).trans (by assumption)
    | with_reducible apply zf_nmM
    | with_reducible apply zf_nmV
    | with_reducible apply zf_nmL
    | with_reducible apply zf_gd
    | with_reducible apply zf_ite
    | with_reducible apply zf_bd
    | intro _
    | omega
    )
theorem fr_X5_stateOf {v : Int32} {w : Nat} (a k : Nat) (hn : ¬ (False)) {p1 : Int32} {p2 : Int32} {s : zMem} (hs : s a k = v) : zFp a k v (f_X5_stateOf w p1 p2 s) := by
  unfold f_X5_stateOf
  repeat' (first
    | with_reducible exact zf_none
    | (with_reducible refine zf_some ?_); assumption
    | with_reducible assumption
    | exact (zUp_off (by omega)).trans (by assumption)
    | exact (congrFun (zCp_off (by omega)) _).trans (by assumption)
    | with_reducible apply zf_nmM
    | with_reducible apply zf_nmV
    | with_reducible apply zf_nmL
    | with_reducible apply zf_gd
    | with_reducible apply zf_ite
    | with_reducible apply zf_bd
    | intro _
    | omega
    )
theorem fr_X6_mostOf {v : Int32} (a k : Nat) (hn : ¬ (False)) {p1 : Int32} {s : zMem} (hs : s a k = v) : zFp a k v (f_X6_mostOf p1 s) := by
  unfold f_X6_mostOf
  repeat' (first
    | with_reducible exact zf_none
    | (with_reducible refine zf_some ?_); assumption
    | with_reducible assumption
    | exact (zUp_off (by omega)).trans (by assumption)
    | exact (congrFun (zCp_off (by omega)) _).trans (by assumption)
    | with_reducible apply zf_nmM
    | with_reducible apply zf_nmV
    | with_reducible apply zf_nmL
    | with_reducible apply zf_gd
    | with_reducible apply zf_ite
    | with_reducible apply zf_bd
    | intro _
    | omega
    )
theorem fr_X6_put {v : Int32} (a k : Nat) (hn : ¬ (a = 10 ∨ a = 11 ∨ a = 12)) {p1 : Int32} {p2 : Int32} {p3 : Int32} {s : zMem} (hs : s a k = v) : zFp a k v (f_X6_put p1 p2 p3 s) := by
  unfold f_X6_put
  repeat' (first
    | with_reducible exact zf_none
    | (with_reducible refine zf_some ?_); assumption
    | with_reducible assumption
    | exact (zUp_off (by omega)).trans (by assumption)
    | exact (congrFun (zCp_off (by omega)) _).trans (by assumption)
    | with_reducible apply zf_nmM
    | with_reducible apply zf_nmV
    | with_reducible apply zf_nmL
    | with_reducible apply zf_gd
    | with_reducible apply zf_ite
    | with_reducible apply zf_bd
    | with_reducible apply fr_X5_become a k
    | with_reducible apply fr_X5_isHut a k
    | with_reducible apply fr_X5_stateOf a k
    | with_reducible apply fr_X6_isFromTo a k
    | with_reducible apply fr_X6_mostOf a k
    | intro _
    | omega
    )
theorem fr_X5_isOwed {v : Int32} {w : Nat} (a k : Nat) (hn : ¬ (False)) {p1 : Int32} {s : zMem} (hs : s a k = v) : zFp a k v (f_X5_isOwed w p1 s) := by
  unfold f_X5_isOwed
  repeat' (first
    | with_reducible exact zf_none
    | (with_reducible refine zf_some ?_); assumption
    | with_reducible assumption
    | exact (zUp_off (by omega)).trans (by assumption)
    | exact (congrFun (zCp_off (by omega)) _).trans (by assumption)
    | with_reducible apply zf_nmM
    | with_reducible apply zf_nmV
    | with_reducible apply zf_nmL
    | with_reducible apply zf_gd
    | with_reducible apply zf_ite
    | with_reducible apply zf_bd
    | with_reducible apply fr_X5_coalsWhere a k
    | intro _
    | omega
    )
theorem fr_X5_loansFrom_4 {v : Int32} {w : Nat} (a k : Nat) (hn : ¬ (False))  : ∀ {n : Nat} {x1 : Int32} {x2 : Int32} {x3 : Int32} {s : zMem}, s a k = v → zFp a k v (f_X5_loansFrom_4 w n x1 x2 x3 s) := by
  intro n
  induction n with
  | zero => intros; exact zf_none
  | succ n ih =>
    intros
    rw [f_X5_loansFrom_4]
    repeat' (first
      | with_reducible exact zf_none
      | (with_reducible refine zf_some ?_); assumption
      | with_reducible assumption
      | exact (zUp_off (by omega)).trans (by assumption)
      | exact (congrFun (zCp_off (by omega)) _).trans (by assumption)
      | with_reducible apply zf_nmM
      | with_reducible apply zf_nmV
      | with_reducible apply zf_nmL
      | with_reducible apply zf_gd
      | with_reducible apply zf_ite
      | with_reducible apply zf_bd
      | with_reducible apply ih
      | intro _
      | omega
      )
theorem fr_X5_loansFrom {v : Int32} {w : Nat} (a k : Nat) (hn : ¬ (False)) {p1 : Int32} {s : zMem} (hs : s a k = v) : zFp a k v (f_X5_loansFrom w p1 s) := by
  unfold f_X5_loansFrom
  repeat' (first
    | with_reducible exact zf_none
    | (with_reducible refine zf_some ?_); assumption
    | with_reducible assumption
    | exact (zUp_off (by omega)).trans (by assumption)
    | exact (congrFun (zCp_off (by omega)) _).trans (by assumption)
    | with_reducible apply zf_nmM
    | with_reducible apply zf_nmV
    | with_reducible apply zf_nmL
    | with_reducible apply zf_gd
    | with_reducible apply zf_ite
    | with_reducible apply zf_bd
    | with_reducible apply fr_X5_loansFrom_4 a k
    | intro _
    | omega
    )
theorem fr_X6_told {v : Int32} (a k : Nat) (hn : ¬ (False)) {p1 : Int32} {p2 : Int32} {s : zMem} (hs : s a k = v) : zFp a k v (f_X6_told p1 p2 s) := by
  unfold f_X6_told
  repeat' (first
    | with_reducible exact zf_none
    | (with_reducible refine zf_some ?_); assumption
    | with_reducible assumption
    | exact (zUp_off (by omega)).trans (by assumption)
    | exact (congrFun (zCp_off (by omega)) _).trans (by assumption)
    | with_reducible apply zf_nmM
    | with_reducible apply zf_nmV
    | with_reducible apply zf_nmL
    | with_reducible apply zf_gd
    | with_reducible apply zf_ite
    | with_reducible apply zf_bd
    | with_reducible apply fr_X5_isHut a k
    | with_reducible apply fr_X5_isOwed a k
    | with_reducible apply fr_X5_loansFrom a k
    | with_reducible apply fr_X5_owes a k
    | with_reducible apply fr_X5_stateOf a k
    | intro _
    | omega
    )
theorem fr_X5_pass {v : Int32} {w : Nat} (a k : Nat) (hn : ¬ (a = (w + 1))) {p1 : Int32} {p2 : Int32} {p3 : Int32} {s : zMem} (hs : s a k = v) : zFp a k v (f_X5_pass w p1 p2 p3 s) := by
  unfold f_X5_pass
  repeat' (first
    | with_reducible exact zf_none
    | (with_reducible refine zf_some ?_); assumption
    | with_reducible assumption
    | exact (zUp_off (by omega)).trans (by assumption)
    | exact (congrFun (zCp_off (by omega)) _).trans (by assumption)
    | with_reducible apply zf_nmM
    | with_reducible apply zf_nmV
    | with_reducible apply zf_nmL
    | with_reducible apply zf_gd
    | with_reducible apply zf_ite
    | with_reducible apply zf_bd
    | intro _
    | omega
    )
theorem fr_X5_lends {v : Int32} {w : Nat} (a k : Nat) (hn : ¬ ((a = w ∧ (k = 10)) ∨ a = (w + 1) ∨ a = (w + 6) ∨ a = (w + 7) ∨ a = (w + 8) ∨ a = (w + 9))) {p1 : Int32} {p2 : Int32} {p3 : Int32} {p4 : Int32} {s : zMem} (hs : s a k = v) : zFp a k v (f_X5_lends w p1 p2 p3 p4 s) := by
  unfold f_X5_lends
  repeat' (first
    | with_reducible exact zf_none
    | (with_reducible refine zf_some ?_); assumption
    | with_reducible assumption
    | exact (zUp_off (by omega)).trans (by assumption)
    | exact (congrFun (zCp_off (by omega)) _).trans (by assumption)
    | with_reducible apply zf_nmM
    | with_reducible apply zf_nmV
    | with_reducible apply zf_nmL
    | with_reducible apply zf_gd
    | with_reducible apply zf_ite
    | with_reducible apply zf_bd
    | with_reducible apply fr_X5_pass a k
    | intro _
    | omega
    )
theorem fr_X6_isCoalNights {v : Int32} (a k : Nat) (hn : ¬ (False)) {p1 : Int32} {p2 : Int32} {s : zMem} (hs : s a k = v) : zFp a k v (f_X6_isCoalNights p1 p2 s) := by
  unfold f_X6_isCoalNights
  repeat' (first
    | with_reducible exact zf_none
    | (with_reducible refine zf_some ?_); assumption
    | with_reducible assumption
    | exact (zUp_off (by omega)).trans (by assumption)
    | exact (congrFun (zCp_off (by omega)) _).trans (by assumption)
    | with_reducible apply zf_nmM
    | with_reducible apply zf_nmV
    | with_reducible apply zf_nmL
    | with_reducible apply zf_gd
    | with_reducible apply zf_ite
    | with_reducible apply zf_bd
    | with_reducible apply fr_X6_isFromTo a k
    | intro _
    | omega
    )
theorem fr_X6_lend {v : Int32} (a k : Nat) (hn : ¬ ((a = 9 ∧ (k = 10)) ∨ a = 10 ∨ a = 15 ∨ a = 16 ∨ a = 17 ∨ a = 18)) {p1 : Int32} {p2 : Int32} {s : zMem} (hs : s a k = v) : zFp a k v (f_X6_lend p1 p2 s) := by
  unfold f_X6_lend
  repeat' (first
    | with_reducible exact zf_none
    | (with_reducible refine zf_some ?_); assumption
    | with_reducible assumption
    | exact (zUp_off (by omega)).trans (by assumption)
    | exact (congrFun (zCp_off (by omega)) _).trans (by assumption)
    | with_reducible apply zf_nmM
    | with_reducible apply zf_nmV
    | with_reducible apply zf_nmL
    | with_reducible apply zf_gd
    | with_reducible apply zf_ite
    | with_reducible apply zf_bd
    | with_reducible apply fr_X5_isHut a k
    | with_reducible apply fr_X5_lends a k
    | with_reducible apply fr_X6_isCoalNights a k
    | intro _
    | omega
    )
theorem fr_X5_isLoan {v : Int32} {w : Nat} (a k : Nat) (hn : ¬ (False)) {p1 : Int32} {s : zMem} (hs : s a k = v) : zFp a k v (f_X5_isLoan w p1 s) := by
  unfold f_X5_isLoan
  repeat' (first
    | with_reducible exact zf_none
    | (with_reducible refine zf_some ?_); assumption
    | with_reducible assumption
    | exact (zUp_off (by omega)).trans (by assumption)
    | exact (congrFun (zCp_off (by omega)) _).trans (by assumption)
    | with_reducible apply zf_nmM
    | with_reducible apply zf_nmV
    | with_reducible apply zf_nmL
    | with_reducible apply zf_gd
    | with_reducible apply zf_ite
    | with_reducible apply zf_bd
    | intro _
    | omega
    )
theorem fr_X6_loan {v : Int32} (a k : Nat) (hn : ¬ (False)) {p1 : Int32} {p2 : Int32} {s : zMem} (hs : s a k = v) : zFp a k v (f_X6_loan p1 p2 s) := by
  unfold f_X6_loan
  repeat' (first
    | with_reducible exact zf_none
    | (with_reducible refine zf_some ?_); assumption
    | with_reducible assumption
    | exact (zUp_off (by omega)).trans (by assumption)
    | exact (congrFun (zCp_off (by omega)) _).trans (by assumption)
    | with_reducible apply zf_nmM
    | with_reducible apply zf_nmV
    | with_reducible apply zf_nmL
    | with_reducible apply zf_gd
    | with_reducible apply zf_ite
    | with_reducible apply zf_bd
    | with_reducible apply fr_X5_isLoan a k
    | intro _
    | omega
    )
theorem fr_X5_canRepay {v : Int32} {w : Nat} (a k : Nat) (hn : ¬ (False)) {p1 : Int32} {s : zMem} (hs : s a k = v) : zFp a k v (f_X5_canRepay w p1 s) := by
  unfold f_X5_canRepay
  repeat' (first
    | with_reducible exact zf_none
    | (with_reducible refine zf_some ?_); assumption
    | with_reducible assumption
    | exact (zUp_off (by omega)).trans (by assumption)
    | exact (congrFun (zCp_off (by omega)) _).trans (by assumption)
    | with_reducible apply zf_nmM
    | with_reducible apply zf_nmV
    | with_reducible apply zf_nmL
    | with_reducible apply zf_gd
    | with_reducible apply zf_ite
    | with_reducible apply zf_bd
    | intro _
    | omega
    )
theorem fr_X5_drop_12 {v : Int32} {w : Nat} (a k : Nat) (hn : ¬ ((a = w ∧ (k = 10)) ∨ a = (w + 6) ∨ a = (w + 7) ∨ a = (w + 8) ∨ a = (w + 9)))  : ∀ {n : Nat} {x2 : Int32} {s : zMem}, s a k = v → zFp a k v (f_X5_drop_12 w n x2 s) := by
  intro n
  induction n with
  | zero => intros; exact zf_none
  | succ n ih =>
    intros
    rw [f_X5_drop_12]
    repeat' (first
      | with_reducible exact zf_none
      | (with_reducible refine zf_some ?_); assumption
      | with_reducible assumption
      | exact (zUp_off (by omega)).trans (by assumption)
      | exact (congrFun (zCp_off (by omega)) _).trans (by assumption)
      | with_reducible apply zf_nmM
      | with_reducible apply zf_nmV
      | with_reducible apply zf_nmL
      | with_reducible apply zf_gd
      | with_reducible apply zf_ite
      | with_reducible apply zf_bd
      | with_reducible apply ih
      | intro _
      | omega
      )
theorem fr_X5_drop {v : Int32} {w : Nat} (a k : Nat) (hn : ¬ ((a = w ∧ (k = 10)) ∨ a = (w + 6) ∨ a = (w + 7) ∨ a = (w + 8) ∨ a = (w + 9))) {p1 : Int32} {s : zMem} (hs : s a k = v) : zFp a k v (f_X5_drop w p1 s) := by
  unfold f_X5_drop
  repeat' (first
    | with_reducible exact zf_none
    | (with_reducible refine zf_some ?_); assumption
    | with_reducible assumption
    | exact (zUp_off (by omega)).trans (by assumption)
    | exact (congrFun (zCp_off (by omega)) _).trans (by assumption)
    | with_reducible apply zf_nmM
    | with_reducible apply zf_nmV
    | with_reducible apply zf_nmL
    | with_reducible apply zf_gd
    | with_reducible apply zf_ite
    | with_reducible apply zf_bd
    | with_reducible apply fr_X5_drop_12 a k
    | intro _
    | omega
    )
theorem fr_X5_payBack {v : Int32} {w : Nat} (a k : Nat) (hn : ¬ (a = (w + 1))) {p1 : Int32} {s : zMem} (hs : s a k = v) : zFp a k v (f_X5_payBack w p1 s) := by
  unfold f_X5_payBack
  repeat' (first
    | with_reducible exact zf_none
    | (with_reducible refine zf_some ?_); assumption
    | with_reducible assumption
    | exact (zUp_off (by omega)).trans (by assumption)
    | exact (congrFun (zCp_off (by omega)) _).trans (by assumption)
    | with_reducible apply zf_nmM
    | with_reducible apply zf_nmV
    | with_reducible apply zf_nmL
    | with_reducible apply zf_gd
    | with_reducible apply zf_ite
    | with_reducible apply zf_bd
    | with_reducible apply fr_X5_pass a k
    | intro _
    | omega
    )
theorem fr_X6_repay {v : Int32} (a k : Nat) (hn : ¬ ((a = 9 ∧ (k = 10)) ∨ a = 10 ∨ a = 15 ∨ a = 16 ∨ a = 17 ∨ a = 18)) {p1 : Int32} {s : zMem} (hs : s a k = v) : zFp a k v (f_X6_repay p1 s) := by
  unfold f_X6_repay
  repeat' (first
    | with_reducible exact zf_none
    | (with_reducible refine zf_some ?_); assumption
    | with_reducible assumption
    | exact (zUp_off (by omega)).trans (by assumption)
    | exact (congrFun (zCp_off (by omega)) _).trans (by assumption)
    | with_reducible apply zf_nmM
    | with_reducible apply zf_nmV
    | with_reducible apply zf_nmL
    | with_reducible apply zf_gd
    | with_reducible apply zf_ite
    | with_reducible apply zf_bd
    | with_reducible apply fr_X5_canRepay a k
    | with_reducible apply fr_X5_drop a k
    | with_reducible apply fr_X5_isLoan a k
    | with_reducible apply fr_X5_payBack a k
    | intro _
    | omega
    )
theorem fr_X6_forgive {v : Int32} (a k : Nat) (hn : ¬ ((a = 9 ∧ (k = 10)) ∨ a = 15 ∨ a = 16 ∨ a = 17 ∨ a = 18)) {p1 : Int32} {s : zMem} (hs : s a k = v) : zFp a k v (f_X6_forgive p1 s) := by
  unfold f_X6_forgive
  repeat' (first
    | with_reducible exact zf_none
    | (with_reducible refine zf_some ?_); assumption
    | with_reducible assumption
    | exact (zUp_off (by omega)).trans (by assumption)
    | exact (congrFun (zCp_off (by omega)) _).trans (by assumption)
    | with_reducible apply zf_nmM
    | with_reducible apply zf_nmV
    | with_reducible apply zf_nmL
    | with_reducible apply zf_gd
    | with_reducible apply zf_ite
    | with_reducible apply zf_bd
    | with_reducible apply fr_X5_drop a k
    | with_reducible apply fr_X5_isLoan a k
    | intro _
    | omega
    )
theorem fr_X5_endDueLoans_9 {v : Int32} {w : Nat} (a k : Nat) (hn : ¬ ((a = w ∧ (k = 10)) ∨ a = (w + 1) ∨ a = (w + 3) ∨ a = (w + 6) ∨ a = (w + 7) ∨ a = (w + 8) ∨ a = (w + 9)))  : ∀ {n : Nat} {x2 : Int32} {x3 : Int32} {x4 : Int32} {s : zMem}, s a k = v → zFp a k v (f_X5_endDueLoans_9 w n x2 x3 x4 s) := by
  intro n
  induction n with
  | zero => intros; exact zf_none
  | succ n ih =>
    intros
    rw [f_X5_endDueLoans_9]
    repeat' (first
      | with_reducible exact zf_none
      | (with_reducible refine zf_some ?_); assumption
      | with_reducible assumption
      | exact (zUp_off (by omega)).trans (by assumption)
      | exact (congrFun (zCp_off (by omega)) _).trans (by assumption)
      | with_reducible apply zf_nmM
      | with_reducible apply zf_nmV
      | with_reducible apply zf_nmL
      | with_reducible apply zf_gd
      | with_reducible apply zf_ite
      | with_reducible apply zf_bd
      | with_reducible apply ih
      | with_reducible apply fr_X5_canRepay a k
      | with_reducible apply fr_X5_drop a k
      | with_reducible apply fr_X5_payBack a k
      | intro _
      | omega
      )
theorem fr_X5_endDueLoans {v : Int32} {w : Nat} (a k : Nat) (hn : ¬ ((a = w ∧ (k = 10)) ∨ a = (w + 1) ∨ a = (w + 3) ∨ a = (w + 6) ∨ a = (w + 7) ∨ a = (w + 8) ∨ a = (w + 9)))  {s : zMem} (hs : s a k = v) : zFp a k v (f_X5_endDueLoans w s) := by
  unfold f_X5_endDueLoans
  repeat' (first
    | with_reducible exact zf_none
    | (with_reducible refine zf_some ?_); assumption
    | with_reducible assumption
    | exact (zUp_off (by omega)).trans (by assumption)
    | exact (congrFun (zCp_off (by omega)) _).trans (by assumption)
    | with_reducible apply zf_nmM
    | with_reducible apply zf_nmV
    | with_reducible apply zf_nmL
    | with_reducible apply zf_gd
    | with_reducible apply zf_ite
    | with_reducible apply zf_bd
    | with_reducible apply fr_X5_canRepay a k
    | with_reducible apply fr_X5_drop a k
    | with_reducible apply fr_X5_payBack a k
    | with_reducible apply fr_X5_endDueLoans_9 a k
    | intro _
    | omega
    )
theorem fr_X1_growth {v : Int32} (a k : Nat) (hn : ¬ (False)) {p1 : Int32} {p2 : Int32} {p3 : Int32} {p4 : Int32} {s : zMem} (hs : s a k = v) : zFp a k v (f_X1_growth p1 p2 p3 p4 s) := by
  unfold f_X1_growth
  repeat' (first
    | with_reducible exact zf_none
    | (with_reducible refine zf_some ?_); assumption
    | with_reducible assumption
    | exact (zUp_off (by omega)).trans (by assumption)
    | exact (congrFun (zCp_off (by omega)) _).trans (by assumption)
    | with_reducible apply zf_nmM
    | with_reducible apply zf_nmV
    | with_reducible apply zf_nmL
    | with_reducible apply zf_gd
    | with_reducible apply zf_ite
    | with_reducible apply zf_bd
    | intro _
    | omega
    )
theorem fr_X5_grow {v : Int32} {w : Nat} (a k : Nat) (hn : ¬ (a = 4 ∨ a = (w + 8) ∨ a = (w + 10))) {p1 : Int32} {s : zMem} (hs : s a k = v) : zFp a k v (f_X5_grow w p1 s) := by
  unfold f_X5_grow
  repeat' (first
    | with_reducible exact zf_none
    | (with_reducible refine zf_some ?_); assumption
    | with_reducible assumption
    | exact (zUp_off (by omega)).trans (by assumption)
    | exact (congrFun (zCp_off (by omega)) _).trans (by assumption)
    | with_reducible apply zf_nmM
    | with_reducible apply zf_nmV
    | with_reducible apply zf_nmL
    | with_reducible apply zf_gd
    | with_reducible apply zf_ite
    | with_reducible apply zf_bd
    | with_reducible apply fr_X1_growth a k
    | with_reducible apply fr_X5_says a k
    | intro _
    | omega
    )
theorem fr_X1_burning {v : Int32} (a k : Nat) (hn : ¬ (False)) {p1 : Int32} {p2 : Int32} {p3 : Int32} {p4 : Int32} {s : zMem} (hs : s a k = v) : zFp a k v (f_X1_burning p1 p2 p3 p4 s) := by
  unfold f_X1_burning
  repeat' (first
    | with_reducible exact zf_none
    | (with_reducible refine zf_some ?_); assumption
    | with_reducible assumption
    | exact (zUp_off (by omega)).trans (by assumption)
    | exact (congrFun (zCp_off (by omega)) _).trans (by assumption)
    | with_reducible apply zf_nmM
    | with_reducible apply zf_nmV
    | with_reducible apply zf_nmL
    | with_reducible apply zf_gd
    | with_reducible apply zf_ite
    | with_reducible apply zf_bd
    | intro _
    | omega
    )
theorem fr_X1_cooling {v : Int32} (a k : Nat) (hn : ¬ (False)) {p1 : Int32} {p2 : Int32} {p3 : Int32} {s : zMem} (hs : s a k = v) : zFp a k v (f_X1_cooling p1 p2 p3 s) := by
  unfold f_X1_cooling
  repeat' (first
    | with_reducible exact zf_none
    | (with_reducible refine zf_some ?_); assumption
    | with_reducible assumption
    | exact (zUp_off (by omega)).trans (by assumption)
    | exact (congrFun (zCp_off (by omega)) _).trans (by assumption)
    | with_reducible apply zf_nmM
    | with_reducible apply zf_nmV
    | with_reducible apply zf_nmL
    | with_reducible apply zf_gd
    | with_reducible apply zf_ite
    | with_reducible apply zf_bd
    | intro _
    | omega
    )
theorem fr_X5_warm_93 {v : Int32} {w : Nat} (a k : Nat) (hn : ¬ (a = 4 ∨ a = (w + 1) ∨ a = (w + 2) ∨ a = (w + 3) ∨ a = (w + 10)))  {x1 : Int32} {s : zMem} (hs : s a k = v) : zFp a k v (f_X5_warm_93 w x1 s) := by
  unfold f_X5_warm_93
  repeat' (first
    | with_reducible exact zf_none
    | (with_reducible refine zf_some ?_); assumption
    | with_reducible assumption
    | exact (zUp_off (by omega)).trans (by assumption)
    | exact (congrFun (zCp_off (by omega)) _).trans (by assumption)
    | with_reducible apply zf_nmM
    | with_reducible apply zf_nmV
    | with_reducible apply zf_nmL
    | with_reducible apply zf_gd
    | with_reducible apply zf_ite
    | with_reducible apply zf_bd
    | with_reducible apply fr_X1_burning a k
    | with_reducible apply fr_X1_cooling a k
    | with_reducible apply fr_X5_says a k
    | intro _
    | omega
    )
theorem fr_X5_warm {v : Int32} {w : Nat} (a k : Nat) (hn : ¬ (a = 4 ∨ a = (w + 1) ∨ a = (w + 2) ∨ a = (w + 3) ∨ a = (w + 10))) {p1 : Int32} {s : zMem} (hs : s a k = v) : zFp a k v (f_X5_warm w p1 s) := by
  unfold f_X5_warm
  repeat' (first
    | with_reducible exact zf_none
    | (with_reducible refine zf_some ?_); assumption
    | with_reducible assumption
    | exact (zUp_off (by omega)).trans (by assumption)
    | exact (congrFun (zCp_off (by omega)) _).trans (by assumption)
    | with_reducible apply zf_nmM
    | with_reducible apply zf_nmV
    | with_reducible apply zf_nmL
    | with_reducible apply zf_gd
    | with_reducible apply zf_ite
    | with_reducible apply zf_bd
    | with_reducible apply fr_X1_burning a k
    | with_reducible apply fr_X1_cooling a k
    | with_reducible apply fr_X5_says a k
    | with_reducible apply fr_X5_warm_93 a k
    | intro _
    | omega
    )
theorem fr_X5_passNight_2 {v : Int32} {w : Nat} {c21 : zMem → Option (Int32 × zMem)} (a k : Nat) (hn : ¬ (a = 4 ∨ (a = w ∧ (k = 10 ∨ k = 11)) ∨ a = (w + 1) ∨ a = (w + 2) ∨ a = (w + 3) ∨ a = (w + 6) ∨ a = (w + 7) ∨ a = (w + 8) ∨ a = (w + 9) ∨ a = (w + 10)))  (hc21 : ∀ (s9 : zMem), s9 a k = v → zFp a k v (c21 s9)) : ∀ {n : Nat} {x1 : Int32} {s : zMem}, s a k = v → zFp a k v (f_X5_passNight_2 w c21 n x1 s) := by
  intro n
  induction n with
  | zero => intros; exact zf_none
  | succ n ih =>
    intros
    rw [f_X5_passNight_2]
    repeat' (first
      | with_reducible exact zf_none
      | (with_reducible refine zf_some ?_); assumption
      | with_reducible assumption
      | exact (zUp_off (by omega)).trans (by assumption)
      | exact (congrFun (zCp_off (by omega)) _).trans (by assumption)
      | with_reducible apply zf_nmM
      | with_reducible apply zf_nmV
      | with_reducible apply zf_nmL
      | with_reducible apply zf_gd
      | with_reducible apply zf_ite
      | with_reducible apply zf_bd
      | with_reducible apply ih
      | with_reducible apply hc21
      | with_reducible apply fr_X5_endDueLoans a k
      | with_reducible apply fr_X5_grow a k
      | with_reducible apply fr_X5_warm a k
      | intro _
      | omega
      )
theorem fr_X5_passNight_28 {v : Int32} {w : Nat} {c47 : Int32 → zMem → Option (Int32 × zMem)} (a k : Nat) (hn : ¬ (a = 4 ∨ (a = w ∧ (k = 10 ∨ k = 11)) ∨ a = (w + 1) ∨ a = (w + 2) ∨ a = (w + 3) ∨ a = (w + 6) ∨ a = (w + 7) ∨ a = (w + 8) ∨ a = (w + 9) ∨ a = (w + 10)))  (hc47 : ∀ (y1 : Int32) (s9 : zMem), s9 a k = v → zFp a k v (c47 y1 s9)) : ∀ {n : Nat} {x9 : Int32} {x10 : Int32} {s : zMem}, s a k = v → zFp a k v (f_X5_passNight_28 w c47 n x9 x10 s) := by
  intro n
  induction n with
  | zero => intros; exact zf_none
  | succ n ih =>
    intros
    rw [f_X5_passNight_28]
    repeat' (first
      | with_reducible exact zf_none
      | (with_reducible refine zf_some ?_); assumption
      | with_reducible assumption
      | exact (zUp_off (by omega)).trans (by assumption)
      | exact (congrFun (zCp_off (by omega)) _).trans (by assumption)
      | with_reducible apply zf_nmM
      | with_reducible apply zf_nmV
      | with_reducible apply zf_nmL
      | with_reducible apply zf_gd
      | with_reducible apply zf_ite
      | with_reducible apply zf_bd
      | with_reducible apply ih
      | with_reducible apply hc47
      | with_reducible apply fr_X5_endDueLoans a k
      | with_reducible apply fr_X5_grow a k
      | with_reducible apply fr_X5_warm a k
      | with_reducible apply fr_X5_passNight_2 a k
      | intro _
      | omega
      )
theorem fr_X5_passNight {v : Int32} {w : Nat} (a k : Nat) (hn : ¬ (a = 4 ∨ (a = w ∧ (k = 10 ∨ k = 11)) ∨ a = (w + 1) ∨ a = (w + 2) ∨ a = (w + 3) ∨ a = (w + 6) ∨ a = (w + 7) ∨ a = (w + 8) ∨ a = (w + 9) ∨ a = (w + 10)))  {s : zMem} (hs : s a k = v) : zFp a k v (f_X5_passNight w s) := by
  unfold f_X5_passNight
  repeat' (first
    | with_reducible exact zf_none
    | (with_reducible refine zf_some ?_); assumption
    | with_reducible assumption
    | exact (zUp_off (by omega)).trans (by assumption)
    | exact (congrFun (zCp_off (by omega)) _).trans (by assumption)
    | with_reducible apply zf_nmM
    | with_reducible apply zf_nmV
    | with_reducible apply zf_nmL
    | with_reducible apply zf_gd
    | with_reducible apply zf_ite
    | with_reducible apply zf_bd
    | with_reducible apply fr_X5_endDueLoans a k
    | with_reducible apply fr_X5_grow a k
    | with_reducible apply fr_X5_warm a k
    | with_reducible apply fr_X5_passNight_2 a k
    | with_reducible apply fr_X5_passNight_28 a k
    | intro _
    | omega
    )
theorem fr_X6_night {v : Int32} (a k : Nat) (hn : ¬ (a = 4 ∨ (a = 9 ∧ (k = 10 ∨ k = 11)) ∨ a = 10 ∨ a = 11 ∨ a = 12 ∨ a = 15 ∨ a = 16 ∨ a = 17 ∨ a = 18 ∨ a = 19))  {s : zMem} (hs : s a k = v) : zFp a k v (f_X6_night s) := by
  unfold f_X6_night
  repeat' (first
    | with_reducible exact zf_none
    | (with_reducible refine zf_some ?_); assumption
    | with_reducible assumption
    | exact (zUp_off (by omega)).trans (by assumption)
    | exact (congrFun (zCp_off (by omega)) _).trans (by assumption)
    | with_reducible apply zf_nmM
    | with_reducible apply zf_nmV
    | with_reducible apply zf_nmL
    | with_reducible apply zf_gd
    | with_reducible apply zf_ite
    | with_reducible apply zf_bd
    | with_reducible apply fr_X5_passNight a k
    | intro _
    | omega
    )
theorem fr_X5_passNights_4 {v : Int32} {w : Nat} (a k : Nat) (hn : ¬ (a = 4 ∨ (a = w ∧ (k = 10 ∨ k = 11)) ∨ a = (w + 1) ∨ a = (w + 2) ∨ a = (w + 3) ∨ a = (w + 6) ∨ a = (w + 7) ∨ a = (w + 8) ∨ a = (w + 9) ∨ a = (w + 10)))  : ∀ {n : Nat} {x1 : Int32} {x2 : Int32} {x3 : Int32} {s : zMem}, s a k = v → zFp a k v (f_X5_passNights_4 w n x1 x2 x3 s) := by
  intro n
  induction n with
  | zero => intros; exact zf_none
  | succ n ih =>
    intros
    rw [f_X5_passNights_4]
    repeat' (first
      | with_reducible exact zf_none
      | (with_reducible refine zf_some ?_); assumption
      | with_reducible assumption
      | exact (zUp_off (by omega)).trans (by assumption)
      | exact (congrFun (zCp_off (by omega)) _).trans (by assumption)
      | with_reducible apply zf_nmM
      | with_reducible apply zf_nmV
      | with_reducible apply zf_nmL
      | with_reducible apply zf_gd
      | with_reducible apply zf_ite
      | with_reducible apply zf_bd
      | with_reducible apply ih
      | with_reducible apply fr_X5_passNight a k
      | intro _
      | omega
      )
theorem fr_X5_passNights {v : Int32} {w : Nat} (a k : Nat) (hn : ¬ (a = 4 ∨ (a = w ∧ (k = 10 ∨ k = 11)) ∨ a = (w + 1) ∨ a = (w + 2) ∨ a = (w + 3) ∨ a = (w + 6) ∨ a = (w + 7) ∨ a = (w + 8) ∨ a = (w + 9) ∨ a = (w + 10))) {p1 : Int32} {s : zMem} (hs : s a k = v) : zFp a k v (f_X5_passNights w p1 s) := by
  unfold f_X5_passNights
  repeat' (first
    | with_reducible exact zf_none
    | (with_reducible refine zf_some ?_); assumption
    | with_reducible assumption
    | exact (zUp_off (by omega)).trans (by assumption)
    | exact (congrFun (zCp_off (by omega)) _).trans (by assumption)
    | with_reducible apply zf_nmM
    | with_reducible apply zf_nmV
    | with_reducible apply zf_nmL
    | with_reducible apply zf_gd
    | with_reducible apply zf_ite
    | with_reducible apply zf_bd
    | with_reducible apply fr_X5_passNight a k
    | with_reducible apply fr_X5_passNights_4 a k
    | intro _
    | omega
    )
theorem fr_X5_becomeAs {v : Int32} {w : Nat} {a1 : Nat} (a k : Nat) (hn : ¬ ((a = w ∧ (k = 9 ∨ k = 10 ∨ k = 11 ∨ k = 12)) ∨ a = (w + 1) ∨ a = (w + 2) ∨ a = (w + 3) ∨ a = (w + 4) ∨ a = (w + 5) ∨ a = (w + 6) ∨ a = (w + 7) ∨ a = (w + 8) ∨ a = (w + 9)))  {s : zMem} (hs : s a k = v) : zFp a k v (f_X5_becomeAs w a1 s) := by
  unfold f_X5_becomeAs
  repeat' (first
    | with_reducible exact zf_none
    | (with_reducible refine zf_some ?_); assumption
    | with_reducible assumption
    | exact (zUp_off (by omega)).trans (by assumption)
    | exact (congrFun (zCp_off (by omega)) _).trans (by assumption)
    | with_reducible apply zf_nmM
    | with_reducible apply zf_nmV
    | with_reducible apply zf_nmL
    | with_reducible apply zf_gd
    | with_reducible apply zf_ite
    | with_reducible apply zf_bd
    | intro _
    | omega
    )
theorem fr_X6_think {v : Int32} (a k : Nat) (hn : ¬ ((a = 20 ∧ (k = 9 ∨ k = 10 ∨ k = 11 ∨ k = 12)) ∨ a = 21 ∨ a = 22 ∨ a = 23 ∨ a = 24 ∨ a = 25 ∨ a = 26 ∨ a = 27 ∨ a = 28 ∨ a = 29))  {s : zMem} (hs : s a k = v) : zFp a k v (f_X6_think s) := by
  unfold f_X6_think
  repeat' (first
    | with_reducible exact zf_none
    | (with_reducible refine zf_some ?_); assumption
    | with_reducible assumption
    | exact (zUp_off (by omega)).trans (by assumption)
    | exact (congrFun (zCp_off (by omega)) _).trans (by assumption)
    | with_reducible apply zf_nmM
    | with_reducible apply zf_nmV
    | with_reducible apply zf_nmL
    | with_reducible apply zf_gd
    | with_reducible apply zf_ite
    | with_reducible apply zf_bd
    | with_reducible apply fr_X5_becomeAs a k
    | intro _
    | omega
    )
theorem fr_X6_run_52 {v : Int32} (a k : Nat) (hn : ¬ (a = 4 ∨ (a = 20 ∧ (k = 9 ∨ k = 10 ∨ k = 11 ∨ k = 12)) ∨ a = 21 ∨ a = 22 ∨ a = 23 ∨ a = 24 ∨ a = 25 ∨ a = 26 ∨ a = 27 ∨ a = 28 ∨ a = 29 ∨ a = 30))  {x12 : Int32} {x13 : Int32} {s : zMem} (hs : s a k = v) : zFp a k v (f_X6_run_52 x12 x13 s) := by
  unfold f_X6_run_52
  repeat' (first
    | with_reducible exact zf_none
    | (with_reducible refine zf_some ?_); assumption
    | with_reducible assumption
    | exact (zUp_off (by omega)).trans (by assumption)
    | exact (congrFun (zCp_off (by omega)) _).trans (by assumption)
    | with_reducible apply zf_nmM
    | with_reducible apply zf_nmV
    | with_reducible apply zf_nmL
    | with_reducible apply zf_gd
    | with_reducible apply zf_ite
    | with_reducible apply zf_bd
    | with_reducible apply fr_X5_heatOfAll a k
    | with_reducible apply fr_X5_isHut a k
    | with_reducible apply fr_X5_passNights a k
    | with_reducible apply fr_X6_isFromTo a k
    | with_reducible apply fr_X6_think a k
    | intro _
    | omega
    )
theorem fr_X6_run_25 {v : Int32} (a k : Nat) (hn : ¬ (a = 4 ∨ (a = 20 ∧ (k = 9 ∨ k = 10 ∨ k = 11 ∨ k = 12)) ∨ a = 21 ∨ a = 22 ∨ a = 23 ∨ a = 24 ∨ a = 25 ∨ a = 26 ∨ a = 27 ∨ a = 28 ∨ a = 29 ∨ a = 30))  {x4 : Int32} {x5 : Int32} {t6 : Int32} {s : zMem} (hs : s a k = v) : zFp a k v (f_X6_run_25 x4 x5 t6 s) := by
  unfold f_X6_run_25
  repeat' (first
    | with_reducible exact zf_none
    | (with_reducible refine zf_some ?_); assumption
    | with_reducible assumption
    | exact (zUp_off (by omega)).trans (by assumption)
    | exact (congrFun (zCp_off (by omega)) _).trans (by assumption)
    | with_reducible apply zf_nmM
    | with_reducible apply zf_nmV
    | with_reducible apply zf_nmL
    | with_reducible apply zf_gd
    | with_reducible apply zf_ite
    | with_reducible apply zf_bd
    | with_reducible apply fr_X5_heatOfAll a k
    | with_reducible apply fr_X5_isHut a k
    | with_reducible apply fr_X5_passNights a k
    | with_reducible apply fr_X6_isFromTo a k
    | with_reducible apply fr_X6_think a k
    | with_reducible apply fr_X6_run_52 a k
    | intro _
    | omega
    )
theorem fr_X6_run_24 {v : Int32} (a k : Nat) (hn : ¬ (a = 4 ∨ (a = 20 ∧ (k = 9 ∨ k = 10 ∨ k = 11 ∨ k = 12)) ∨ a = 21 ∨ a = 22 ∨ a = 23 ∨ a = 24 ∨ a = 25 ∨ a = 26 ∨ a = 27 ∨ a = 28 ∨ a = 29 ∨ a = 30))  {x1 : Int32} {x2 : Int32} {s : zMem} (hs : s a k = v) : zFp a k v (f_X6_run_24 x1 x2 s) := by
  unfold f_X6_run_24
  repeat' (first
    | with_reducible exact zf_none
    | (with_reducible refine zf_some ?_); assumption
    | with_reducible assumption
    | exact (zUp_off (by omega)).trans (by assumption)
    | exact (congrFun (zCp_off (by omega)) _).trans (by assumption)
    | with_reducible apply zf_nmM
    | with_reducible apply zf_nmV
    | with_reducible apply zf_nmL
    | with_reducible apply zf_gd
    | with_reducible apply zf_ite
    | with_reducible apply zf_bd
    | with_reducible apply fr_X5_heatOfAll a k
    | with_reducible apply fr_X5_isHut a k
    | with_reducible apply fr_X5_passNights a k
    | with_reducible apply fr_X6_isFromTo a k
    | with_reducible apply fr_X6_think a k
    | with_reducible apply fr_X6_run_52 a k
    | with_reducible apply fr_X6_run_25 a k
    | intro _
    | omega
    )
theorem fr_X6_run {v : Int32} (a k : Nat) (hn : ¬ (a = 4 ∨ (a = 20 ∧ (k = 9 ∨ k = 10 ∨ k = 11 ∨ k = 12)) ∨ a = 21 ∨ a = 22 ∨ a = 23 ∨ a = 24 ∨ a = 25 ∨ a = 26 ∨ a = 27 ∨ a = 28 ∨ a = 29 ∨ a = 30)) {p1 : Int32} {p2 : Int32} {s : zMem} (hs : s a k = v) : zFp a k v (f_X6_run p1 p2 s) := by
  unfold f_X6_run
  repeat' (first
    | with_reducible exact zf_none
    | (with_reducible refine zf_some ?_); assumption
    | with_reducible assumption
    | exact (zUp_off (by omega)).trans (by assumption)
    | exact (congrFun (zCp_off (by omega)) _).trans (by assumption)
    | with_reducible apply zf_nmM
    | with_reducible apply zf_nmV
    | with_reducible apply zf_nmL
    | with_reducible apply zf_gd
    | with_reducible apply zf_ite
    | with_reducible apply zf_bd
    | with_reducible apply fr_X5_heatOfAll a k
    | with_reducible apply fr_X5_isHut a k
    | with_reducible apply fr_X5_passNights a k
    | with_reducible apply fr_X6_isFromTo a k
    | with_reducible apply fr_X6_think a k
    | with_reducible apply fr_X6_run_52 a k
    | with_reducible apply fr_X6_run_25 a k
    | with_reducible apply fr_X6_run_24 a k
    | intro _
    | omega
    )
theorem fr_X6_has {v : Int32} (a k : Nat) (hn : ¬ (False)) {p1 : Int32} {p2 : Int32} {s : zMem} (hs : s a k = v) : zFp a k v (f_X6_has p1 p2 s) := by
  unfold f_X6_has
  repeat' (first
    | with_reducible exact zf_none
    | (with_reducible refine zf_some ?_); assumption
    | with_reducible assumption
    | exact (zUp_off (by omega)).trans (by assumption)
    | exact (congrFun (zCp_off (by omega)) _).trans (by assumption)
    | with_reducible apply zf_nmM
    | with_reducible apply zf_nmV
    | with_reducible apply zf_nmL
    | with_reducible apply zf_gd
    | with_reducible apply zf_ite
    | with_reducible apply zf_bd
    | intro _
    | omega
    )
theorem fr_X6_nightsToFailing_7 {v : Int32} (a k : Nat) (hn : ¬ (a = 4 ∨ (a = 20 ∧ (k = 9 ∨ k = 10 ∨ k = 11 ∨ k = 12)) ∨ a = 21 ∨ a = 22 ∨ a = 23 ∨ a = 24 ∨ a = 25 ∨ a = 26 ∨ a = 27 ∨ a = 28 ∨ a = 29 ∨ a = 30))  : ∀ {n : Nat} {x3 : Int32} {x4 : Int32} {s : zMem}, s a k = v → zFp a k v (f_X6_nightsToFailing_7 n x3 x4 s) := by
  intro n
  induction n with
  | zero => intros; exact zf_none
  | succ n ih =>
    intros
    rw [f_X6_nightsToFailing_7]
    repeat' (first
      | with_reducible exact zf_none
      | (with_reducible refine zf_some ?_); assumption
      | with_reducible assumption
      | exact (zUp_off (by omega)).trans (by assumption)
      | exact (congrFun (zCp_off (by omega)) _).trans (by assumption)
      | with_reducible apply zf_nmM
      | with_reducible apply zf_nmV
      | with_reducible apply zf_nmL
      | with_reducible apply zf_gd
      | with_reducible apply zf_ite
      | with_reducible apply zf_bd
      | with_reducible apply ih
      | with_reducible apply fr_X5_passNight a k
      | with_reducible apply fr_X6_has a k
      | with_reducible apply fr_X6_think a k
      | intro _
      | omega
      )
theorem fr_X6_nightsToFailing {v : Int32} (a k : Nat) (hn : ¬ (a = 4 ∨ (a = 20 ∧ (k = 9 ∨ k = 10 ∨ k = 11 ∨ k = 12)) ∨ a = 21 ∨ a = 22 ∨ a = 23 ∨ a = 24 ∨ a = 25 ∨ a = 26 ∨ a = 27 ∨ a = 28 ∨ a = 29 ∨ a = 30)) {p1 : Int32} {s : zMem} (hs : s a k = v) : zFp a k v (f_X6_nightsToFailing p1 s) := by
  unfold f_X6_nightsToFailing
  repeat' (first
    | with_reducible exact zf_none
    | (with_reducible refine zf_some ?_); assumption
    | with_reducible assumption
    | exact (zUp_off (by omega)).trans (by assumption)
    | exact (congrFun (zCp_off (by omega)) _).trans (by assumption)
    | with_reducible apply zf_nmM
    | with_reducible apply zf_nmV
    | with_reducible apply zf_nmL
    | with_reducible apply zf_gd
    | with_reducible apply zf_ite
    | with_reducible apply zf_bd
    | with_reducible apply fr_X5_passNight a k
    | with_reducible apply fr_X6_has a k
    | with_reducible apply fr_X6_think a k
    | with_reducible apply fr_X6_nightsToFailing_7 a k
    | intro _
    | omega
    )
theorem fr_X6_nightsToNoHeat_7 {v : Int32} (a k : Nat) (hn : ¬ (a = 4 ∨ (a = 20 ∧ (k = 9 ∨ k = 10 ∨ k = 11 ∨ k = 12)) ∨ a = 21 ∨ a = 22 ∨ a = 23 ∨ a = 24 ∨ a = 25 ∨ a = 26 ∨ a = 27 ∨ a = 28 ∨ a = 29 ∨ a = 30))  : ∀ {n : Nat} {x3 : Int32} {x4 : Int32} {s : zMem}, s a k = v → zFp a k v (f_X6_nightsToNoHeat_7 n x3 x4 s) := by
  intro n
  induction n with
  | zero => intros; exact zf_none
  | succ n ih =>
    intros
    rw [f_X6_nightsToNoHeat_7]
    repeat' (first
      | with_reducible exact zf_none
      | (with_reducible refine zf_some ?_); assumption
      | with_reducible assumption
      | exact (zUp_off (by omega)).trans (by assumption)
      | exact (congrFun (zCp_off (by omega)) _).trans (by assumption)
      | with_reducible apply zf_nmM
      | with_reducible apply zf_nmV
      | with_reducible apply zf_nmL
      | with_reducible apply zf_gd
      | with_reducible apply zf_ite
      | with_reducible apply zf_bd
      | with_reducible apply ih
      | with_reducible apply fr_X5_passNight a k
      | with_reducible apply fr_X6_think a k
      | intro _
      | omega
      )
theorem fr_X6_nightsToNoHeat {v : Int32} (a k : Nat) (hn : ¬ (a = 4 ∨ (a = 20 ∧ (k = 9 ∨ k = 10 ∨ k = 11 ∨ k = 12)) ∨ a = 21 ∨ a = 22 ∨ a = 23 ∨ a = 24 ∨ a = 25 ∨ a = 26 ∨ a = 27 ∨ a = 28 ∨ a = 29 ∨ a = 30)) {p1 : Int32} {s : zMem} (hs : s a k = v) : zFp a k v (f_X6_nightsToNoHeat p1 s) := by
  unfold f_X6_nightsToNoHeat
  repeat' (first
    | with_reducible exact zf_none
    | (with_reducible refine zf_some ?_); assumption
    | with_reducible assumption
    | exact (zUp_off (by omega)).trans (by assumption)
    | exact (congrFun (zCp_off (by omega)) _).trans (by assumption)
    | with_reducible apply zf_nmM
    | with_reducible apply zf_nmV
    | with_reducible apply zf_nmL
    | with_reducible apply zf_gd
    | with_reducible apply zf_ite
    | with_reducible apply zf_bd
    | with_reducible apply fr_X5_passNight a k
    | with_reducible apply fr_X6_think a k
    | with_reducible apply fr_X6_nightsToNoHeat_7 a k
    | intro _
    | omega
    )
theorem fr_X6_lasts {v : Int32} (a k : Nat) (hn : ¬ (a = 4 ∨ (a = 20 ∧ (k = 9 ∨ k = 10 ∨ k = 11 ∨ k = 12)) ∨ a = 21 ∨ a = 22 ∨ a = 23 ∨ a = 24 ∨ a = 25 ∨ a = 26 ∨ a = 27 ∨ a = 28 ∨ a = 29 ∨ a = 30)) {p1 : Int32} {p2 : Int32} {s : zMem} (hs : s a k = v) : zFp a k v (f_X6_lasts p1 p2 s) := by
  unfold f_X6_lasts
  repeat' (first
    | with_reducible exact zf_none
    | (with_reducible refine zf_some ?_); assumption
    | with_reducible assumption
    | exact (zUp_off (by omega)).trans (by assumption)
    | exact (congrFun (zCp_off (by omega)) _).trans (by assumption)
    | with_reducible apply zf_nmM
    | with_reducible apply zf_nmV
    | with_reducible apply zf_nmL
    | with_reducible apply zf_gd
    | with_reducible apply zf_ite
    | with_reducible apply zf_bd
    | with_reducible apply fr_X5_isHut a k
    | with_reducible apply fr_X6_isFromTo a k
    | with_reducible apply fr_X6_nightsToFailing a k
    | with_reducible apply fr_X6_nightsToNoHeat a k
    | intro _
    | omega
    )
theorem fr_X6_net {v : Int32} (a k : Nat) (hn : ¬ (False)) {p1 : Int32} {s : zMem} (hs : s a k = v) : zFp a k v (f_X6_net p1 s) := by
  unfold f_X6_net
  repeat' (first
    | with_reducible exact zf_none
    | (with_reducible refine zf_some ?_); assumption
    | with_reducible assumption
    | exact (zUp_off (by omega)).trans (by assumption)
    | exact (congrFun (zCp_off (by omega)) _).trans (by assumption)
    | with_reducible apply zf_nmM
    | with_reducible apply zf_nmV
    | with_reducible apply zf_nmL
    | with_reducible apply zf_gd
    | with_reducible apply zf_ite
    | with_reducible apply zf_bd
    | with_reducible apply fr_X5_isHut a k
    | with_reducible apply fr_X5_isOwed a k
    | with_reducible apply fr_X5_owes a k
    | intro _
    | omega
    )
theorem fr_X6_payOnce_6 {v : Int32} {c57 : Int32 → Int32 → zMem → Option (Int32 × zMem)} (a k : Nat) (hn : ¬ (a = 46))  (hc57 : ∀ (y1 : Int32) (y2 : Int32) (s9 : zMem), s9 a k = v → zFp a k v (c57 y1 y2 s9)) : ∀ {n : Nat} {x1 : Int32} {x2 : Int32} {x3 : Int32} {s : zMem}, s a k = v → zFp a k v (f_X6_payOnce_6 c57 n x1 x2 x3 s) := by
  intro n
  induction n with
  | zero => intros; exact zf_none
  | succ n ih =>
    intros
    rw [f_X6_payOnce_6]
    repeat' (first
      | with_reducible exact zf_none
      | (with_reducible refine zf_some ?_); assumption
      | with_reducible assumption
      | exact (zUp_off (by omega)).trans (by assumption)
      | exact (congrFun (zCp_off (by omega)) _).trans (by assumption)
      | with_reducible apply zf_nmM
      | with_reducible apply zf_nmV
      | with_reducible apply zf_nmL
      | with_reducible apply zf_gd
      | with_reducible apply zf_ite
      | with_reducible apply zf_bd
      | with_reducible apply ih
      | with_reducible apply hc57
      | intro _
      | omega
      )
theorem fr_X6_payOnce {v : Int32} (a k : Nat) (hn : ¬ (a = 46))  {s : zMem} (hs : s a k = v) : zFp a k v (f_X6_payOnce s) := by
  unfold f_X6_payOnce
  repeat' (first
    | with_reducible exact zf_none
    | (with_reducible refine zf_some ?_); assumption
    | with_reducible assumption
    | exact (zUp_off (by omega)).trans (by assumption)
    | exact (congrFun (zCp_off (by omega)) _).trans (by assumption)
    | with_reducible apply zf_nmM
    | with_reducible apply zf_nmV
    | with_reducible apply zf_nmL
    | with_reducible apply zf_gd
    | with_reducible apply zf_ite
    | with_reducible apply zf_bd
    | with_reducible apply fr_X6_payOnce_6 a k
    | intro _
    | omega
    )
theorem fr_X6_settle_14 {v : Int32} {c42 : Int32 → zMem → Option (Int32 × zMem)} (a k : Nat) (hn : ¬ (a = 46))  (hc42 : ∀ (y1 : Int32) (s9 : zMem), s9 a k = v → zFp a k v (c42 y1 s9)) : ∀ {n : Nat} {x3 : Int32} {x4 : Int32} {s : zMem}, s a k = v → zFp a k v (f_X6_settle_14 c42 n x3 x4 s) := by
  intro n
  induction n with
  | zero => intros; exact zf_none
  | succ n ih =>
    intros
    rw [f_X6_settle_14]
    repeat' (first
      | with_reducible exact zf_none
      | (with_reducible refine zf_some ?_); assumption
      | with_reducible assumption
      | exact (zUp_off (by omega)).trans (by assumption)
      | exact (congrFun (zCp_off (by omega)) _).trans (by assumption)
      | with_reducible apply zf_nmM
      | with_reducible apply zf_nmV
      | with_reducible apply zf_nmL
      | with_reducible apply zf_gd
      | with_reducible apply zf_ite
      | with_reducible apply zf_bd
      | with_reducible apply ih
      | with_reducible apply hc42
      | with_reducible apply fr_X6_isFromTo a k
      | with_reducible apply fr_X6_net a k
      | with_reducible apply fr_X6_payOnce a k
      | intro _
      | omega
      )
theorem fr_X6_settle_49 {v : Int32} {c86 : Int32 → Int32 → Int32 → zMem → Option (Int32 × zMem)} (a k : Nat) (hn : ¬ (a = 46))  (hc86 : ∀ (y1 : Int32) (y2 : Int32) (y3 : Int32) (s9 : zMem), s9 a k = v → zFp a k v (c86 y1 y2 y3 s9)) : ∀ {n : Nat} {x12 : Int32} {x13 : Int32} {x14 : Int32} {x15 : Int32} {s : zMem}, s a k = v → zFp a k v (f_X6_settle_49 c86 n x12 x13 x14 x15 s) := by
  intro n
  induction n with
  | zero => intros; exact zf_none
  | succ n ih =>
    intros
    rw [f_X6_settle_49]
    repeat' (first
      | with_reducible exact zf_none
      | (with_reducible refine zf_some ?_); assumption
      | with_reducible assumption
      | exact (zUp_off (by omega)).trans (by assumption)
      | exact (congrFun (zCp_off (by omega)) _).trans (by assumption)
      | with_reducible apply zf_nmM
      | with_reducible apply zf_nmV
      | with_reducible apply zf_nmL
      | with_reducible apply zf_gd
      | with_reducible apply zf_ite
      | with_reducible apply zf_bd
      | with_reducible apply ih
      | with_reducible apply hc86
      | with_reducible apply fr_X6_isFromTo a k
      | with_reducible apply fr_X6_net a k
      | with_reducible apply fr_X6_payOnce a k
      | with_reducible apply fr_X6_settle_14 a k
      | intro _
      | omega
      )
theorem fr_X6_settle {v : Int32} (a k : Nat) (hn : ¬ (a = 46)) {p1 : Int32} {s : zMem} (hs : s a k = v) : zFp a k v (f_X6_settle p1 s) := by
  unfold f_X6_settle
  repeat' (first
    | with_reducible exact zf_none
    | (with_reducible refine zf_some ?_); assumption
    | with_reducible assumption
    | exact (zUp_off (by omega)).trans (by assumption)
    | exact (congrFun (zCp_off (by omega)) _).trans (by assumption)
    | with_reducible apply zf_nmM
    | with_reducible apply zf_nmV
    | with_reducible apply zf_nmL
    | with_reducible apply zf_gd
    | with_reducible apply zf_ite
    | with_reducible apply zf_bd
    | with_reducible apply fr_X6_isFromTo a k
    | with_reducible apply fr_X6_net a k
    | with_reducible apply fr_X6_payOnce a k
    | with_reducible apply fr_X6_settle_14 a k
    | with_reducible apply fr_X6_settle_49 a k
    | intro _
    | omega
    )
theorem fr_X5_sourceOf_15 {v : Int32} {w : Nat} {c67 : Int32 → Int32 → Int32 → zMem → Option (Int32 × zMem)} (a k : Nat) (hn : ¬ (False))  (hc67 : ∀ (y1 : Int32) (y2 : Int32) (y3 : Int32) (s9 : zMem), s9 a k = v → zFp a k v (c67 y1 y2 y3 s9)) : ∀ {n : Nat} {x5 : Int32} {x6 : Int32} {x7 : Int32} {x8 : Int32} {s : zMem}, s a k = v → zFp a k v (f_X5_sourceOf_15 w c67 n x5 x6 x7 x8 s) := by
  intro n
  induction n with
  | zero => intros; exact zf_none
  | succ n ih =>
    intros
    rw [f_X5_sourceOf_15]
    repeat' (first
      | with_reducible exact zf_none
      | (with_reducible refine zf_some ?_); assumption
      | with_reducible assumption
      | exact (zUp_off (by omega)).trans (by assumption)
      | exact (congrFun (zCp_off (by omega)) _).trans (by assumption)
      | with_reducible apply zf_nmM
      | with_reducible apply zf_nmV
      | with_reducible apply zf_nmL
      | with_reducible apply zf_gd
      | with_reducible apply zf_ite
      | with_reducible apply zf_bd
      | with_reducible apply ih
      | with_reducible apply hc67
      | with_reducible apply fr_X6_has a k
      | intro _
      | omega
      )
theorem fr_X5_sourceOf_4 {v : Int32} {w : Nat} (a k : Nat) (hn : ¬ (False))  : ∀ {n : Nat} {x1 : Int32} {x2 : Int32} {x3 : Int32} {s : zMem}, s a k = v → zFp a k v (f_X5_sourceOf_4 w n x1 x2 x3 s) := by
  intro n
  induction n with
  | zero => intros; exact zf_none
  | succ n ih =>
    intros
    rw [f_X5_sourceOf_4]
    repeat' (first
      | with_reducible exact zf_none
      | (with_reducible refine zf_some ?_); assumption
      | with_reducible assumption
      | exact (zUp_off (by omega)).trans (by assumption)
      | exact (congrFun (zCp_off (by omega)) _).trans (by assumption)
      | with_reducible apply zf_nmM
      | with_reducible apply zf_nmV
      | with_reducible apply zf_nmL
      | with_reducible apply zf_gd
      | with_reducible apply zf_ite
      | with_reducible apply zf_bd
      | with_reducible apply ih
      | with_reducible apply fr_X6_has a k
      | with_reducible apply fr_X5_sourceOf_15 a k
      | intro _
      | omega
      )
theorem fr_X5_sourceOf {v : Int32} {w : Nat} (a k : Nat) (hn : ¬ (False)) {p1 : Int32} {s : zMem} (hs : s a k = v) : zFp a k v (f_X5_sourceOf w p1 s) := by
  unfold f_X5_sourceOf
  repeat' (first
    | with_reducible exact zf_none
    | (with_reducible refine zf_some ?_); assumption
    | with_reducible assumption
    | exact (zUp_off (by omega)).trans (by assumption)
    | exact (congrFun (zCp_off (by omega)) _).trans (by assumption)
    | with_reducible apply zf_nmM
    | with_reducible apply zf_nmV
    | with_reducible apply zf_nmL
    | with_reducible apply zf_gd
    | with_reducible apply zf_ite
    | with_reducible apply zf_bd
    | with_reducible apply fr_X6_has a k
    | with_reducible apply fr_X5_sourceOf_15 a k
    | with_reducible apply fr_X5_sourceOf_4 a k
    | intro _
    | omega
    )
theorem fr_X6_source {v : Int32} (a k : Nat) (hn : ¬ (False)) {p1 : Int32} {s : zMem} (hs : s a k = v) : zFp a k v (f_X6_source p1 s) := by
  unfold f_X6_source
  repeat' (first
    | with_reducible exact zf_none
    | (with_reducible refine zf_some ?_); assumption
    | with_reducible assumption
    | exact (zUp_off (by omega)).trans (by assumption)
    | exact (congrFun (zCp_off (by omega)) _).trans (by assumption)
    | with_reducible apply zf_nmM
    | with_reducible apply zf_nmV
    | with_reducible apply zf_nmL
    | with_reducible apply zf_gd
    | with_reducible apply zf_ite
    | with_reducible apply zf_bd
    | with_reducible apply fr_X5_isHut a k
    | with_reducible apply fr_X5_sourceOf a k
    | intro _
    | omega
    )
theorem fr_X6_rings_16 {v : Int32} (a k : Nat) (hn : ¬ (False))  : ∀ {n : Nat} {x3 : Int32} {x4 : Int32} {x5 : Int32} {s : zMem}, s a k = v → zFp a k v (f_X6_rings_16 n x3 x4 x5 s) := by
  intro n
  induction n with
  | zero => intros; exact zf_none
  | succ n ih =>
    intros
    rw [f_X6_rings_16]
    repeat' (first
      | with_reducible exact zf_none
      | (with_reducible refine zf_some ?_); assumption
      | with_reducible assumption
      | exact (zUp_off (by omega)).trans (by assumption)
      | exact (congrFun (zCp_off (by omega)) _).trans (by assumption)
      | with_reducible apply zf_nmM
      | with_reducible apply zf_nmV
      | with_reducible apply zf_nmL
      | with_reducible apply zf_gd
      | with_reducible apply zf_ite
      | with_reducible apply zf_bd
      | with_reducible apply ih
      | with_reducible apply fr_X5_loansFrom a k
      | with_reducible apply fr_X5_sourceOf a k
      | with_reducible apply fr_X6_has a k
      | with_reducible apply fr_X6_isFromTo a k
      | intro _
      | omega
      )
theorem fr_X6_rings {v : Int32} (a k : Nat) (hn : ¬ (False)) {p1 : Int32} {s : zMem} (hs : s a k = v) : zFp a k v (f_X6_rings p1 s) := by
  unfold f_X6_rings
  repeat' (first
    | with_reducible exact zf_none
    | (with_reducible refine zf_some ?_); assumption
    | with_reducible assumption
    | exact (zUp_off (by omega)).trans (by assumption)
    | exact (congrFun (zCp_off (by omega)) _).trans (by assumption)
    | with_reducible apply zf_nmM
    | with_reducible apply zf_nmV
    | with_reducible apply zf_nmL
    | with_reducible apply zf_gd
    | with_reducible apply zf_ite
    | with_reducible apply zf_bd
    | with_reducible apply fr_X5_loansFrom a k
    | with_reducible apply fr_X5_sourceOf a k
    | with_reducible apply fr_X6_has a k
    | with_reducible apply fr_X6_isFromTo a k
    | with_reducible apply fr_X6_rings_16 a k
    | intro _
    | omega
    )
theorem fr_X6_heatIfLent {v : Int32} (a k : Nat) (hn : ¬ (a = 4 ∨ (a = 20 ∧ (k = 9 ∨ k = 10 ∨ k = 11 ∨ k = 12)) ∨ a = 21 ∨ a = 22 ∨ a = 23 ∨ a = 24 ∨ a = 25 ∨ a = 26 ∨ a = 27 ∨ a = 28 ∨ a = 29 ∨ a = 30)) {p1 : Int32} {p2 : Int32} {p3 : Int32} {s : zMem} (hs : s a k = v) : zFp a k v (f_X6_heatIfLent p1 p2 p3 s) := by
  unfold f_X6_heatIfLent
  repeat' (first
    | with_reducible exact zf_none
    | (with_reducible refine zf_some ?_); assumption
    | with_reducible assumption
    | exact (zUp_off (by omega)).trans (by assumption)
    | exact (congrFun (zCp_off (by omega)) _).trans (by assumption)
    | with_reducible apply zf_nmM
    | with_reducible apply zf_nmV
    | with_reducible apply zf_nmL
    | with_reducible apply zf_gd
    | with_reducible apply zf_ite
    | with_reducible apply zf_bd
    | with_reducible apply fr_X5_heatOfAll a k
    | with_reducible apply fr_X5_lends a k
    | with_reducible apply fr_X5_passNights a k
    | with_reducible apply fr_X6_think a k
    | intro _
    | omega
    )
theorem fr_X6_ask_44 {v : Int32} {c87 : Int32 → Int32 → Int32 → zMem → Option (Int32 × zMem)} (a k : Nat) (hn : ¬ (a = 4 ∨ (a = 20 ∧ (k = 9 ∨ k = 10 ∨ k = 11 ∨ k = 12)) ∨ a = 21 ∨ a = 22 ∨ a = 23 ∨ a = 24 ∨ a = 25 ∨ a = 26 ∨ a = 27 ∨ a = 28 ∨ a = 29 ∨ a = 30))  (hc87 : ∀ (y1 : Int32) (y2 : Int32) (y3 : Int32) (s9 : zMem), s9 a k = v → zFp a k v (c87 y1 y2 y3 s9)) : ∀ {n : Nat} {x7 : Int32} {x8 : Int32} {x9 : Int32} {x10 : Int32} {x11 : Int32} {x12 : Int32} {s : zMem}, s a k = v → zFp a k v (f_X6_ask_44 c87 n x7 x8 x9 x10 x11 x12 s) := by
  intro n
  induction n with
  | zero => intros; exact zf_none
  | succ n ih =>
    intros
    rw [f_X6_ask_44]
    repeat' (first
      | with_reducible exact zf_none
      | (with_reducible refine zf_some ?_); assumption
      | with_reducible assumption
      | exact (zUp_off (by omega)).trans (by assumption)
      | exact (congrFun (zCp_off (by omega)) _).trans (by assumption)
      | with_reducible apply zf_nmM
      | with_reducible apply zf_nmV
      | with_reducible apply zf_nmL
      | with_reducible apply zf_gd
      | with_reducible apply zf_ite
      | with_reducible apply zf_bd
      | with_reducible apply ih
      | with_reducible apply hc87
      | with_reducible apply fr_X5_isHut a k
      | with_reducible apply fr_X6_heatIfLent a k
      | with_reducible apply fr_X6_isCoalNights a k
      | with_reducible apply fr_X6_isFromTo a k
      | intro _
      | omega
      )
theorem fr_X6_ask {v : Int32} (a k : Nat) (hn : ¬ (a = 4 ∨ (a = 20 ∧ (k = 9 ∨ k = 10 ∨ k = 11 ∨ k = 12)) ∨ a = 21 ∨ a = 22 ∨ a = 23 ∨ a = 24 ∨ a = 25 ∨ a = 26 ∨ a = 27 ∨ a = 28 ∨ a = 29 ∨ a = 30)) {p1 : Int32} {p2 : Int32} {p3 : Int32} {s : zMem} (hs : s a k = v) : zFp a k v (f_X6_ask p1 p2 p3 s) := by
  unfold f_X6_ask
  repeat' (first
    | with_reducible exact zf_none
    | (with_reducible refine zf_some ?_); assumption
    | with_reducible assumption
    | exact (zUp_off (by omega)).trans (by assumption)
    | exact (congrFun (zCp_off (by omega)) _).trans (by assumption)
    | with_reducible apply zf_nmM
    | with_reducible apply zf_nmV
    | with_reducible apply zf_nmL
    | with_reducible apply zf_gd
    | with_reducible apply zf_ite
    | with_reducible apply zf_bd
    | with_reducible apply fr_X5_isHut a k
    | with_reducible apply fr_X6_heatIfLent a k
    | with_reducible apply fr_X6_isCoalNights a k
    | with_reducible apply fr_X6_isFromTo a k
    | with_reducible apply fr_X6_ask_44 a k
    | intro _
    | omega
    )
theorem fr_X5_failedIn_4 {v : Int32} {w : Nat} (a k : Nat) (hn : ¬ (a = 4 ∨ (a = w ∧ (k = 10 ∨ k = 11)) ∨ a = (w + 1) ∨ a = (w + 2) ∨ a = (w + 3) ∨ a = (w + 6) ∨ a = (w + 7) ∨ a = (w + 8) ∨ a = (w + 9) ∨ a = (w + 10)))  : ∀ {n : Nat} {x1 : Int32} {x2 : Int32} {x3 : Int32} {s : zMem}, s a k = v → zFp a k v (f_X5_failedIn_4 w n x1 x2 x3 s) := by
  intro n
  induction n with
  | zero => intros; exact zf_none
  | succ n ih =>
    intros
    rw [f_X5_failedIn_4]
    repeat' (first
      | with_reducible exact zf_none
      | (with_reducible refine zf_some ?_); assumption
      | with_reducible assumption
      | exact (zUp_off (by omega)).trans (by assumption)
      | exact (congrFun (zCp_off (by omega)) _).trans (by assumption)
      | with_reducible apply zf_nmM
      | with_reducible apply zf_nmV
      | with_reducible apply zf_nmL
      | with_reducible apply zf_gd
      | with_reducible apply zf_ite
      | with_reducible apply zf_bd
      | with_reducible apply ih
      | with_reducible apply fr_X5_passNight a k
      | intro _
      | omega
      )
theorem fr_X5_failedIn {v : Int32} {w : Nat} (a k : Nat) (hn : ¬ (a = 4 ∨ (a = w ∧ (k = 10 ∨ k = 11)) ∨ a = (w + 1) ∨ a = (w + 2) ∨ a = (w + 3) ∨ a = (w + 6) ∨ a = (w + 7) ∨ a = (w + 8) ∨ a = (w + 9) ∨ a = (w + 10))) {p1 : Int32} {s : zMem} (hs : s a k = v) : zFp a k v (f_X5_failedIn w p1 s) := by
  unfold f_X5_failedIn
  repeat' (first
    | with_reducible exact zf_none
    | (with_reducible refine zf_some ?_); assumption
    | with_reducible assumption
    | exact (zUp_off (by omega)).trans (by assumption)
    | exact (congrFun (zCp_off (by omega)) _).trans (by assumption)
    | with_reducible apply zf_nmM
    | with_reducible apply zf_nmV
    | with_reducible apply zf_nmL
    | with_reducible apply zf_gd
    | with_reducible apply zf_ite
    | with_reducible apply zf_bd
    | with_reducible apply fr_X5_passNight a k
    | with_reducible apply fr_X5_failedIn_4 a k
    | intro _
    | omega
    )
theorem fr_X6_needs_29 {v : Int32} (a k : Nat) (hn : ¬ (a = 4 ∨ (a = 20 ∧ (k = 9 ∨ k = 10 ∨ k = 11 ∨ k = 12)) ∨ a = 21 ∨ a = 22 ∨ a = 23 ∨ a = 24 ∨ a = 25 ∨ a = 26 ∨ a = 27 ∨ a = 28 ∨ a = 29 ∨ a = 30))  : ∀ {n : Nat} {x5 : Int32} {x6 : Int32} {x7 : Int32} {s : zMem}, s a k = v → zFp a k v (f_X6_needs_29 n x5 x6 x7 s) := by
  intro n
  induction n with
  | zero => intros; exact zf_none
  | succ n ih =>
    intros
    rw [f_X6_needs_29]
    repeat' (first
      | with_reducible exact zf_none
      | (with_reducible refine zf_some ?_); assumption
      | with_reducible assumption
      | exact (zUp_off (by omega)).trans (by assumption)
      | exact (congrFun (zCp_off (by omega)) _).trans (by assumption)
      | with_reducible apply zf_nmM
      | with_reducible apply zf_nmV
      | with_reducible apply zf_nmL
      | with_reducible apply zf_gd
      | with_reducible apply zf_ite
      | with_reducible apply zf_bd
      | with_reducible apply ih
      | with_reducible apply fr_X5_failedIn a k
      | with_reducible apply fr_X5_isHut a k
      | with_reducible apply fr_X6_has a k
      | with_reducible apply fr_X6_isFromTo a k
      | with_reducible apply fr_X6_think a k
      | intro _
      | omega
      )
theorem fr_X6_needs {v : Int32} (a k : Nat) (hn : ¬ (a = 4 ∨ (a = 20 ∧ (k = 9 ∨ k = 10 ∨ k = 11 ∨ k = 12)) ∨ a = 21 ∨ a = 22 ∨ a = 23 ∨ a = 24 ∨ a = 25 ∨ a = 26 ∨ a = 27 ∨ a = 28 ∨ a = 29 ∨ a = 30)) {p1 : Int32} {p2 : Int32} {s : zMem} (hs : s a k = v) : zFp a k v (f_X6_needs p1 p2 s) := by
  unfold f_X6_needs
  repeat' (first
    | with_reducible exact zf_none
    | (with_reducible refine zf_some ?_); assumption
    | with_reducible assumption
    | exact (zUp_off (by omega)).trans (by assumption)
    | exact (congrFun (zCp_off (by omega)) _).trans (by assumption)
    | with_reducible apply zf_nmM
    | with_reducible apply zf_nmV
    | with_reducible apply zf_nmL
    | with_reducible apply zf_gd
    | with_reducible apply zf_ite
    | with_reducible apply zf_bd
    | with_reducible apply fr_X5_failedIn a k
    | with_reducible apply fr_X5_isHut a k
    | with_reducible apply fr_X6_has a k
    | with_reducible apply fr_X6_isFromTo a k
    | with_reducible apply fr_X6_think a k
    | with_reducible apply fr_X6_needs_29 a k
    | intro _
    | omega
    )
theorem fr_J6_bitCount_0f7a4 {v : Int32} (a k : Nat) (hn : ¬ (False)) {p1 : Int32} {s : zMem} (hs : s a k = v) : zFp a k v (f_J6_bitCount_0f7a4 p1 s) := by
  unfold f_J6_bitCount_0f7a4
  repeat' (first
    | with_reducible exact zf_none
    | (with_reducible refine zf_some ?_); assumption
    | with_reducible assumption
    | exact (zUp_off (by omega)).trans (by assumption)
    | exact (congrFun (zCp_off (by omega)) _).trans (by assumption)
    | with_reducible apply zf_nmM
    | with_reducible apply zf_nmV
    | with_reducible apply zf_nmL
    | with_reducible apply zf_gd
    | with_reducible apply zf_ite
    | with_reducible apply zf_bd
    | intro _
    | omega
    )
theorem fr_X6_mercy_40 {v : Int32} {c96 : Int32 → Int32 → Int32 → zMem → Option (Int32 × zMem)} (a k : Nat) (hn : ¬ (a = 4 ∨ (a = 20 ∧ (k = 9 ∨ k = 10 ∨ k = 11 ∨ k = 12)) ∨ a = 21 ∨ a = 22 ∨ a = 23 ∨ a = 24 ∨ a = 25 ∨ a = 26 ∨ a = 27 ∨ a = 28 ∨ a = 29 ∨ a = 30))  (hc96 : ∀ (y1 : Int32) (y2 : Int32) (y3 : Int32) (s9 : zMem), s9 a k = v → zFp a k v (c96 y1 y2 y3 s9)) : ∀ {n : Nat} {x11 : Int32} {x12 : Int32} {x13 : Int32} {x14 : Int32} {x15 : Int32} {s : zMem}, s a k = v → zFp a k v (f_X6_mercy_40 c96 n x11 x12 x13 x14 x15 s) := by
  intro n
  induction n with
  | zero => intros; exact zf_none
  | succ n ih =>
    intros
    rw [f_X6_mercy_40]
    repeat' (first
      | with_reducible exact zf_none
      | (with_reducible refine zf_some ?_); assumption
      | with_reducible assumption
      | exact (zUp_off (by omega)).trans (by assumption)
      | exact (congrFun (zCp_off (by omega)) _).trans (by assumption)
      | with_reducible apply zf_nmM
      | with_reducible apply zf_nmV
      | with_reducible apply zf_nmL
      | with_reducible apply zf_gd
      | with_reducible apply zf_ite
      | with_reducible apply zf_bd
      | with_reducible apply ih
      | with_reducible apply hc96
      | with_reducible apply fr_J6_bitCount_0f7a4 a k
      | with_reducible apply fr_X5_drop a k
      | with_reducible apply fr_X5_failedIn a k
      | with_reducible apply fr_X6_isFromTo a k
      | with_reducible apply fr_X6_think a k
      | intro _
      | omega
      )
theorem fr_X6_mercy {v : Int32} (a k : Nat) (hn : ¬ (a = 4 ∨ (a = 20 ∧ (k = 9 ∨ k = 10 ∨ k = 11 ∨ k = 12)) ∨ a = 21 ∨ a = 22 ∨ a = 23 ∨ a = 24 ∨ a = 25 ∨ a = 26 ∨ a = 27 ∨ a = 28 ∨ a = 29 ∨ a = 30)) {p1 : Int32} {p2 : Int32} {s : zMem} (hs : s a k = v) : zFp a k v (f_X6_mercy p1 p2 s) := by
  unfold f_X6_mercy
  repeat' (first
    | with_reducible exact zf_none
    | (with_reducible refine zf_some ?_); assumption
    | with_reducible assumption
    | exact (zUp_off (by omega)).trans (by assumption)
    | exact (congrFun (zCp_off (by omega)) _).trans (by assumption)
    | with_reducible apply zf_nmM
    | with_reducible apply zf_nmV
    | with_reducible apply zf_nmL
    | with_reducible apply zf_gd
    | with_reducible apply zf_ite
    | with_reducible apply zf_bd
    | with_reducible apply fr_J6_bitCount_0f7a4 a k
    | with_reducible apply fr_X5_drop a k
    | with_reducible apply fr_X5_failedIn a k
    | with_reducible apply fr_X6_isFromTo a k
    | with_reducible apply fr_X6_think a k
    | with_reducible apply fr_X6_mercy_40 a k
    | intro _
    | omega
    )
theorem fr_X6_heatOfOthersWithout {v : Int32} (a k : Nat) (hn : ¬ (a = 4 ∨ (a = 20 ∧ (k = 9 ∨ k = 10 ∨ k = 11 ∨ k = 12)) ∨ a = 21 ∨ a = 22 ∨ a = 23 ∨ a = 24 ∨ a = 25 ∨ a = 26 ∨ a = 27 ∨ a = 28 ∨ a = 29 ∨ a = 30)) {p1 : Int32} {p2 : Int32} {s : zMem} (hs : s a k = v) : zFp a k v (f_X6_heatOfOthersWithout p1 p2 s) := by
  unfold f_X6_heatOfOthersWithout
  repeat' (first
    | with_reducible exact zf_none
    | (with_reducible refine zf_some ?_); assumption
    | with_reducible assumption
    | exact (zUp_off (by omega)).trans (by assumption)
    | exact (congrFun (zCp_off (by omega)) _).trans (by assumption)
    | with_reducible apply zf_nmM
    | with_reducible apply zf_nmV
    | with_reducible apply zf_nmL
    | with_reducible apply zf_gd
    | with_reducible apply zf_ite
    | with_reducible apply zf_bd
    | with_reducible apply fr_X5_heatOfAll a k
    | with_reducible apply fr_X5_passNights a k
    | with_reducible apply fr_X6_think a k
    | intro _
    | omega
    )
theorem fr_X6_worst_30 {v : Int32} {c76 : Int32 → Int32 → Int32 → zMem → Option (Int32 × zMem)} (a k : Nat) (hn : ¬ (a = 4 ∨ (a = 20 ∧ (k = 9 ∨ k = 10 ∨ k = 11 ∨ k = 12)) ∨ a = 21 ∨ a = 22 ∨ a = 23 ∨ a = 24 ∨ a = 25 ∨ a = 26 ∨ a = 27 ∨ a = 28 ∨ a = 29 ∨ a = 30))  (hc76 : ∀ (y1 : Int32) (y2 : Int32) (y3 : Int32) (s9 : zMem), s9 a k = v → zFp a k v (c76 y1 y2 y3 s9)) : ∀ {n : Nat} {x5 : Int32} {x6 : Int32} {x7 : Int32} {x8 : Int32} {x9 : Int32} {s : zMem}, s a k = v → zFp a k v (f_X6_worst_30 c76 n x5 x6 x7 x8 x9 s) := by
  intro n
  induction n with
  | zero => intros; exact zf_none
  | succ n ih =>
    intros
    rw [f_X6_worst_30]
    repeat' (first
      | with_reducible exact zf_none
      | (with_reducible refine zf_some ?_); assumption
      | with_reducible assumption
      | exact (zUp_off (by omega)).trans (by assumption)
      | exact (congrFun (zCp_off (by omega)) _).trans (by assumption)
      | with_reducible apply zf_nmM
      | with_reducible apply zf_nmV
      | with_reducible apply zf_nmL
      | with_reducible apply zf_gd
      | with_reducible apply zf_ite
      | with_reducible apply zf_bd
      | with_reducible apply ih
      | with_reducible apply hc76
      | with_reducible apply fr_X6_heatOfOthersWithout a k
      | with_reducible apply fr_X6_isFromTo a k
      | intro _
      | omega
      )
theorem fr_X6_worst {v : Int32} (a k : Nat) (hn : ¬ (a = 4 ∨ (a = 20 ∧ (k = 9 ∨ k = 10 ∨ k = 11 ∨ k = 12)) ∨ a = 21 ∨ a = 22 ∨ a = 23 ∨ a = 24 ∨ a = 25 ∨ a = 26 ∨ a = 27 ∨ a = 28 ∨ a = 29 ∨ a = 30)) {p1 : Int32} {p2 : Int32} {s : zMem} (hs : s a k = v) : zFp a k v (f_X6_worst p1 p2 s) := by
  unfold f_X6_worst
  repeat' (first
    | with_reducible exact zf_none
    | (with_reducible refine zf_some ?_); assumption
    | with_reducible assumption
    | exact (zUp_off (by omega)).trans (by assumption)
    | exact (congrFun (zCp_off (by omega)) _).trans (by assumption)
    | with_reducible apply zf_nmM
    | with_reducible apply zf_nmV
    | with_reducible apply zf_nmL
    | with_reducible apply zf_gd
    | with_reducible apply zf_ite
    | with_reducible apply zf_bd
    | with_reducible apply fr_X6_heatOfOthersWithout a k
    | with_reducible apply fr_X6_isFromTo a k
    | with_reducible apply fr_X6_worst_30 a k
    | intro _
    | omega
    )
theorem fr_X3_at {v : Int32} (a k : Nat) (hn : ¬ (False)) {p1 : Int32} {p2 : Int32} {s : zMem} (hs : s a k = v) : zFp a k v (f_X3_at p1 p2 s) := by
  unfold f_X3_at
  repeat' (first
    | with_reducible exact zf_none
    | (with_reducible refine zf_some ?_); assumption
    | with_reducible assumption
    | exact (zUp_off (by omega)).trans (by assumption)
    | exact (congrFun (zCp_off (by omega)) _).trans (by assumption)
    | with_reducible apply zf_nmM
    | with_reducible apply zf_nmV
    | with_reducible apply zf_nmL
    | with_reducible apply zf_gd
    | with_reducible apply zf_ite
    | with_reducible apply zf_bd
    | intro _
    | omega
    )
theorem fr_X3_sizeOf {v : Int32} (a k : Nat) (hn : ¬ (False)) {p1 : Int32} {s : zMem} (hs : s a k = v) : zFp a k v (f_X3_sizeOf p1 s) := by
  unfold f_X3_sizeOf
  repeat' (first
    | with_reducible exact zf_none
    | (with_reducible refine zf_some ?_); assumption
    | with_reducible assumption
    | exact (zUp_off (by omega)).trans (by assumption)
    | exact (congrFun (zCp_off (by omega)) _).trans (by assumption)
    | with_reducible apply zf_nmM
    | with_reducible apply zf_nmV
    | with_reducible apply zf_nmL
    | with_reducible apply zf_gd
    | with_reducible apply zf_ite
    | with_reducible apply zf_bd
    | intro _
    | omega
    )
theorem fr_X6_firstOtherwise_13 {v : Int32} (a k : Nat) (hn : ¬ (a = 4 ∨ (a = 20 ∧ (k = 10 ∨ k = 11)) ∨ a = 21 ∨ a = 22 ∨ a = 23 ∨ a = 26 ∨ a = 27 ∨ a = 28 ∨ a = 29 ∨ a = 30))  : ∀ {n : Nat} {x3 : Int32} {x4 : Int32} {x5 : Int32} {x6 : Int32} {s : zMem}, s a k = v → zFp a k v (f_X6_firstOtherwise_13 n x3 x4 x5 x6 s) := by
  intro n
  induction n with
  | zero => intros; exact zf_none
  | succ n ih =>
    intros
    rw [f_X6_firstOtherwise_13]
    repeat' (first
      | with_reducible exact zf_none
      | (with_reducible refine zf_some ?_); assumption
      | with_reducible assumption
      | exact (zUp_off (by omega)).trans (by assumption)
      | exact (congrFun (zCp_off (by omega)) _).trans (by assumption)
      | with_reducible apply zf_nmM
      | with_reducible apply zf_nmV
      | with_reducible apply zf_nmL
      | with_reducible apply zf_gd
      | with_reducible apply zf_ite
      | with_reducible apply zf_bd
      | with_reducible apply ih
      | with_reducible apply fr_X3_at a k
      | with_reducible apply fr_X3_sizeOf a k
      | with_reducible apply fr_X5_passNight a k
      | intro _
      | omega
      )
theorem fr_X6_firstOtherwise {v : Int32} (a k : Nat) (hn : ¬ (a = 4 ∨ (a = 20 ∧ (k = 10 ∨ k = 11)) ∨ a = 21 ∨ a = 22 ∨ a = 23 ∨ a = 26 ∨ a = 27 ∨ a = 28 ∨ a = 29 ∨ a = 30)) {p1 : Int32} {p3 : Int32} {s : zMem} (hs : s a k = v) : zFp a k v (f_X6_firstOtherwise p1 p3 s) := by
  unfold f_X6_firstOtherwise
  repeat' (first
    | with_reducible exact zf_none
    | (with_reducible refine zf_some ?_); assumption
    | with_reducible assumption
    | exact (zUp_off (by omega)).trans (by assumption)
    | exact (congrFun (zCp_off (by omega)) _).trans (by assumption)
    | with_reducible apply zf_nmM
    | with_reducible apply zf_nmV
    | with_reducible apply zf_nmL
    | with_reducible apply zf_gd
    | with_reducible apply zf_ite
    | with_reducible apply zf_bd
    | with_reducible apply fr_X3_at a k
    | with_reducible apply fr_X3_sizeOf a k
    | with_reducible apply fr_X5_passNight a k
    | with_reducible apply fr_X6_firstOtherwise_13 a k
    | intro _
    | omega
    )
theorem fr_X3_isMissing {v : Int32} (a k : Nat) (hn : ¬ (False)) {p1 : Int32} {s : zMem} (hs : s a k = v) : zFp a k v (f_X3_isMissing p1 s) := by
  unfold f_X3_isMissing
  repeat' (first
    | with_reducible exact zf_none
    | (with_reducible refine zf_some ?_); assumption
    | with_reducible assumption
    | exact (zUp_off (by omega)).trans (by assumption)
    | exact (congrFun (zCp_off (by omega)) _).trans (by assumption)
    | with_reducible apply zf_nmM
    | with_reducible apply zf_nmV
    | with_reducible apply zf_nmL
    | with_reducible apply zf_gd
    | with_reducible apply zf_ite
    | with_reducible apply zf_bd
    | intro _
    | omega
    )
theorem fr_X3_isSheet {v : Int32} (a k : Nat) (hn : ¬ (False)) {p1 : Int32} {s : zMem} (hs : s a k = v) : zFp a k v (f_X3_isSheet p1 s) := by
  unfold f_X3_isSheet
  repeat' (first
    | with_reducible exact zf_none
    | (with_reducible refine zf_some ?_); assumption
    | with_reducible assumption
    | exact (zUp_off (by omega)).trans (by assumption)
    | exact (congrFun (zCp_off (by omega)) _).trans (by assumption)
    | with_reducible apply zf_nmM
    | with_reducible apply zf_nmV
    | with_reducible apply zf_nmL
    | with_reducible apply zf_gd
    | with_reducible apply zf_ite
    | with_reducible apply zf_bd
    | intro _
    | omega
    )
theorem fr_X6_toldRefusal {v : Int32} (a k : Nat) (hn : ¬ (False)) {p1 : Int32} {s : zMem} (hs : s a k = v) : zFp a k v (f_X6_toldRefusal p1 s) := by
  unfold f_X6_toldRefusal
  repeat' (first
    | with_reducible exact zf_none
    | (with_reducible refine zf_some ?_); assumption
    | with_reducible assumption
    | exact (zUp_off (by omega)).trans (by assumption)
    | exact (congrFun (zCp_off (by omega)) _).trans (by assumption)
    | with_reducible apply zf_nmM
    | with_reducible apply zf_nmV
    | with_reducible apply zf_nmL
    | with_reducible apply zf_gd
    | with_reducible apply zf_ite
    | with_reducible apply zf_bd
    | with_reducible apply fr_X3_isMissing a k
    | with_reducible apply fr_X3_isSheet a k
    | with_reducible apply fr_X3_sizeOf a k
    | intro _
    | omega
    )
theorem fr_X6_judgeRefusal {v : Int32} (a k : Nat) (hn : ¬ (False)) {p1 : Int32} {p2 : Int32} {s : zMem} (hs : s a k = v) : zFp a k v (f_X6_judgeRefusal p1 p2 s) := by
  unfold f_X6_judgeRefusal
  repeat' (first
    | with_reducible exact zf_none
    | (with_reducible refine zf_some ?_); assumption
    | with_reducible assumption
    | exact (zUp_off (by omega)).trans (by assumption)
    | exact (congrFun (zCp_off (by omega)) _).trans (by assumption)
    | with_reducible apply zf_nmM
    | with_reducible apply zf_nmV
    | with_reducible apply zf_nmL
    | with_reducible apply zf_gd
    | with_reducible apply zf_ite
    | with_reducible apply zf_bd
    | with_reducible apply fr_X5_isHut a k
    | with_reducible apply fr_X6_toldRefusal a k
    | intro _
    | omega
    )
theorem fr_X6_judge {v : Int32} (a k : Nat) (hn : ¬ (a = 4 ∨ (a = 20 ∧ (k = 9 ∨ k = 10 ∨ k = 11 ∨ k = 12)) ∨ a = 21 ∨ a = 22 ∨ a = 23 ∨ a = 24 ∨ a = 25 ∨ a = 26 ∨ a = 27 ∨ a = 28 ∨ a = 29 ∨ a = 30)) {p1 : Int32} {p2 : Int32} {s : zMem} (hs : s a k = v) : zFp a k v (f_X6_judge p1 p2 s) := by
  unfold f_X6_judge
  repeat' (first
    | with_reducible exact zf_none
    | (with_reducible refine zf_some ?_); assumption
    | with_reducible assumption
    | exact (zUp_off (by omega)).trans (by assumption)
    | exact (congrFun (zCp_off (by omega)) _).trans (by assumption)
    | with_reducible apply zf_nmM
    | with_reducible apply zf_nmV
    | with_reducible apply zf_nmL
    | with_reducible apply zf_gd
    | with_reducible apply zf_ite
    | with_reducible apply zf_bd
    | with_reducible apply fr_X6_firstOtherwise a k
    | with_reducible apply fr_X6_judgeRefusal a k
    | with_reducible apply fr_X6_think a k
    | intro _
    | omega
    )
theorem fr_X6_isTold {v : Int32} (a k : Nat) (hn : ¬ (a = 4 ∨ (a = 20 ∧ (k = 10 ∨ k = 11)) ∨ a = 21 ∨ a = 22 ∨ a = 23 ∨ a = 26 ∨ a = 27 ∨ a = 28 ∨ a = 29 ∨ a = 30)) {p1 : Int32} {p3 : Int32} {s : zMem} (hs : s a k = v) : zFp a k v (f_X6_isTold p1 p3 s) := by
  unfold f_X6_isTold
  repeat' (first
    | with_reducible exact zf_none
    | (with_reducible refine zf_some ?_); assumption
    | with_reducible assumption
    | exact (zUp_off (by omega)).trans (by assumption)
    | exact (congrFun (zCp_off (by omega)) _).trans (by assumption)
    | with_reducible apply zf_nmM
    | with_reducible apply zf_nmV
    | with_reducible apply zf_nmL
    | with_reducible apply zf_gd
    | with_reducible apply zf_ite
    | with_reducible apply zf_bd
    | with_reducible apply fr_X6_firstOtherwise a k
    | intro _
    | omega
    )
theorem fr_X6_kinds_46 {v : Int32} {c34 : Int32 → Int32 → Int32 → Int32 → Int32 → zMem → Option (Int32 × zMem)} (a k : Nat) (hn : ¬ (a = 4 ∨ (a = 20 ∧ (k = 9 ∨ k = 10 ∨ k = 11 ∨ k = 12)) ∨ a = 21 ∨ a = 22 ∨ a = 23 ∨ a = 24 ∨ a = 25 ∨ a = 26 ∨ a = 27 ∨ a = 28 ∨ a = 29 ∨ a = 30))  (hc34 : ∀ (y1 : Int32) (y2 : Int32) (y3 : Int32) (y4 : Int32) (y5 : Int32) (s9 : zMem), s9 a k = v → zFp a k v (c34 y1 y2 y3 y4 y5 s9)) {x11 : Int32} {x12 : Int32} {x13 : Int32} {x14 : Int32} {x15 : Int32} {t16 : Int32} {t17 : Int32} {s : zMem} (hs : s a k = v) : zFp a k v (f_X6_kinds_46 c34 x11 x12 x13 x14 x15 t16 t17 s) := by
  unfold f_X6_kinds_46
  repeat' (first
    | with_reducible exact zf_none
    | (with_reducible refine zf_some ?_); assumption
    | with_reducible assumption
    | exact (zUp_off (by omega)).trans (by assumption)
    | exact (congrFun (zCp_off (by omega)) _).trans (by assumption)
    | with_reducible apply zf_nmM
    | with_reducible apply zf_nmV
    | with_reducible apply zf_nmL
    | with_reducible apply zf_gd
    | with_reducible apply zf_ite
    | with_reducible apply zf_bd
    | with_reducible apply hc34
    | with_reducible apply fr_X6_isFromTo a k
    | with_reducible apply fr_X6_isTold a k
    | with_reducible apply fr_X6_judgeRefusal a k
    | with_reducible apply fr_X6_think a k
    | intro _
    | omega
    )
theorem fr_X6_kinds_34 {v : Int32} (a k : Nat) (hn : ¬ (a = 4 ∨ (a = 20 ∧ (k = 9 ∨ k = 10 ∨ k = 11 ∨ k = 12)) ∨ a = 21 ∨ a = 22 ∨ a = 23 ∨ a = 24 ∨ a = 25 ∨ a = 26 ∨ a = 27 ∨ a = 28 ∨ a = 29 ∨ a = 30))  : ∀ {n : Nat} {x5 : Int32} {x6 : Int32} {x7 : Int32} {x8 : Int32} {x9 : Int32} {s : zMem}, s a k = v → zFp a k v (f_X6_kinds_34 n x5 x6 x7 x8 x9 s) := by
  intro n
  induction n with
  | zero => intros; exact zf_none
  | succ n ih =>
    intros
    rw [f_X6_kinds_34]
    repeat' (first
      | with_reducible exact zf_none
      | (with_reducible refine zf_some ?_); assumption
      | with_reducible assumption
      | exact (zUp_off (by omega)).trans (by assumption)
      | exact (congrFun (zCp_off (by omega)) _).trans (by assumption)
      | with_reducible apply zf_nmM
      | with_reducible apply zf_nmV
      | with_reducible apply zf_nmL
      | with_reducible apply zf_gd
      | with_reducible apply zf_ite
      | with_reducible apply zf_bd
      | with_reducible apply ih
      | with_reducible apply fr_X6_isFromTo a k
      | with_reducible apply fr_X6_isTold a k
      | with_reducible apply fr_X6_judgeRefusal a k
      | with_reducible apply fr_X6_think a k
      | with_reducible apply fr_X6_kinds_46 a k
      | intro _
      | omega
      )
theorem fr_X6_kinds {v : Int32} (a k : Nat) (hn : ¬ (a = 4 ∨ (a = 20 ∧ (k = 9 ∨ k = 10 ∨ k = 11 ∨ k = 12)) ∨ a = 21 ∨ a = 22 ∨ a = 23 ∨ a = 24 ∨ a = 25 ∨ a = 26 ∨ a = 27 ∨ a = 28 ∨ a = 29 ∨ a = 30)) {p1 : Int32} {p2 : Int32} {p3 : Int32} {s : zMem} (hs : s a k = v) : zFp a k v (f_X6_kinds p1 p2 p3 s) := by
  unfold f_X6_kinds
  repeat' (first
    | with_reducible exact zf_none
    | (with_reducible refine zf_some ?_); assumption
    | with_reducible assumption
    | exact (zUp_off (by omega)).trans (by assumption)
    | exact (congrFun (zCp_off (by omega)) _).trans (by assumption)
    | with_reducible apply zf_nmM
    | with_reducible apply zf_nmV
    | with_reducible apply zf_nmL
    | with_reducible apply zf_gd
    | with_reducible apply zf_ite
    | with_reducible apply zf_bd
    | with_reducible apply fr_X6_isFromTo a k
    | with_reducible apply fr_X6_isTold a k
    | with_reducible apply fr_X6_judgeRefusal a k
    | with_reducible apply fr_X6_think a k
    | with_reducible apply fr_X6_kinds_46 a k
    | with_reducible apply fr_X6_kinds_34 a k
    | intro _
    | omega
    )
theorem fr_X6_states_63 {v : Int32} {c111 : Int32 → Int32 → Int32 → zMem → Option (Int32 × zMem)} {c47 : Int32 → Int32 → Int32 → Int32 → Int32 → Int32 → Int32 → zMem → Option (Int32 × zMem)} (a k : Nat) (hn : ¬ (a = 4 ∨ (a = 20 ∧ (k = 9 ∨ k = 10 ∨ k = 11 ∨ k = 12)) ∨ a = 21 ∨ a = 22 ∨ a = 23 ∨ a = 24 ∨ a = 25 ∨ a = 26 ∨ a = 27 ∨ a = 28 ∨ a = 29 ∨ a = 30))  (hc111 : ∀ (y1 : Int32) (y2 : Int32) (y3 : Int32) (s9 : zMem), s9 a k = v → zFp a k v (c111 y1 y2 y3 s9)) (hc47 : ∀ (y1 : Int32) (y2 : Int32) (y3 : Int32) (y4 : Int32) (y5 : Int32) (y6 : Int32) (y7 : Int32) (s9 : zMem), s9 a k = v → zFp a k v (c47 y1 y2 y3 y4 y5 y6 y7 s9)) {x17 : Int32} {x18 : Int32} {x19 : Int32} {x20 : Int32} {x21 : Int32} {x22 : Int32} {x23 : Int32} {t24 : Int32} {t25 : Int32} {s : zMem} (hs : s a k = v) : zFp a k v (f_X6_states_63 c111 c47 x17 x18 x19 x20 x21 x22 x23 t24 t25 s) := by
  unfold f_X6_states_63
  repeat' (first
    | with_reducible exact zf_none
    | (with_reducible refine zf_some ?_); assumption
    | with_reducible assumption
    | exact (zUp_off (by omega)).trans (by assumption)
    | exact (congrFun (zCp_off (by omega)) _).trans (by assumption)
    | with_reducible apply zf_nmM
    | with_reducible apply zf_nmV
    | with_reducible apply zf_nmL
    | with_reducible apply zf_gd
    | with_reducible apply zf_ite
    | with_reducible apply zf_bd
    | with_reducible apply hc111
    | with_reducible apply hc47
    | with_reducible apply fr_X5_become a k
    | with_reducible apply fr_X6_isFromTo a k
    | with_reducible apply fr_X6_isTold a k
    | with_reducible apply fr_X6_judgeRefusal a k
    | with_reducible apply fr_X6_mostOf a k
    | with_reducible apply fr_X6_think a k
    | intro _
    | omega
    )
theorem fr_X6_states_47 {v : Int32} {c111 : Int32 → Int32 → Int32 → zMem → Option (Int32 × zMem)} (a k : Nat) (hn : ¬ (a = 4 ∨ (a = 20 ∧ (k = 9 ∨ k = 10 ∨ k = 11 ∨ k = 12)) ∨ a = 21 ∨ a = 22 ∨ a = 23 ∨ a = 24 ∨ a = 25 ∨ a = 26 ∨ a = 27 ∨ a = 28 ∨ a = 29 ∨ a = 30))  (hc111 : ∀ (y1 : Int32) (y2 : Int32) (y3 : Int32) (s9 : zMem), s9 a k = v → zFp a k v (c111 y1 y2 y3 s9)) : ∀ {n : Nat} {x7 : Int32} {x8 : Int32} {x9 : Int32} {x10 : Int32} {x11 : Int32} {x12 : Int32} {x13 : Int32} {s : zMem}, s a k = v → zFp a k v (f_X6_states_47 c111 n x7 x8 x9 x10 x11 x12 x13 s) := by
  intro n
  induction n with
  | zero => intros; exact zf_none
  | succ n ih =>
    intros
    rw [f_X6_states_47]
    repeat' (first
      | with_reducible exact zf_none
      | (with_reducible refine zf_some ?_); assumption
      | with_reducible assumption
      | exact (zUp_off (by omega)).trans (by assumption)
      | exact (congrFun (zCp_off (by omega)) _).trans (by assumption)
      | with_reducible apply zf_nmM
      | with_reducible apply zf_nmV
      | with_reducible apply zf_nmL
      | with_reducible apply zf_gd
      | with_reducible apply zf_ite
      | with_reducible apply zf_bd
      | with_reducible apply ih
      | with_reducible apply hc111
      | with_reducible apply fr_X5_become a k
      | with_reducible apply fr_X6_isFromTo a k
      | with_reducible apply fr_X6_isTold a k
      | with_reducible apply fr_X6_judgeRefusal a k
      | with_reducible apply fr_X6_mostOf a k
      | with_reducible apply fr_X6_think a k
      | with_reducible apply fr_X6_states_63 a k
      | intro _
      | omega
      )
theorem fr_X6_states {v : Int32} (a k : Nat) (hn : ¬ (a = 4 ∨ (a = 20 ∧ (k = 9 ∨ k = 10 ∨ k = 11 ∨ k = 12)) ∨ a = 21 ∨ a = 22 ∨ a = 23 ∨ a = 24 ∨ a = 25 ∨ a = 26 ∨ a = 27 ∨ a = 28 ∨ a = 29 ∨ a = 30)) {p1 : Int32} {p2 : Int32} {p3 : Int32} {p4 : Int32} {s : zMem} (hs : s a k = v) : zFp a k v (f_X6_states p1 p2 p3 p4 s) := by
  unfold f_X6_states
  repeat' (first
    | with_reducible exact zf_none
    | (with_reducible refine zf_some ?_); assumption
    | with_reducible assumption
    | exact (zUp_off (by omega)).trans (by assumption)
    | exact (congrFun (zCp_off (by omega)) _).trans (by assumption)
    | with_reducible apply zf_nmM
    | with_reducible apply zf_nmV
    | with_reducible apply zf_nmL
    | with_reducible apply zf_gd
    | with_reducible apply zf_ite
    | with_reducible apply zf_bd
    | with_reducible apply fr_X5_become a k
    | with_reducible apply fr_X6_isFromTo a k
    | with_reducible apply fr_X6_isTold a k
    | with_reducible apply fr_X6_judgeRefusal a k
    | with_reducible apply fr_X6_mostOf a k
    | with_reducible apply fr_X6_think a k
    | with_reducible apply fr_X6_states_63 a k
    | with_reducible apply fr_X6_states_47 a k
    | intro _
    | omega
    )
theorem fr_X6_whose_17 {v : Int32} (a k : Nat) (hn : ¬ (a = 4 ∨ (a = 20 ∧ (k = 9 ∨ k = 10 ∨ k = 11 ∨ k = 12)) ∨ a = 21 ∨ a = 22 ∨ a = 23 ∨ a = 24 ∨ a = 25 ∨ a = 26 ∨ a = 27 ∨ a = 28 ∨ a = 29 ∨ a = 30))  : ∀ {n : Nat} {x3 : Int32} {x4 : Int32} {x5 : Int32} {s : zMem}, s a k = v → zFp a k v (f_X6_whose_17 n x3 x4 x5 s) := by
  intro n
  induction n with
  | zero => intros; exact zf_none
  | succ n ih =>
    intros
    rw [f_X6_whose_17]
    repeat' (first
      | with_reducible exact zf_none
      | (with_reducible refine zf_some ?_); assumption
      | with_reducible assumption
      | exact (zUp_off (by omega)).trans (by assumption)
      | exact (congrFun (zCp_off (by omega)) _).trans (by assumption)
      | with_reducible apply zf_nmM
      | with_reducible apply zf_nmV
      | with_reducible apply zf_nmL
      | with_reducible apply zf_gd
      | with_reducible apply zf_ite
      | with_reducible apply zf_bd
      | with_reducible apply ih
      | with_reducible apply fr_X6_isTold a k
      | with_reducible apply fr_X6_think a k
      | with_reducible apply fr_X6_toldRefusal a k
      | intro _
      | omega
      )
theorem fr_X6_whose {v : Int32} (a k : Nat) (hn : ¬ (a = 4 ∨ (a = 20 ∧ (k = 9 ∨ k = 10 ∨ k = 11 ∨ k = 12)) ∨ a = 21 ∨ a = 22 ∨ a = 23 ∨ a = 24 ∨ a = 25 ∨ a = 26 ∨ a = 27 ∨ a = 28 ∨ a = 29 ∨ a = 30)) {p1 : Int32} {s : zMem} (hs : s a k = v) : zFp a k v (f_X6_whose p1 s) := by
  unfold f_X6_whose
  repeat' (first
    | with_reducible exact zf_none
    | (with_reducible refine zf_some ?_); assumption
    | with_reducible assumption
    | exact (zUp_off (by omega)).trans (by assumption)
    | exact (congrFun (zCp_off (by omega)) _).trans (by assumption)
    | with_reducible apply zf_nmM
    | with_reducible apply zf_nmV
    | with_reducible apply zf_nmL
    | with_reducible apply zf_gd
    | with_reducible apply zf_ite
    | with_reducible apply zf_bd
    | with_reducible apply fr_X6_isTold a k
    | with_reducible apply fr_X6_think a k
    | with_reducible apply fr_X6_toldRefusal a k
    | with_reducible apply fr_X6_whose_17 a k
    | intro _
    | omega
    )
theorem fr_X6_laws_19 {v : Int32} (a k : Nat) (hn : ¬ (a = 4 ∨ (a = 20 ∧ (k = 9 ∨ k = 10 ∨ k = 11 ∨ k = 12)) ∨ a = 21 ∨ a = 22 ∨ a = 23 ∨ a = 24 ∨ a = 25 ∨ a = 26 ∨ a = 27 ∨ a = 28 ∨ a = 29 ∨ a = 30))  : ∀ {n : Nat} {x3 : Int32} {x4 : Int32} {x5 : Int32} {x6 : Int32} {s : zMem}, s a k = v → zFp a k v (f_X6_laws_19 n x3 x4 x5 x6 s) := by
  intro n
  induction n with
  | zero => intros; exact zf_none
  | succ n ih =>
    intros
    rw [f_X6_laws_19]
    repeat' (first
      | with_reducible exact zf_none
      | (with_reducible refine zf_some ?_); assumption
      | with_reducible assumption
      | exact (zUp_off (by omega)).trans (by assumption)
      | exact (congrFun (zCp_off (by omega)) _).trans (by assumption)
      | with_reducible apply zf_nmM
      | with_reducible apply zf_nmV
      | with_reducible apply zf_nmL
      | with_reducible apply zf_gd
      | with_reducible apply zf_ite
      | with_reducible apply zf_bd
      | with_reducible apply ih
      | with_reducible apply fr_X6_isTold a k
      | with_reducible apply fr_X6_judgeRefusal a k
      | with_reducible apply fr_X6_think a k
      | intro _
      | omega
      )
theorem fr_X6_laws {v : Int32} (a k : Nat) (hn : ¬ (a = 4 ∨ (a = 20 ∧ (k = 9 ∨ k = 10 ∨ k = 11 ∨ k = 12)) ∨ a = 21 ∨ a = 22 ∨ a = 23 ∨ a = 24 ∨ a = 25 ∨ a = 26 ∨ a = 27 ∨ a = 28 ∨ a = 29 ∨ a = 30)) {p1 : Int32} {p2 : Int32} {s : zMem} (hs : s a k = v) : zFp a k v (f_X6_laws p1 p2 s) := by
  unfold f_X6_laws
  repeat' (first
    | with_reducible exact zf_none
    | (with_reducible refine zf_some ?_); assumption
    | with_reducible assumption
    | exact (zUp_off (by omega)).trans (by assumption)
    | exact (congrFun (zCp_off (by omega)) _).trans (by assumption)
    | with_reducible apply zf_nmM
    | with_reducible apply zf_nmV
    | with_reducible apply zf_nmL
    | with_reducible apply zf_gd
    | with_reducible apply zf_ite
    | with_reducible apply zf_bd
    | with_reducible apply fr_X6_isTold a k
    | with_reducible apply fr_X6_judgeRefusal a k
    | with_reducible apply fr_X6_think a k
    | with_reducible apply fr_X6_laws_19 a k
    | intro _
    | omega
    )
theorem fr_X3_renew_17 {v : Int32} (a k : Nat) (hn : ¬ (a = 43 ∨ a = 44 ∨ a = 45))  : ∀ {n : Nat} {x3 : Int32} {x4 : Int32} {s : zMem}, s a k = v → zFp a k v (f_X3_renew_17 n x3 x4 s) := by
  intro n
  induction n with
  | zero => intros; exact zf_none
  | succ n ih =>
    intros
    rw [f_X3_renew_17]
    repeat' (first
      | with_reducible exact zf_none
      | (with_reducible refine zf_some ?_); assumption
      | with_reducible assumption
      | exact (zUp_off (by omega)).trans (by assumption)
      | exact (congrFun (zCp_off (by omega)) _).trans (by assumption)
      | with_reducible apply zf_nmM
      | with_reducible apply zf_nmV
      | with_reducible apply zf_nmL
      | with_reducible apply zf_gd
      | with_reducible apply zf_ite
      | with_reducible apply zf_bd
      | with_reducible apply ih
      | intro _
      | omega
      )
theorem fr_X3_renew {v : Int32} (a k : Nat) (hn : ¬ (a = 43 ∨ a = 44 ∨ a = 45)) {p1 : Int32} {p2 : Int32} {p3 : Int32} {s : zMem} (hs : s a k = v) : zFp a k v (f_X3_renew p1 p2 p3 s) := by
  unfold f_X3_renew
  repeat' (first
    | with_reducible exact zf_none
    | (with_reducible refine zf_some ?_); assumption
    | with_reducible assumption
    | exact (zUp_off (by omega)).trans (by assumption)
    | exact (congrFun (zCp_off (by omega)) _).trans (by assumption)
    | with_reducible apply zf_nmM
    | with_reducible apply zf_nmV
    | with_reducible apply zf_nmL
    | with_reducible apply zf_gd
    | with_reducible apply zf_ite
    | with_reducible apply zf_bd
    | with_reducible apply fr_X3_renew_17 a k
    | intro _
    | omega
    )
theorem fr_X3_write_16 {v : Int32} (a k : Nat) (hn : ¬ (a = 45))  {x1 : Int32} {x2 : Int32} {x3 : Int32} {x4 : Int32} {s : zMem} (hs : s a k = v) : zFp a k v (f_X3_write_16 x1 x2 x3 x4 s) := by
  unfold f_X3_write_16
  repeat' (first
    | with_reducible exact zf_none
    | (with_reducible refine zf_some ?_); assumption
    | with_reducible assumption
    | exact (zUp_off (by omega)).trans (by assumption)
    | exact (congrFun (zCp_off (by omega)) _).trans (by assumption)
    | with_reducible apply zf_nmM
    | with_reducible apply zf_nmV
    | with_reducible apply zf_nmL
    | with_reducible apply zf_gd
    | with_reducible apply zf_ite
    | with_reducible apply zf_bd
    | intro _
    | omega
    )
theorem fr_X3_write {v : Int32} (a k : Nat) (hn : ¬ (a = 45)) {p1 : Int32} {p2 : Int32} {p3 : Int32} {s : zMem} (hs : s a k = v) : zFp a k v (f_X3_write p1 p2 p3 s) := by
  unfold f_X3_write
  repeat' (first
    | with_reducible exact zf_none
    | (with_reducible refine zf_some ?_); assumption
    | with_reducible assumption
    | exact (zUp_off (by omega)).trans (by assumption)
    | exact (congrFun (zCp_off (by omega)) _).trans (by assumption)
    | with_reducible apply zf_nmM
    | with_reducible apply zf_nmV
    | with_reducible apply zf_nmL
    | with_reducible apply zf_gd
    | with_reducible apply zf_ite
    | with_reducible apply zf_bd
    | with_reducible apply fr_X3_write_16 a k
    | intro _
    | omega
    )
theorem fr_X6_film_60 {v : Int32} (a k : Nat) (hn : ¬ (a = 4 ∨ (a = 20 ∧ (k = 9 ∨ k = 10 ∨ k = 11 ∨ k = 12)) ∨ a = 21 ∨ a = 22 ∨ a = 23 ∨ a = 24 ∨ a = 25 ∨ a = 26 ∨ a = 27 ∨ a = 28 ∨ a = 29 ∨ a = 30 ∨ a = 43 ∨ a = 44 ∨ a = 45))  : ∀ {n : Nat} {x11 : Int32} {x12 : Int32} {x13 : Int32} {x14 : Int32} {s : zMem}, s a k = v → zFp a k v (f_X6_film_60 n x11 x12 x13 x14 s) := by
  intro n
  induction n with
  | zero => intros; exact zf_none
  | succ n ih =>
    intros
    rw [f_X6_film_60]
    repeat' (first
      | with_reducible exact zf_none
      | (with_reducible refine zf_some ?_); assumption
      | with_reducible assumption
      | exact (zUp_off (by omega)).trans (by assumption)
      | exact (congrFun (zCp_off (by omega)) _).trans (by assumption)
      | with_reducible apply zf_nmM
      | with_reducible apply zf_nmV
      | with_reducible apply zf_nmL
      | with_reducible apply zf_gd
      | with_reducible apply zf_ite
      | with_reducible apply zf_bd
      | with_reducible apply ih
      | with_reducible apply fr_X3_isSheet a k
      | with_reducible apply fr_X3_renew a k
      | with_reducible apply fr_X3_write a k
      | with_reducible apply fr_X5_isHut a k
      | with_reducible apply fr_X5_passNight a k
      | with_reducible apply fr_X6_isFromTo a k
      | with_reducible apply fr_X6_think a k
      | intro _
      | omega
      )
theorem fr_X6_film {v : Int32} (a k : Nat) (hn : ¬ (a = 4 ∨ (a = 20 ∧ (k = 9 ∨ k = 10 ∨ k = 11 ∨ k = 12)) ∨ a = 21 ∨ a = 22 ∨ a = 23 ∨ a = 24 ∨ a = 25 ∨ a = 26 ∨ a = 27 ∨ a = 28 ∨ a = 29 ∨ a = 30 ∨ a = 43 ∨ a = 44 ∨ a = 45)) {p1 : Int32} {p2 : Int32} {p3 : Int32} {s : zMem} (hs : s a k = v) : zFp a k v (f_X6_film p1 p2 p3 s) := by
  unfold f_X6_film
  repeat' (first
    | with_reducible exact zf_none
    | (with_reducible refine zf_some ?_); assumption
    | with_reducible assumption
    | exact (zUp_off (by omega)).trans (by assumption)
    | exact (congrFun (zCp_off (by omega)) _).trans (by assumption)
    | with_reducible apply zf_nmM
    | with_reducible apply zf_nmV
    | with_reducible apply zf_nmL
    | with_reducible apply zf_gd
    | with_reducible apply zf_ite
    | with_reducible apply zf_bd
    | with_reducible apply fr_X3_isSheet a k
    | with_reducible apply fr_X3_renew a k
    | with_reducible apply fr_X3_write a k
    | with_reducible apply fr_X5_isHut a k
    | with_reducible apply fr_X5_passNight a k
    | with_reducible apply fr_X6_isFromTo a k
    | with_reducible apply fr_X6_think a k
    | with_reducible apply fr_X6_film_60 a k
    | intro _
    | omega
    )
theorem fr_X5_passSnow_20 {v : Int32} {w : Nat} (a k : Nat) (hn : ¬ (a = 4 ∨ (a = w ∧ (k = 10 ∨ k = 11)) ∨ a = (w + 1) ∨ a = (w + 2) ∨ a = (w + 3) ∨ a = (w + 6) ∨ a = (w + 7) ∨ a = (w + 8) ∨ a = (w + 9) ∨ a = (w + 10)))  : ∀ {n : Nat} {x2 : Int32} {x3 : Int32} {x4 : Int64} {x5 : Int32} {s : zMem}, s a k = v → zFp a k v (f_X5_passSnow_20 w n x2 x3 x4 x5 s) := by
  intro n
  induction n with
  | zero => intros; exact zf_none
  | succ n ih =>
    intros
    rw [f_X5_passSnow_20]
    repeat' (first
      | with_reducible exact zf_none
      | (with_reducible refine zf_some ?_); assumption
      | with_reducible assumption
      | exact (zUp_off (by omega)).trans (by assumption)
      | exact (congrFun (zCp_off (by omega)) _).trans (by assumption)
      | with_reducible apply zf_nmM
      | with_reducible apply zf_nmV
      | with_reducible apply zf_nmL
      | with_reducible apply zf_gd
      | with_reducible apply zf_ite
      | with_reducible apply zf_bd
      | with_reducible apply ih
      | with_reducible apply fr_X5_passNight a k
      | intro _
      | omega
      )
theorem fr_X5_passSnow {v : Int32} {w : Nat} (a k : Nat) (hn : ¬ (a = 4 ∨ (a = w ∧ (k = 10 ∨ k = 11)) ∨ a = (w + 1) ∨ a = (w + 2) ∨ a = (w + 3) ∨ a = (w + 6) ∨ a = (w + 7) ∨ a = (w + 8) ∨ a = (w + 9) ∨ a = (w + 10))) {p1 : Int32} {p2 : Int32} {s : zMem} (hs : s a k = v) : zFp a k v (f_X5_passSnow w p1 p2 s) := by
  unfold f_X5_passSnow
  repeat' (first
    | with_reducible exact zf_none
    | (with_reducible refine zf_some ?_); assumption
    | with_reducible assumption
    | exact (zUp_off (by omega)).trans (by assumption)
    | exact (congrFun (zCp_off (by omega)) _).trans (by assumption)
    | with_reducible apply zf_nmM
    | with_reducible apply zf_nmV
    | with_reducible apply zf_nmL
    | with_reducible apply zf_gd
    | with_reducible apply zf_ite
    | with_reducible apply zf_bd
    | with_reducible apply fr_X5_passNight a k
    | with_reducible apply fr_X5_passSnow_20 a k
    | intro _
    | omega
    )
theorem fr_X6_isSnow {v : Int32} (a k : Nat) (hn : ¬ (False)) {p1 : Int32} {p2 : Int32} {s : zMem} (hs : s a k = v) : zFp a k v (f_X6_isSnow p1 p2 s) := by
  unfold f_X6_isSnow
  repeat' (first
    | with_reducible exact zf_none
    | (with_reducible refine zf_some ?_); assumption
    | with_reducible assumption
    | exact (zUp_off (by omega)).trans (by assumption)
    | exact (congrFun (zCp_off (by omega)) _).trans (by assumption)
    | with_reducible apply zf_nmM
    | with_reducible apply zf_nmV
    | with_reducible apply zf_nmL
    | with_reducible apply zf_gd
    | with_reducible apply zf_ite
    | with_reducible apply zf_bd
    | with_reducible apply fr_X6_isFromTo a k
    | intro _
    | omega
    )
theorem fr_X6_drawn {v : Int32} (a k : Nat) (hn : ¬ (a = 4 ∨ (a = 20 ∧ (k = 9 ∨ k = 10 ∨ k = 11 ∨ k = 12)) ∨ a = 21 ∨ a = 22 ∨ a = 23 ∨ a = 24 ∨ a = 25 ∨ a = 26 ∨ a = 27 ∨ a = 28 ∨ a = 29 ∨ a = 30)) {p1 : Int32} {p2 : Int32} {p3 : Int32} {s : zMem} (hs : s a k = v) : zFp a k v (f_X6_drawn p1 p2 p3 s) := by
  unfold f_X6_drawn
  repeat' (first
    | with_reducible exact zf_none
    | (with_reducible refine zf_some ?_); assumption
    | with_reducible assumption
    | exact (zUp_off (by omega)).trans (by assumption)
    | exact (congrFun (zCp_off (by omega)) _).trans (by assumption)
    | with_reducible apply zf_nmM
    | with_reducible apply zf_nmV
    | with_reducible apply zf_nmL
    | with_reducible apply zf_gd
    | with_reducible apply zf_ite
    | with_reducible apply zf_bd
    | with_reducible apply fr_X5_heatOfAll a k
    | with_reducible apply fr_X5_passSnow a k
    | with_reducible apply fr_X6_isFromTo a k
    | with_reducible apply fr_X6_isSnow a k
    | with_reducible apply fr_X6_think a k
    | intro _
    | omega
    )
theorem fr_X6_greatestShared_2 {v : Int32} (a k : Nat) (hn : ¬ (False))  : ∀ {n : Nat} {x1 : Int32} {x2 : Int32} {x3 : Int32} {s : zMem}, s a k = v → zFp a k v (f_X6_greatestShared_2 n x1 x2 x3 s) := by
  intro n
  induction n with
  | zero => intros; exact zf_none
  | succ n ih =>
    intros
    rw [f_X6_greatestShared_2]
    repeat' (first
      | with_reducible exact zf_none
      | (with_reducible refine zf_some ?_); assumption
      | with_reducible assumption
      | exact (zUp_off (by omega)).trans (by assumption)
      | exact (congrFun (zCp_off (by omega)) _).trans (by assumption)
      | with_reducible apply zf_nmM
      | with_reducible apply zf_nmV
      | with_reducible apply zf_nmL
      | with_reducible apply zf_gd
      | with_reducible apply zf_ite
      | with_reducible apply zf_bd
      | with_reducible apply ih
      | intro _
      | omega
      )
theorem fr_X6_greatestShared {v : Int32} (a k : Nat) (hn : ¬ (False)) {p1 : Int32} {p2 : Int32} {s : zMem} (hs : s a k = v) : zFp a k v (f_X6_greatestShared p1 p2 s) := by
  unfold f_X6_greatestShared
  repeat' (first
    | with_reducible exact zf_none
    | (with_reducible refine zf_some ?_); assumption
    | with_reducible assumption
    | exact (zUp_off (by omega)).trans (by assumption)
    | exact (congrFun (zCp_off (by omega)) _).trans (by assumption)
    | with_reducible apply zf_nmM
    | with_reducible apply zf_nmV
    | with_reducible apply zf_nmL
    | with_reducible apply zf_gd
    | with_reducible apply zf_ite
    | with_reducible apply zf_bd
    | with_reducible apply fr_X6_greatestShared_2 a k
    | intro _
    | omega
    )
theorem fr_X6_odds_49 {v : Int32} {c84 : Int32 → Int32 → Int32 → zMem → Option (Int64 × zMem)} (a k : Nat) (hn : ¬ (a = 4 ∨ (a = 20 ∧ (k = 9 ∨ k = 10 ∨ k = 11 ∨ k = 12)) ∨ a = 21 ∨ a = 22 ∨ a = 23 ∨ a = 24 ∨ a = 25 ∨ a = 26 ∨ a = 27 ∨ a = 28 ∨ a = 29 ∨ a = 30))  (hc84 : ∀ (y1 : Int32) (y2 : Int32) (y3 : Int32) (s9 : zMem), s9 a k = v → zFp a k v (c84 y1 y2 y3 s9)) : ∀ {n : Nat} {x9 : Int32} {x10 : Int32} {x11 : Int32} {x12 : Int32} {x13 : Int32} {x14 : Int32} {x15 : Int32} {s : zMem}, s a k = v → zFp a k v (f_X6_odds_49 c84 n x9 x10 x11 x12 x13 x14 x15 s) := by
  intro n
  induction n with
  | zero => intros; exact zf_none
  | succ n ih =>
    intros
    rw [f_X6_odds_49]
    repeat' (first
      | with_reducible exact zf_none
      | (with_reducible refine zf_some ?_); assumption
      | with_reducible assumption
      | exact (zUp_off (by omega)).trans (by assumption)
      | exact (congrFun (zCp_off (by omega)) _).trans (by assumption)
      | with_reducible apply zf_nmM
      | with_reducible apply zf_nmV
      | with_reducible apply zf_nmL
      | with_reducible apply zf_gd
      | with_reducible apply zf_ite
      | with_reducible apply zf_bd
      | with_reducible apply ih
      | with_reducible apply hc84
      | with_reducible apply fr_J6_bitCount_0f7a4 a k
      | with_reducible apply fr_X5_passSnow a k
      | with_reducible apply fr_X6_greatestShared a k
      | with_reducible apply fr_X6_isFromTo a k
      | with_reducible apply fr_X6_isSnow a k
      | with_reducible apply fr_X6_think a k
      | intro _
      | omega
      )
theorem fr_X6_odds {v : Int32} (a k : Nat) (hn : ¬ (a = 4 ∨ (a = 20 ∧ (k = 9 ∨ k = 10 ∨ k = 11 ∨ k = 12)) ∨ a = 21 ∨ a = 22 ∨ a = 23 ∨ a = 24 ∨ a = 25 ∨ a = 26 ∨ a = 27 ∨ a = 28 ∨ a = 29 ∨ a = 30)) {p1 : Int32} {p2 : Int32} {p3 : Int32} {p4 : Int32} {p5 : Int32} {s : zMem} (hs : s a k = v) : zFp a k v (f_X6_odds p1 p2 p3 p4 p5 s) := by
  unfold f_X6_odds
  repeat' (first
    | with_reducible exact zf_none
    | (with_reducible refine zf_some ?_); assumption
    | with_reducible assumption
    | exact (zUp_off (by omega)).trans (by assumption)
    | exact (congrFun (zCp_off (by omega)) _).trans (by assumption)
    | with_reducible apply zf_nmM
    | with_reducible apply zf_nmV
    | with_reducible apply zf_nmL
    | with_reducible apply zf_gd
    | with_reducible apply zf_ite
    | with_reducible apply zf_bd
    | with_reducible apply fr_J6_bitCount_0f7a4 a k
    | with_reducible apply fr_X5_passSnow a k
    | with_reducible apply fr_X6_greatestShared a k
    | with_reducible apply fr_X6_isFromTo a k
    | with_reducible apply fr_X6_isSnow a k
    | with_reducible apply fr_X6_think a k
    | with_reducible apply fr_X6_odds_49 a k
    | intro _
    | omega
    )
theorem fr_X6_image {v : Int32} (a k : Nat) (hn : ¬ ((a = 0 ∧ (k = 7)) ∨ (a = 31 ∧ (k = 9 ∨ k = 10 ∨ k = 11 ∨ k = 12)) ∨ a = 32 ∨ a = 33 ∨ a = 34 ∨ a = 35 ∨ a = 36 ∨ a = 37 ∨ a = 38 ∨ a = 39 ∨ a = 40))  {s : zMem} (hs : s a k = v) : zFp a k v (f_X6_image s) := by
  unfold f_X6_image
  repeat' (first
    | with_reducible exact zf_none
    | (with_reducible refine zf_some ?_); assumption
    | with_reducible assumption
    | exact (zUp_off (by omega)).trans (by assumption)
    | exact (congrFun (zCp_off (by omega)) _).trans (by assumption)
    | with_reducible apply zf_nmM
    | with_reducible apply zf_nmV
    | with_reducible apply zf_nmL
    | with_reducible apply zf_gd
    | with_reducible apply zf_ite
    | with_reducible apply zf_bd
    | with_reducible apply fr_X5_becomeAs a k
    | intro _
    | omega
    )
theorem fr_X6_back {v : Int32} (a k : Nat) (hn : ¬ ((a = 9 ∧ (k = 9 ∨ k = 10 ∨ k = 11 ∨ k = 12)) ∨ a = 10 ∨ a = 11 ∨ a = 12 ∨ a = 13 ∨ a = 14 ∨ a = 15 ∨ a = 16 ∨ a = 17 ∨ a = 18))  {s : zMem} (hs : s a k = v) : zFp a k v (f_X6_back s) := by
  unfold f_X6_back
  repeat' (first
    | with_reducible exact zf_none
    | (with_reducible refine zf_some ?_); assumption
    | with_reducible assumption
    | exact (zUp_off (by omega)).trans (by assumption)
    | exact (congrFun (zCp_off (by omega)) _).trans (by assumption)
    | with_reducible apply zf_nmM
    | with_reducible apply zf_nmV
    | with_reducible apply zf_nmL
    | with_reducible apply zf_gd
    | with_reducible apply zf_ite
    | with_reducible apply zf_bd
    | with_reducible apply fr_X5_becomeAs a k
    | intro _
    | omega
    )
theorem fr_X6_sheet_33 {v : Int32} (a k : Nat) (hn : ¬ (a = 43 ∨ a = 44 ∨ a = 45))  {x5 : Int32} {x6 : Int32} {t7 : Int32} {s : zMem} (hs : s a k = v) : zFp a k v (f_X6_sheet_33 x5 x6 t7 s) := by
  unfold f_X6_sheet_33
  repeat' (first
    | with_reducible exact zf_none
    | (with_reducible refine zf_some ?_); assumption
    | with_reducible assumption
    | exact (zUp_off (by omega)).trans (by assumption)
    | exact (congrFun (zCp_off (by omega)) _).trans (by assumption)
    | with_reducible apply zf_nmM
    | with_reducible apply zf_nmV
    | with_reducible apply zf_nmL
    | with_reducible apply zf_gd
    | with_reducible apply zf_ite
    | with_reducible apply zf_bd
    | with_reducible apply fr_X3_isSheet a k
    | with_reducible apply fr_X3_renew a k
    | with_reducible apply fr_X6_isFromTo a k
    | intro _
    | omega
    )
theorem fr_X6_sheet {v : Int32} (a k : Nat) (hn : ¬ (a = 43 ∨ a = 44 ∨ a = 45)) {p1 : Int32} {p2 : Int32} {p3 : Int32} {s : zMem} (hs : s a k = v) : zFp a k v (f_X6_sheet p1 p2 p3 s) := by
  unfold f_X6_sheet
  repeat' (first
    | with_reducible exact zf_none
    | (with_reducible refine zf_some ?_); assumption
    | with_reducible assumption
    | exact (zUp_off (by omega)).trans (by assumption)
    | exact (congrFun (zCp_off (by omega)) _).trans (by assumption)
    | with_reducible apply zf_nmM
    | with_reducible apply zf_nmV
    | with_reducible apply zf_nmL
    | with_reducible apply zf_gd
    | with_reducible apply zf_ite
    | with_reducible apply zf_bd
    | with_reducible apply fr_X3_isSheet a k
    | with_reducible apply fr_X3_renew a k
    | with_reducible apply fr_X6_isFromTo a k
    | with_reducible apply fr_X6_sheet_33 a k
    | intro _
    | omega
    )
theorem fr_X3_isPlace {v : Int32} (a k : Nat) (hn : ¬ (False)) {p1 : Int32} {p2 : Int32} {s : zMem} (hs : s a k = v) : zFp a k v (f_X3_isPlace p1 p2 s) := by
  unfold f_X3_isPlace
  repeat' (first
    | with_reducible exact zf_none
    | (with_reducible refine zf_some ?_); assumption
    | with_reducible assumption
    | exact (zUp_off (by omega)).trans (by assumption)
    | exact (congrFun (zCp_off (by omega)) _).trans (by assumption)
    | with_reducible apply zf_nmM
    | with_reducible apply zf_nmV
    | with_reducible apply zf_nmL
    | with_reducible apply zf_gd
    | with_reducible apply zf_ite
    | with_reducible apply zf_bd
    | intro _
    | omega
    )
theorem fr_X6_cell {v : Int32} (a k : Nat) (hn : ¬ (a = 45)) {p1 : Int32} {p2 : Int32} {p3 : Int32} {s : zMem} (hs : s a k = v) : zFp a k v (f_X6_cell p1 p2 p3 s) := by
  unfold f_X6_cell
  repeat' (first
    | with_reducible exact zf_none
    | (with_reducible refine zf_some ?_); assumption
    | with_reducible assumption
    | exact (zUp_off (by omega)).trans (by assumption)
    | exact (congrFun (zCp_off (by omega)) _).trans (by assumption)
    | with_reducible apply zf_nmM
    | with_reducible apply zf_nmV
    | with_reducible apply zf_nmL
    | with_reducible apply zf_gd
    | with_reducible apply zf_ite
    | with_reducible apply zf_bd
    | with_reducible apply fr_X3_isMissing a k
    | with_reducible apply fr_X3_isPlace a k
    | with_reducible apply fr_X3_isSheet a k
    | with_reducible apply fr_X3_write a k
    | intro _
    | omega
    )
theorem fr_X3_isStretch {v : Int32} (a k : Nat) (hn : ¬ (False)) {p1 : Int32} {p2 : Int32} {p3 : Int32} {s : zMem} (hs : s a k = v) : zFp a k v (f_X3_isStretch p1 p2 p3 s) := by
  unfold f_X3_isStretch
  repeat' (first
    | with_reducible exact zf_none
    | (with_reducible refine zf_some ?_); assumption
    | with_reducible assumption
    | exact (zUp_off (by omega)).trans (by assumption)
    | exact (congrFun (zCp_off (by omega)) _).trans (by assumption)
    | with_reducible apply zf_nmM
    | with_reducible apply zf_nmV
    | with_reducible apply zf_nmL
    | with_reducible apply zf_gd
    | with_reducible apply zf_ite
    | with_reducible apply zf_bd
    | intro _
    | omega
    )
theorem fr_X3_move {v : Int32} (a k : Nat) (hn : ¬ (a = 45)) {p1 : Int32} {p2 : Int32} {p3 : Int32} {p4 : Int32} {p5 : Int32} {s : zMem} (hs : s a k = v) : zFp a k v (f_X3_move p1 p2 p3 p4 p5 s) := by
  unfold f_X3_move
  repeat' (first
    | with_reducible exact zf_none
    | (with_reducible refine zf_some ?_); assumption
    | with_reducible assumption
    | exact (zUp_off (by omega)).trans (by assumption)
    | exact (congrFun (zCp_off (by omega)) _).trans (by assumption)
    | with_reducible apply zf_nmM
    | with_reducible apply zf_nmV
    | with_reducible apply zf_nmL
    | with_reducible apply zf_gd
    | with_reducible apply zf_ite
    | with_reducible apply zf_bd
    | intro _
    | omega
    )
theorem fr_X3_sortOf {v : Int32} (a k : Nat) (hn : ¬ (False)) {p1 : Int32} {s : zMem} (hs : s a k = v) : zFp a k v (f_X3_sortOf p1 s) := by
  unfold f_X3_sortOf
  repeat' (first
    | with_reducible exact zf_none
    | (with_reducible refine zf_some ?_); assumption
    | with_reducible assumption
    | exact (zUp_off (by omega)).trans (by assumption)
    | exact (congrFun (zCp_off (by omega)) _).trans (by assumption)
    | with_reducible apply zf_nmM
    | with_reducible apply zf_nmV
    | with_reducible apply zf_nmL
    | with_reducible apply zf_gd
    | with_reducible apply zf_ite
    | with_reducible apply zf_bd
    | intro _
    | omega
    )
theorem fr_X6_copy {v : Int32} (a k : Nat) (hn : ¬ (a = 45)) {p1 : Int32} {p2 : Int32} {p3 : Int32} {p4 : Int32} {p5 : Int32} {s : zMem} (hs : s a k = v) : zFp a k v (f_X6_copy p1 p2 p3 p4 p5 s) := by
  unfold f_X6_copy
  repeat' (first
    | with_reducible exact zf_none
    | (with_reducible refine zf_some ?_); assumption
    | with_reducible assumption
    | exact (zUp_off (by omega)).trans (by assumption)
    | exact (congrFun (zCp_off (by omega)) _).trans (by assumption)
    | with_reducible apply zf_nmM
    | with_reducible apply zf_nmV
    | with_reducible apply zf_nmL
    | with_reducible apply zf_gd
    | with_reducible apply zf_ite
    | with_reducible apply zf_bd
    | with_reducible apply fr_X3_isMissing a k
    | with_reducible apply fr_X3_isSheet a k
    | with_reducible apply fr_X3_isStretch a k
    | with_reducible apply fr_X3_move a k
    | with_reducible apply fr_X3_sortOf a k
    | intro _
    | omega
    )
theorem fr_X6_hutsBy_69 {v : Int32} (a k : Nat) (hn : ¬ ((a = 9 ∧ (k = 9)) ∨ a = 10 ∨ a = 11 ∨ a = 12 ∨ a = 13 ∨ a = 14))  : ∀ {n : Nat} {x11 : Int32} {x12 : Int32} {x13 : Int32} {x14 : Int32} {x15 : Int32} {s : zMem}, s a k = v → zFp a k v (f_X6_hutsBy_69 n x11 x12 x13 x14 x15 s) := by
  intro n
  induction n with
  | zero => intros; exact zf_none
  | succ n ih =>
    intros
    rw [f_X6_hutsBy_69]
    repeat' (first
      | with_reducible exact zf_none
      | (with_reducible refine zf_some ?_); assumption
      | with_reducible assumption
      | exact (zUp_off (by omega)).trans (by assumption)
      | exact (congrFun (zCp_off (by omega)) _).trans (by assumption)
      | with_reducible apply zf_nmM
      | with_reducible apply zf_nmV
      | with_reducible apply zf_nmL
      | with_reducible apply zf_gd
      | with_reducible apply zf_ite
      | with_reducible apply zf_bd
      | with_reducible apply ih
      | with_reducible apply fr_X3_at a k
      | with_reducible apply fr_X3_isMissing a k
      | with_reducible apply fr_X3_isSheet a k
      | with_reducible apply fr_X3_isStretch a k
      | with_reducible apply fr_X3_sortOf a k
      | with_reducible apply fr_X5_comes a k
      | with_reducible apply fr_X6_isFromTo a k
      | intro _
      | omega
      )
theorem fr_X6_hutsBy {v : Int32} (a k : Nat) (hn : ¬ ((a = 9 ∧ (k = 9)) ∨ a = 10 ∨ a = 11 ∨ a = 12 ∨ a = 13 ∨ a = 14)) {p1 : Int32} {p2 : Int32} {p3 : Int32} {p4 : Int32} {s : zMem} (hs : s a k = v) : zFp a k v (f_X6_hutsBy p1 p2 p3 p4 s) := by
  unfold f_X6_hutsBy
  repeat' (first
    | with_reducible exact zf_none
    | (with_reducible refine zf_some ?_); assumption
    | with_reducible assumption
    | exact (zUp_off (by omega)).trans (by assumption)
    | exact (congrFun (zCp_off (by omega)) _).trans (by assumption)
    | with_reducible apply zf_nmM
    | with_reducible apply zf_nmV
    | with_reducible apply zf_nmL
    | with_reducible apply zf_gd
    | with_reducible apply zf_ite
    | with_reducible apply zf_bd
    | with_reducible apply fr_X3_at a k
    | with_reducible apply fr_X3_isMissing a k
    | with_reducible apply fr_X3_isSheet a k
    | with_reducible apply fr_X3_isStretch a k
    | with_reducible apply fr_X3_sortOf a k
    | with_reducible apply fr_X5_comes a k
    | with_reducible apply fr_X6_isFromTo a k
    | with_reducible apply fr_X6_hutsBy_69 a k
    | intro _
    | omega
    )
theorem fr_X1_isOne_4 {v : Int32} (a k : Nat) (hn : ¬ (False))  : ∀ {n : Nat} {x1 : Int32} {x2 : Int32} {x3 : Int32} {s : zMem}, s a k = v → zFp a k v (f_X1_isOne_4 n x1 x2 x3 s) := by
  intro n
  induction n with
  | zero => intros; exact zf_none
  | succ n ih =>
    intros
    rw [f_X1_isOne_4]
    repeat' (first
      | with_reducible exact zf_none
      | (with_reducible refine zf_some ?_); assumption
      | with_reducible assumption
      | exact (zUp_off (by omega)).trans (by assumption)
      | exact (congrFun (zCp_off (by omega)) _).trans (by assumption)
      | with_reducible apply zf_nmM
      | with_reducible apply zf_nmV
      | with_reducible apply zf_nmL
      | with_reducible apply zf_gd
      | with_reducible apply zf_ite
      | with_reducible apply zf_bd
      | with_reducible apply ih
      | intro _
      | omega
      )
theorem fr_X1_isOne {v : Int32} (a k : Nat) (hn : ¬ (False)) {p1 : Int32} {p2 : Int32} {s : zMem} (hs : s a k = v) : zFp a k v (f_X1_isOne p1 p2 s) := by
  unfold f_X1_isOne
  repeat' (first
    | with_reducible exact zf_none
    | (with_reducible refine zf_some ?_); assumption
    | with_reducible assumption
    | exact (zUp_off (by omega)).trans (by assumption)
    | exact (congrFun (zCp_off (by omega)) _).trans (by assumption)
    | with_reducible apply zf_nmM
    | with_reducible apply zf_nmV
    | with_reducible apply zf_nmL
    | with_reducible apply zf_gd
    | with_reducible apply zf_ite
    | with_reducible apply zf_bd
    | with_reducible apply fr_X1_isOne_4 a k
    | intro _
    | omega
    )
theorem fr_X6_taken_55 {v : Int32} (a k : Nat) (hn : ¬ (False))  {x8 : Int32} {x9 : Int32} {x10 : Int32} {t11 : Int32} {s : zMem} (hs : s a k = v) : zFp a k v (f_X6_taken_55 x8 x9 x10 t11 s) := by
  unfold f_X6_taken_55
  repeat' (first
    | with_reducible exact zf_none
    | (with_reducible refine zf_some ?_); assumption
    | with_reducible assumption
    | exact (zUp_off (by omega)).trans (by assumption)
    | exact (congrFun (zCp_off (by omega)) _).trans (by assumption)
    | with_reducible apply zf_nmM
    | with_reducible apply zf_nmV
    | with_reducible apply zf_nmL
    | with_reducible apply zf_gd
    | with_reducible apply zf_ite
    | with_reducible apply zf_bd
    | with_reducible apply fr_X1_isOne a k
    | with_reducible apply fr_X5_isHut a k
    | with_reducible apply fr_X6_isFromTo a k
    | intro _
    | omega
    )
theorem fr_X6_taken {v : Int32} (a k : Nat) (hn : ¬ (False)) {p1 : Int32} {p2 : Int32} {s : zMem} (hs : s a k = v) : zFp a k v (f_X6_taken p1 p2 s) := by
  unfold f_X6_taken
  repeat' (first
    | with_reducible exact zf_none
    | (with_reducible refine zf_some ?_); assumption
    | with_reducible assumption
    | exact (zUp_off (by omega)).trans (by assumption)
    | exact (congrFun (zCp_off (by omega)) _).trans (by assumption)
    | with_reducible apply zf_nmM
    | with_reducible apply zf_nmV
    | with_reducible apply zf_nmL
    | with_reducible apply zf_gd
    | with_reducible apply zf_ite
    | with_reducible apply zf_bd
    | with_reducible apply fr_X1_isOne a k
    | with_reducible apply fr_X5_isHut a k
    | with_reducible apply fr_X6_isFromTo a k
    | with_reducible apply fr_X6_taken_55 a k
    | intro _
    | omega
    )
theorem fr_X7_in {v : Int32} (a k : Nat) (hn : ¬ (False)) {p1 : Int32} {p2 : Int32} {p3 : Int32} {s : zMem} (hs : s a k = v) : zFp a k v (f_X7_in p1 p2 p3 s) := by
  unfold f_X7_in
  repeat' (first
    | with_reducible exact zf_none
    | (with_reducible refine zf_some ?_); assumption
    | with_reducible assumption
    | exact (zUp_off (by omega)).trans (by assumption)
    | exact (congrFun (zCp_off (by omega)) _).trans (by assumption)
    | with_reducible apply zf_nmM
    | with_reducible apply zf_nmV
    | with_reducible apply zf_nmL
    | with_reducible apply zf_gd
    | with_reducible apply zf_ite
    | with_reducible apply zf_bd
    | intro _
    | omega
    )
theorem fr_X7_within {v : Int32} (a k : Nat) (hn : ¬ (False)) {p1 : Int32} {p2 : Int32} {p3 : Int32} {s : zMem} (hs : s a k = v) : zFp a k v (f_X7_within p1 p2 p3 s) := by
  unfold f_X7_within
  repeat' (first
    | with_reducible exact zf_none
    | (with_reducible refine zf_some ?_); assumption
    | with_reducible assumption
    | exact (zUp_off (by omega)).trans (by assumption)
    | exact (congrFun (zCp_off (by omega)) _).trans (by assumption)
    | with_reducible apply zf_nmM
    | with_reducible apply zf_nmV
    | with_reducible apply zf_nmL
    | with_reducible apply zf_gd
    | with_reducible apply zf_ite
    | with_reducible apply zf_bd
    | intro _
    | omega
    )
theorem fr_X7_isHut {v : Int32} (a k : Nat) (hn : ¬ (False)) {p1 : Int32} {s : zMem} (hs : s a k = v) : zFp a k v (f_X7_isHut p1 s) := by
  unfold f_X7_isHut
  repeat' (first
    | with_reducible exact zf_none
    | (with_reducible refine zf_some ?_); assumption
    | with_reducible assumption
    | exact (zUp_off (by omega)).trans (by assumption)
    | exact (congrFun (zCp_off (by omega)) _).trans (by assumption)
    | with_reducible apply zf_nmM
    | with_reducible apply zf_nmV
    | with_reducible apply zf_nmL
    | with_reducible apply zf_gd
    | with_reducible apply zf_ite
    | with_reducible apply zf_bd
    | with_reducible apply fr_X7_in a k
    | intro _
    | omega
    )
theorem fr_X7_isLoan {v : Int32} (a k : Nat) (hn : ¬ (False)) {p1 : Int32} {s : zMem} (hs : s a k = v) : zFp a k v (f_X7_isLoan p1 s) := by
  unfold f_X7_isLoan
  repeat' (first
    | with_reducible exact zf_none
    | (with_reducible refine zf_some ?_); assumption
    | with_reducible assumption
    | exact (zUp_off (by omega)).trans (by assumption)
    | exact (congrFun (zCp_off (by omega)) _).trans (by assumption)
    | with_reducible apply zf_nmM
    | with_reducible apply zf_nmV
    | with_reducible apply zf_nmL
    | with_reducible apply zf_gd
    | with_reducible apply zf_ite
    | with_reducible apply zf_bd
    | with_reducible apply fr_X7_in a k
    | intro _
    | omega
    )
theorem fr_X7_owedBy_4 {v : Int32} (a k : Nat) (hn : ¬ (False))  : ∀ {n : Nat} {x1 : Int32} {x2 : Int32} {x3 : Int32} {s : zMem}, s a k = v → zFp a k v (f_X7_owedBy_4 n x1 x2 x3 s) := by
  intro n
  induction n with
  | zero => intros; exact zf_none
  | succ n ih =>
    intros
    rw [f_X7_owedBy_4]
    repeat' (first
      | with_reducible exact zf_none
      | (with_reducible refine zf_some ?_); assumption
      | with_reducible assumption
      | exact (zUp_off (by omega)).trans (by assumption)
      | exact (congrFun (zCp_off (by omega)) _).trans (by assumption)
      | with_reducible apply zf_nmM
      | with_reducible apply zf_nmV
      | with_reducible apply zf_nmL
      | with_reducible apply zf_gd
      | with_reducible apply zf_ite
      | with_reducible apply zf_bd
      | with_reducible apply ih
      | intro _
      | omega
      )
theorem fr_X7_owedBy {v : Int32} (a k : Nat) (hn : ¬ (False)) {p1 : Int32} {s : zMem} (hs : s a k = v) : zFp a k v (f_X7_owedBy p1 s) := by
  unfold f_X7_owedBy
  repeat' (first
    | with_reducible exact zf_none
    | (with_reducible refine zf_some ?_); assumption
    | with_reducible assumption
    | exact (zUp_off (by omega)).trans (by assumption)
    | exact (congrFun (zCp_off (by omega)) _).trans (by assumption)
    | with_reducible apply zf_nmM
    | with_reducible apply zf_nmV
    | with_reducible apply zf_nmL
    | with_reducible apply zf_gd
    | with_reducible apply zf_ite
    | with_reducible apply zf_bd
    | with_reducible apply fr_X7_owedBy_4 a k
    | intro _
    | omega
    )
theorem fr_X7_owedTo_4 {v : Int32} (a k : Nat) (hn : ¬ (False))  : ∀ {n : Nat} {x1 : Int32} {x2 : Int32} {x3 : Int32} {s : zMem}, s a k = v → zFp a k v (f_X7_owedTo_4 n x1 x2 x3 s) := by
  intro n
  induction n with
  | zero => intros; exact zf_none
  | succ n ih =>
    intros
    rw [f_X7_owedTo_4]
    repeat' (first
      | with_reducible exact zf_none
      | (with_reducible refine zf_some ?_); assumption
      | with_reducible assumption
      | exact (zUp_off (by omega)).trans (by assumption)
      | exact (congrFun (zCp_off (by omega)) _).trans (by assumption)
      | with_reducible apply zf_nmM
      | with_reducible apply zf_nmV
      | with_reducible apply zf_nmL
      | with_reducible apply zf_gd
      | with_reducible apply zf_ite
      | with_reducible apply zf_bd
      | with_reducible apply ih
      | intro _
      | omega
      )
theorem fr_X7_owedTo {v : Int32} (a k : Nat) (hn : ¬ (False)) {p1 : Int32} {s : zMem} (hs : s a k = v) : zFp a k v (f_X7_owedTo p1 s) := by
  unfold f_X7_owedTo
  repeat' (first
    | with_reducible exact zf_none
    | (with_reducible refine zf_some ?_); assumption
    | with_reducible assumption
    | exact (zUp_off (by omega)).trans (by assumption)
    | exact (congrFun (zCp_off (by omega)) _).trans (by assumption)
    | with_reducible apply zf_nmM
    | with_reducible apply zf_nmV
    | with_reducible apply zf_nmL
    | with_reducible apply zf_gd
    | with_reducible apply zf_ite
    | with_reducible apply zf_bd
    | with_reducible apply fr_X7_owedTo_4 a k
    | intro _
    | omega
    )
theorem fr_X7_lentBy_4 {v : Int32} (a k : Nat) (hn : ¬ (False))  : ∀ {n : Nat} {x1 : Int32} {x2 : Int32} {x3 : Int32} {s : zMem}, s a k = v → zFp a k v (f_X7_lentBy_4 n x1 x2 x3 s) := by
  intro n
  induction n with
  | zero => intros; exact zf_none
  | succ n ih =>
    intros
    rw [f_X7_lentBy_4]
    repeat' (first
      | with_reducible exact zf_none
      | (with_reducible refine zf_some ?_); assumption
      | with_reducible assumption
      | exact (zUp_off (by omega)).trans (by assumption)
      | exact (congrFun (zCp_off (by omega)) _).trans (by assumption)
      | with_reducible apply zf_nmM
      | with_reducible apply zf_nmV
      | with_reducible apply zf_nmL
      | with_reducible apply zf_gd
      | with_reducible apply zf_ite
      | with_reducible apply zf_bd
      | with_reducible apply ih
      | intro _
      | omega
      )
theorem fr_X7_lentBy {v : Int32} (a k : Nat) (hn : ¬ (False)) {p1 : Int32} {s : zMem} (hs : s a k = v) : zFp a k v (f_X7_lentBy p1 s) := by
  unfold f_X7_lentBy
  repeat' (first
    | with_reducible exact zf_none
    | (with_reducible refine zf_some ?_); assumption
    | with_reducible assumption
    | exact (zUp_off (by omega)).trans (by assumption)
    | exact (congrFun (zCp_off (by omega)) _).trans (by assumption)
    | with_reducible apply zf_nmM
    | with_reducible apply zf_nmV
    | with_reducible apply zf_nmL
    | with_reducible apply zf_gd
    | with_reducible apply zf_ite
    | with_reducible apply zf_bd
    | with_reducible apply fr_X7_lentBy_4 a k
    | intro _
    | omega
    )
theorem fr_X7_heatAll_4 {v : Int32} (a k : Nat) (hn : ¬ (False))  : ∀ {n : Nat} {x1 : Int32} {x2 : Int32} {s : zMem}, s a k = v → zFp a k v (f_X7_heatAll_4 n x1 x2 s) := by
  intro n
  induction n with
  | zero => intros; exact zf_none
  | succ n ih =>
    intros
    rw [f_X7_heatAll_4]
    repeat' (first
      | with_reducible exact zf_none
      | (with_reducible refine zf_some ?_); assumption
      | with_reducible assumption
      | exact (zUp_off (by omega)).trans (by assumption)
      | exact (congrFun (zCp_off (by omega)) _).trans (by assumption)
      | with_reducible apply zf_nmM
      | with_reducible apply zf_nmV
      | with_reducible apply zf_nmL
      | with_reducible apply zf_gd
      | with_reducible apply zf_ite
      | with_reducible apply zf_bd
      | with_reducible apply ih
      | intro _
      | omega
      )
theorem fr_X7_heatAll {v : Int32} (a k : Nat) (hn : ¬ (False))  {s : zMem} (hs : s a k = v) : zFp a k v (f_X7_heatAll s) := by
  unfold f_X7_heatAll
  repeat' (first
    | with_reducible exact zf_none
    | (with_reducible refine zf_some ?_); assumption
    | with_reducible assumption
    | exact (zUp_off (by omega)).trans (by assumption)
    | exact (congrFun (zCp_off (by omega)) _).trans (by assumption)
    | with_reducible apply zf_nmM
    | with_reducible apply zf_nmV
    | with_reducible apply zf_nmL
    | with_reducible apply zf_gd
    | with_reducible apply zf_ite
    | with_reducible apply zf_bd
    | with_reducible apply fr_X7_heatAll_4 a k
    | intro _
    | omega
    )
theorem fr_X7_count {v : Int32} (a k : Nat) (hn : ¬ (False)) {p1 : Int32} {s : zMem} (hs : s a k = v) : zFp a k v (f_X7_count p1 s) := by
  unfold f_X7_count
  repeat' (first
    | with_reducible exact zf_none
    | (with_reducible refine zf_some ?_); assumption
    | with_reducible assumption
    | exact (zUp_off (by omega)).trans (by assumption)
    | exact (congrFun (zCp_off (by omega)) _).trans (by assumption)
    | with_reducible apply zf_nmM
    | with_reducible apply zf_nmV
    | with_reducible apply zf_nmL
    | with_reducible apply zf_gd
    | with_reducible apply zf_ite
    | with_reducible apply zf_bd
    | with_reducible apply fr_X7_heatAll a k
    | intro _
    | omega
    )
theorem fr_X7_isByte {v : Int32} (a k : Nat) (hn : ¬ (False)) {p1 : Int32} {s : zMem} (hs : s a k = v) : zFp a k v (f_X7_isByte p1 s) := by
  unfold f_X7_isByte
  repeat' (first
    | with_reducible exact zf_none
    | (with_reducible refine zf_some ?_); assumption
    | with_reducible assumption
    | exact (zUp_off (by omega)).trans (by assumption)
    | exact (congrFun (zCp_off (by omega)) _).trans (by assumption)
    | with_reducible apply zf_nmM
    | with_reducible apply zf_nmV
    | with_reducible apply zf_nmL
    | with_reducible apply zf_gd
    | with_reducible apply zf_ite
    | with_reducible apply zf_bd
    | with_reducible apply fr_X7_in a k
    | intro _
    | omega
    )
theorem fr_X7_feed_68 {v : Int32} (a k : Nat) (hn : ¬ ((a = 47 ∧ (k = 11)) ∨ a = 55))  : ∀ {n : Nat} {x13 : Int32} {x14 : Int32} {x15 : Int32} {x16 : Int32} {x17 : Int32} {x18 : Int32} {x19 : Int32} {s : zMem}, s a k = v → zFp a k v (f_X7_feed_68 n x13 x14 x15 x16 x17 x18 x19 s) := by
  intro n
  induction n with
  | zero => intros; exact zf_none
  | succ n ih =>
    intros
    rw [f_X7_feed_68]
    repeat' (first
      | with_reducible exact zf_none
      | (with_reducible refine zf_some ?_); assumption
      | with_reducible assumption
      | exact (zUp_off (by omega)).trans (by assumption)
      | exact (congrFun (zCp_off (by omega)) _).trans (by assumption)
      | with_reducible apply zf_nmM
      | with_reducible apply zf_nmV
      | with_reducible apply zf_nmL
      | with_reducible apply zf_gd
      | with_reducible apply zf_ite
      | with_reducible apply zf_bd
      | with_reducible apply ih
      | with_reducible apply fr_X7_in a k
      | with_reducible apply fr_X7_isByte a k
      | intro _
      | omega
      )
theorem fr_X7_feed {v : Int32} (a k : Nat) (hn : ¬ ((a = 47 ∧ (k = 11)) ∨ a = 55)) {p1 : Int32} {p2 : Int32} {p3 : Int32} {p4 : Int32} {p5 : Int32} {p6 : Int32} {s : zMem} (hs : s a k = v) : zFp a k v (f_X7_feed p1 p2 p3 p4 p5 p6 s) := by
  unfold f_X7_feed
  repeat' (first
    | with_reducible exact zf_none
    | (with_reducible refine zf_some ?_); assumption
    | with_reducible assumption
    | exact (zUp_off (by omega)).trans (by assumption)
    | exact (congrFun (zCp_off (by omega)) _).trans (by assumption)
    | with_reducible apply zf_nmM
    | with_reducible apply zf_nmV
    | with_reducible apply zf_nmL
    | with_reducible apply zf_gd
    | with_reducible apply zf_ite
    | with_reducible apply zf_bd
    | with_reducible apply fr_X7_in a k
    | with_reducible apply fr_X7_isByte a k
    | with_reducible apply fr_X7_feed_68 a k
    | intro _
    | omega
    )
theorem fr_X7_wordFrom_26 {v : Int32} {c88 : Int32 → Int32 → Int32 → Int32 → zMem → Option (Int32 × zMem)} (a k : Nat) (hn : ¬ (False))  (hc88 : ∀ (y1 : Int32) (y2 : Int32) (y3 : Int32) (y4 : Int32) (s9 : zMem), s9 a k = v → zFp a k v (c88 y1 y2 y3 y4 s9)) : ∀ {n : Nat} {x10 : Int32} {x11 : Int32} {x12 : Int32} {x13 : Int32} {x14 : Int32} {s : zMem}, s a k = v → zFp a k v (f_X7_wordFrom_26 c88 n x10 x11 x12 x13 x14 s) := by
  intro n
  induction n with
  | zero => intros; exact zf_none
  | succ n ih =>
    intros
    rw [f_X7_wordFrom_26]
    repeat' (first
      | with_reducible exact zf_none
      | (with_reducible refine zf_some ?_); assumption
      | with_reducible assumption
      | exact (zUp_off (by omega)).trans (by assumption)
      | exact (congrFun (zCp_off (by omega)) _).trans (by assumption)
      | with_reducible apply zf_nmM
      | with_reducible apply zf_nmV
      | with_reducible apply zf_nmL
      | with_reducible apply zf_gd
      | with_reducible apply zf_ite
      | with_reducible apply zf_bd
      | with_reducible apply ih
      | with_reducible apply hc88
      | intro _
      | omega
      )
theorem fr_X7_wordFrom_21 {v : Int32} {c2 : Int32 → Int32 → Int32 → zMem → Option (Int32 × zMem)} (a k : Nat) (hn : ¬ (False))  (hc2 : ∀ (y1 : Int32) (y2 : Int32) (y3 : Int32) (s9 : zMem), s9 a k = v → zFp a k v (c2 y1 y2 y3 s9)) {x5 : Int32} {x6 : Int32} {x7 : Int32} {t8 : Int32} {s : zMem} (hs : s a k = v) : zFp a k v (f_X7_wordFrom_21 c2 x5 x6 x7 t8 s) := by
  unfold f_X7_wordFrom_21
  repeat' (first
    | with_reducible exact zf_none
    | (with_reducible refine zf_some ?_); assumption
    | with_reducible assumption
    | exact (zUp_off (by omega)).trans (by assumption)
    | exact (congrFun (zCp_off (by omega)) _).trans (by assumption)
    | with_reducible apply zf_nmM
    | with_reducible apply zf_nmV
    | with_reducible apply zf_nmL
    | with_reducible apply zf_gd
    | with_reducible apply zf_ite
    | with_reducible apply zf_bd
    | with_reducible apply hc2
    | with_reducible apply fr_X7_wordFrom_26 a k
    | intro _
    | omega
    )
theorem fr_X7_wordFrom_2 {v : Int32} (a k : Nat) (hn : ¬ (False))  : ∀ {n : Nat} {x1 : Int32} {x2 : Int32} {x3 : Int32} {s : zMem}, s a k = v → zFp a k v (f_X7_wordFrom_2 n x1 x2 x3 s) := by
  intro n
  induction n with
  | zero => intros; exact zf_none
  | succ n ih =>
    intros
    rw [f_X7_wordFrom_2]
    repeat' (first
      | with_reducible exact zf_none
      | (with_reducible refine zf_some ?_); assumption
      | with_reducible assumption
      | exact (zUp_off (by omega)).trans (by assumption)
      | exact (congrFun (zCp_off (by omega)) _).trans (by assumption)
      | with_reducible apply zf_nmM
      | with_reducible apply zf_nmV
      | with_reducible apply zf_nmL
      | with_reducible apply zf_gd
      | with_reducible apply zf_ite
      | with_reducible apply zf_bd
      | with_reducible apply ih
      | with_reducible apply fr_X7_wordFrom_26 a k
      | with_reducible apply fr_X7_wordFrom_21 a k
      | intro _
      | omega
      )
theorem fr_X7_wordFrom {v : Int32} (a k : Nat) (hn : ¬ (False)) {p1 : Int32} {p2 : Int32} {s : zMem} (hs : s a k = v) : zFp a k v (f_X7_wordFrom p1 p2 s) := by
  unfold f_X7_wordFrom
  repeat' (first
    | with_reducible exact zf_none
    | (with_reducible refine zf_some ?_); assumption
    | with_reducible assumption
    | exact (zUp_off (by omega)).trans (by assumption)
    | exact (congrFun (zCp_off (by omega)) _).trans (by assumption)
    | with_reducible apply zf_nmM
    | with_reducible apply zf_nmV
    | with_reducible apply zf_nmL
    | with_reducible apply zf_gd
    | with_reducible apply zf_ite
    | with_reducible apply zf_bd
    | with_reducible apply fr_X7_wordFrom_26 a k
    | with_reducible apply fr_X7_wordFrom_21 a k
    | with_reducible apply fr_X7_wordFrom_2 a k
    | intro _
    | omega
    )
theorem fr_X7_next_0 {v : Int32} {c52 : zMem → Option (Unit × zMem)} (a k : Nat) (hn : ¬ ((a = 47 ∧ (k = 23 ∨ k = 24 ∨ k = 25 ∨ k = 26))))  (hc52 : ∀ (s9 : zMem), s9 a k = v → zFp a k v (c52 s9)) : ∀ {n : Nat}  {s : zMem}, s a k = v → zFp a k v (f_X7_next_0 c52 n  s) := by
  intro n
  induction n with
  | zero => intros; exact zf_none
  | succ n ih =>
    intros
    rw [f_X7_next_0]
    repeat' (first
      | with_reducible exact zf_none
      | (with_reducible refine zf_some ?_); assumption
      | with_reducible assumption
      | exact (zUp_off (by omega)).trans (by assumption)
      | exact (congrFun (zCp_off (by omega)) _).trans (by assumption)
      | with_reducible apply zf_nmM
      | with_reducible apply zf_nmV
      | with_reducible apply zf_nmL
      | with_reducible apply zf_gd
      | with_reducible apply zf_ite
      | with_reducible apply zf_bd
      | with_reducible apply ih
      | with_reducible apply hc52
      | with_reducible apply fr_X7_in a k
      | with_reducible apply fr_X7_wordFrom a k
      | intro _
      | omega
      )
theorem fr_X7_next_379 {v : Int32} (a k : Nat) (hn : ¬ ((a = 47 ∧ (k = 23 ∨ k = 24 ∨ k = 25 ∨ k = 26))))  {x16 : Int32} {t17 : Int32} {s : zMem} (hs : s a k = v) : zFp a k v (f_X7_next_379 x16 t17 s) := by
  unfold f_X7_next_379
  repeat' (first
    | with_reducible exact zf_none
    | (with_reducible refine zf_some ?_); assumption
    | with_reducible assumption
    | exact (zUp_off (by omega)).trans (by assumption)
    | exact (congrFun (zCp_off (by omega)) _).trans (by assumption)
    | with_reducible apply zf_nmM
    | with_reducible apply zf_nmV
    | with_reducible apply zf_nmL
    | with_reducible apply zf_gd
    | with_reducible apply zf_ite
    | with_reducible apply zf_bd
    | with_reducible apply fr_X7_in a k
    | with_reducible apply fr_X7_wordFrom a k
    | with_reducible apply fr_X7_next_0 a k
    | intro _
    | omega
    )
theorem fr_X7_next_374 {v : Int32} (a k : Nat) (hn : ¬ ((a = 47 ∧ (k = 23 ∨ k = 24 ∨ k = 25 ∨ k = 26))))  {x14 : Int32} {s : zMem} (hs : s a k = v) : zFp a k v (f_X7_next_374 x14 s) := by
  unfold f_X7_next_374
  repeat' (first
    | with_reducible exact zf_none
    | (with_reducible refine zf_some ?_); assumption
    | with_reducible assumption
    | exact (zUp_off (by omega)).trans (by assumption)
    | exact (congrFun (zCp_off (by omega)) _).trans (by assumption)
    | with_reducible apply zf_nmM
    | with_reducible apply zf_nmV
    | with_reducible apply zf_nmL
    | with_reducible apply zf_gd
    | with_reducible apply zf_ite
    | with_reducible apply zf_bd
    | with_reducible apply fr_X7_in a k
    | with_reducible apply fr_X7_wordFrom a k
    | with_reducible apply fr_X7_next_0 a k
    | with_reducible apply fr_X7_next_379 a k
    | intro _
    | omega
    )
theorem fr_X7_next_230 {v : Int32} {c309 : Int32 → zMem → Option (Unit × zMem)} (a k : Nat) (hn : ¬ ((a = 47 ∧ (k = 23 ∨ k = 24 ∨ k = 25 ∨ k = 26))))  (hc309 : ∀ (y1 : Int32) (s9 : zMem), s9 a k = v → zFp a k v (c309 y1 s9)) : ∀ {n : Nat} {x23 : Int32} {s : zMem}, s a k = v → zFp a k v (f_X7_next_230 c309 n x23 s) := by
  intro n
  induction n with
  | zero => intros; exact zf_none
  | succ n ih =>
    intros
    rw [f_X7_next_230]
    repeat' (first
      | with_reducible exact zf_none
      | (with_reducible refine zf_some ?_); assumption
      | with_reducible assumption
      | exact (zUp_off (by omega)).trans (by assumption)
      | exact (congrFun (zCp_off (by omega)) _).trans (by assumption)
      | with_reducible apply zf_nmM
      | with_reducible apply zf_nmV
      | with_reducible apply zf_nmL
      | with_reducible apply zf_gd
      | with_reducible apply zf_ite
      | with_reducible apply zf_bd
      | with_reducible apply ih
      | with_reducible apply hc309
      | with_reducible apply fr_X7_in a k
      | with_reducible apply fr_X7_wordFrom a k
      | with_reducible apply fr_X7_next_0 a k
      | with_reducible apply fr_X7_next_379 a k
      | with_reducible apply fr_X7_next_374 a k
      | intro _
      | omega
      )
theorem fr_X7_next_103 {v : Int32} {c146 : zMem → Option (Unit × zMem)} (a k : Nat) (hn : ¬ ((a = 47 ∧ (k = 23 ∨ k = 24 ∨ k = 25 ∨ k = 26))))  (hc146 : ∀ (s9 : zMem), s9 a k = v → zFp a k v (c146 s9)) : ∀ {n : Nat}  {s : zMem}, s a k = v → zFp a k v (f_X7_next_103 c146 n  s) := by
  intro n
  induction n with
  | zero => intros; exact zf_none
  | succ n ih =>
    intros
    rw [f_X7_next_103]
    repeat' (first
      | with_reducible exact zf_none
      | (with_reducible refine zf_some ?_); assumption
      | with_reducible assumption
      | exact (zUp_off (by omega)).trans (by assumption)
      | exact (congrFun (zCp_off (by omega)) _).trans (by assumption)
      | with_reducible apply zf_nmM
      | with_reducible apply zf_nmV
      | with_reducible apply zf_nmL
      | with_reducible apply zf_gd
      | with_reducible apply zf_ite
      | with_reducible apply zf_bd
      | with_reducible apply ih
      | with_reducible apply hc146
      | with_reducible apply fr_X7_in a k
      | with_reducible apply fr_X7_wordFrom a k
      | with_reducible apply fr_X7_next_0 a k
      | with_reducible apply fr_X7_next_379 a k
      | with_reducible apply fr_X7_next_374 a k
      | with_reducible apply fr_X7_next_230 a k
      | intro _
      | omega
      )
theorem fr_X7_next_146 {v : Int32} (a k : Nat) (hn : ¬ ((a = 47 ∧ (k = 23 ∨ k = 24 ∨ k = 25 ∨ k = 26))))   {s : zMem} (hs : s a k = v) : zFp a k v (f_X7_next_146  s) := by
  unfold f_X7_next_146
  repeat' (first
    | with_reducible exact zf_none
    | (with_reducible refine zf_some ?_); assumption
    | with_reducible assumption
    | exact (zUp_off (by omega)).trans (by assumption)
    | exact (congrFun (zCp_off (by omega)) _).trans (by assumption)
    | with_reducible apply zf_nmM
    | with_reducible apply zf_nmV
    | with_reducible apply zf_nmL
    | with_reducible apply zf_gd
    | with_reducible apply zf_ite
    | with_reducible apply zf_bd
    | with_reducible apply fr_X7_in a k
    | with_reducible apply fr_X7_wordFrom a k
    | with_reducible apply fr_X7_next_0 a k
    | with_reducible apply fr_X7_next_379 a k
    | with_reducible apply fr_X7_next_374 a k
    | with_reducible apply fr_X7_next_230 a k
    | with_reducible apply fr_X7_next_103 a k
    | intro _
    | omega
    )
theorem fr_X7_next_52 {v : Int32} (a k : Nat) (hn : ¬ ((a = 47 ∧ (k = 23 ∨ k = 24 ∨ k = 25 ∨ k = 26))))   {s : zMem} (hs : s a k = v) : zFp a k v (f_X7_next_52  s) := by
  unfold f_X7_next_52
  repeat' (first
    | with_reducible exact zf_none
    | (with_reducible refine zf_some ?_); assumption
    | with_reducible assumption
    | exact (zUp_off (by omega)).trans (by assumption)
    | exact (congrFun (zCp_off (by omega)) _).trans (by assumption)
    | with_reducible apply zf_nmM
    | with_reducible apply zf_nmV
    | with_reducible apply zf_nmL
    | with_reducible apply zf_gd
    | with_reducible apply zf_ite
    | with_reducible apply zf_bd
    | with_reducible apply fr_X7_in a k
    | with_reducible apply fr_X7_wordFrom a k
    | with_reducible apply fr_X7_next_0 a k
    | with_reducible apply fr_X7_next_379 a k
    | with_reducible apply fr_X7_next_374 a k
    | with_reducible apply fr_X7_next_230 a k
    | with_reducible apply fr_X7_next_103 a k
    | with_reducible apply fr_X7_next_146 a k
    | intro _
    | omega
    )
theorem fr_X7_next {v : Int32} (a k : Nat) (hn : ¬ ((a = 47 ∧ (k = 23 ∨ k = 24 ∨ k = 25 ∨ k = 26))))  {s : zMem} (hs : s a k = v) : zFp a k v (f_X7_next s) := by
  unfold f_X7_next
  repeat' (first
    | with_reducible exact zf_none
    | (with_reducible refine zf_some ?_); assumption
    | with_reducible assumption
    | exact (zUp_off (by omega)).trans (by assumption)
    | exact (congrFun (zCp_off (by omega)) _).trans (by assumption)
    | with_reducible apply zf_nmM
    | with_reducible apply zf_nmV
    | with_reducible apply zf_nmL
    | with_reducible apply zf_gd
    | with_reducible apply zf_ite
    | with_reducible apply zf_bd
    | with_reducible apply fr_X7_in a k
    | with_reducible apply fr_X7_wordFrom a k
    | with_reducible apply fr_X7_next_0 a k
    | with_reducible apply fr_X7_next_379 a k
    | with_reducible apply fr_X7_next_374 a k
    | with_reducible apply fr_X7_next_230 a k
    | with_reducible apply fr_X7_next_103 a k
    | with_reducible apply fr_X7_next_146 a k
    | with_reducible apply fr_X7_next_52 a k
    | intro _
    | omega
    )
theorem fr_X7_rank {v : Int32} (a k : Nat) (hn : ¬ (False)) {p1 : Int32} {s : zMem} (hs : s a k = v) : zFp a k v (f_X7_rank p1 s) := by
  unfold f_X7_rank
  repeat' (first
    | with_reducible exact zf_none
    | (with_reducible refine zf_some ?_); assumption
    | with_reducible assumption
    | exact (zUp_off (by omega)).trans (by assumption)
    | exact (congrFun (zCp_off (by omega)) _).trans (by assumption)
    | with_reducible apply zf_nmM
    | with_reducible apply zf_nmV
    | with_reducible apply zf_nmL
    | with_reducible apply zf_gd
    | with_reducible apply zf_ite
    | with_reducible apply zf_bd
    | intro _
    | omega
    )
theorem fr_X7_puts {v : Int32} (a k : Nat) (hn : ¬ ((a = 47 ∧ (k = 31)) ∨ a = 56)) {p1 : Int32} {s : zMem} (hs : s a k = v) : zFp a k v (f_X7_puts p1 s) := by
  unfold f_X7_puts
  repeat' (first
    | with_reducible exact zf_none
    | (with_reducible refine zf_some ?_); assumption
    | with_reducible assumption
    | exact (zUp_off (by omega)).trans (by assumption)
    | exact (congrFun (zCp_off (by omega)) _).trans (by assumption)
    | with_reducible apply zf_nmM
    | with_reducible apply zf_nmV
    | with_reducible apply zf_nmL
    | with_reducible apply zf_gd
    | with_reducible apply zf_ite
    | with_reducible apply zf_bd
    | intro _
    | omega
    )
theorem fr_X7_unwinds_0 {v : Int32} (a k : Nat) (hn : ¬ ((a = 47 ∧ (k = 29 ∨ k = 30 ∨ k = 31)) ∨ a = 56))  : ∀ {n : Nat} {x1 : Int32} {s : zMem}, s a k = v → zFp a k v (f_X7_unwinds_0 n x1 s) := by
  intro n
  induction n with
  | zero => intros; exact zf_none
  | succ n ih =>
    intros
    rw [f_X7_unwinds_0]
    repeat' (first
      | with_reducible exact zf_none
      | (with_reducible refine zf_some ?_); assumption
      | with_reducible assumption
      | exact (zUp_off (by omega)).trans (by assumption)
      | exact (congrFun (zCp_off (by omega)) _).trans (by assumption)
      | with_reducible apply zf_nmM
      | with_reducible apply zf_nmV
      | with_reducible apply zf_nmL
      | with_reducible apply zf_gd
      | with_reducible apply zf_ite
      | with_reducible apply zf_bd
      | with_reducible apply ih
      | with_reducible apply fr_X7_puts a k
      | with_reducible apply fr_X7_rank a k
      | intro _
      | omega
      )
theorem fr_X7_unwinds {v : Int32} (a k : Nat) (hn : ¬ ((a = 47 ∧ (k = 29 ∨ k = 30 ∨ k = 31)) ∨ a = 56)) {p1 : Int32} {s : zMem} (hs : s a k = v) : zFp a k v (f_X7_unwinds p1 s) := by
  unfold f_X7_unwinds
  repeat' (first
    | with_reducible exact zf_none
    | (with_reducible refine zf_some ?_); assumption
    | with_reducible assumption
    | exact (zUp_off (by omega)).trans (by assumption)
    | exact (congrFun (zCp_off (by omega)) _).trans (by assumption)
    | with_reducible apply zf_nmM
    | with_reducible apply zf_nmV
    | with_reducible apply zf_nmL
    | with_reducible apply zf_gd
    | with_reducible apply zf_ite
    | with_reducible apply zf_bd
    | with_reducible apply fr_X7_puts a k
    | with_reducible apply fr_X7_rank a k
    | with_reducible apply fr_X7_unwinds_0 a k
    | intro _
    | omega
    )
theorem fr_X7_holds {v : Int32} (a k : Nat) (hn : ¬ ((a = 47 ∧ (k = 29)) ∨ a = 65)) {p1 : Int32} {s : zMem} (hs : s a k = v) : zFp a k v (f_X7_holds p1 s) := by
  unfold f_X7_holds
  repeat' (first
    | with_reducible exact zf_none
    | (with_reducible refine zf_some ?_); assumption
    | with_reducible assumption
    | exact (zUp_off (by omega)).trans (by assumption)
    | exact (congrFun (zCp_off (by omega)) _).trans (by assumption)
    | with_reducible apply zf_nmM
    | with_reducible apply zf_nmV
    | with_reducible apply zf_nmL
    | with_reducible apply zf_gd
    | with_reducible apply zf_ite
    | with_reducible apply zf_bd
    | intro _
    | omega
    )
theorem fr_X7_opensOne {v : Int32} (a k : Nat) (hn : ¬ ((a = 47 ∧ (k = 29 ∨ k = 30)) ∨ a = 65)) {p1 : Int32} {s : zMem} (hs : s a k = v) : zFp a k v (f_X7_opensOne p1 s) := by
  unfold f_X7_opensOne
  repeat' (first
    | with_reducible exact zf_none
    | (with_reducible refine zf_some ?_); assumption
    | with_reducible assumption
    | exact (zUp_off (by omega)).trans (by assumption)
    | exact (congrFun (zCp_off (by omega)) _).trans (by assumption)
    | with_reducible apply zf_nmM
    | with_reducible apply zf_nmV
    | with_reducible apply zf_nmL
    | with_reducible apply zf_gd
    | with_reducible apply zf_ite
    | with_reducible apply zf_bd
    | with_reducible apply fr_X7_holds a k
    | intro _
    | omega
    )
theorem fr_X7_between_17 {v : Int32} (a k : Nat) (hn : ¬ ((a = 47 ∧ (k = 29 ∨ k = 30 ∨ k = 31)) ∨ a = 56 ∨ a = 65))  {x5 : Int32} {t6 : Int32} {s : zMem} (hs : s a k = v) : zFp a k v (f_X7_between_17 x5 t6 s) := by
  unfold f_X7_between_17
  repeat' (first
    | with_reducible exact zf_none
    | (with_reducible refine zf_some ?_); assumption
    | with_reducible assumption
    | exact (zUp_off (by omega)).trans (by assumption)
    | exact (congrFun (zCp_off (by omega)) _).trans (by assumption)
    | with_reducible apply zf_nmM
    | with_reducible apply zf_nmV
    | with_reducible apply zf_nmL
    | with_reducible apply zf_gd
    | with_reducible apply zf_ite
    | with_reducible apply zf_bd
    | with_reducible apply fr_X7_holds a k
    | with_reducible apply fr_X7_rank a k
    | with_reducible apply fr_X7_unwinds a k
    | intro _
    | omega
    )
theorem fr_X7_between {v : Int32} (a k : Nat) (hn : ¬ ((a = 47 ∧ (k = 29 ∨ k = 30 ∨ k = 31)) ∨ a = 56 ∨ a = 65)) {p1 : Int32} {s : zMem} (hs : s a k = v) : zFp a k v (f_X7_between p1 s) := by
  unfold f_X7_between
  repeat' (first
    | with_reducible exact zf_none
    | (with_reducible refine zf_some ?_); assumption
    | with_reducible assumption
    | exact (zUp_off (by omega)).trans (by assumption)
    | exact (congrFun (zCp_off (by omega)) _).trans (by assumption)
    | with_reducible apply zf_nmM
    | with_reducible apply zf_nmV
    | with_reducible apply zf_nmL
    | with_reducible apply zf_gd
    | with_reducible apply zf_ite
    | with_reducible apply zf_bd
    | with_reducible apply fr_X7_holds a k
    | with_reducible apply fr_X7_rank a k
    | with_reducible apply fr_X7_unwinds a k
    | with_reducible apply fr_X7_between_17 a k
    | intro _
    | omega
    )
theorem fr_X7_signOf {v : Int32} (a k : Nat) (hn : ¬ (False))  {s : zMem} (hs : s a k = v) : zFp a k v (f_X7_signOf s) := by
  unfold f_X7_signOf
  repeat' (first
    | with_reducible exact zf_none
    | (with_reducible refine zf_some ?_); assumption
    | with_reducible assumption
    | exact (zUp_off (by omega)).trans (by assumption)
    | exact (congrFun (zCp_off (by omega)) _).trans (by assumption)
    | with_reducible apply zf_nmM
    | with_reducible apply zf_nmV
    | with_reducible apply zf_nmL
    | with_reducible apply zf_gd
    | with_reducible apply zf_ite
    | with_reducible apply zf_bd
    | intro _
    | omega
    )
theorem fr_X7_eRead_38 {v : Int32} {c14 : Int32 → Int32 → zMem → Option (Int32 × zMem)} (a k : Nat) (hn : ¬ ((a = 47 ∧ (k = 23 ∨ k = 24 ∨ k = 25 ∨ k = 26 ∨ k = 29 ∨ k = 30 ∨ k = 31)) ∨ a = 56 ∨ a = 65))  (hc14 : ∀ (y1 : Int32) (y2 : Int32) (s9 : zMem), s9 a k = v → zFp a k v (c14 y1 y2 s9)) {x18 : Int32} {s : zMem} (hs : s a k = v) : zFp a k v (f_X7_eRead_38 c14 x18 s) := by
  unfold f_X7_eRead_38
  repeat' (first
    | with_reducible exact zf_none
    | (with_reducible refine zf_some ?_); assumption
    | with_reducible assumption
    | exact (zUp_off (by omega)).trans (by assumption)
    | exact (congrFun (zCp_off (by omega)) _).trans (by assumption)
    | with_reducible apply zf_nmM
    | with_reducible apply zf_nmV
    | with_reducible apply zf_nmL
    | with_reducible apply zf_gd
    | with_reducible apply zf_ite
    | with_reducible apply zf_bd
    | with_reducible apply hc14
    | with_reducible apply fr_X7_between a k
    | with_reducible apply fr_X7_next a k
    | with_reducible apply fr_X7_opensOne a k
    | with_reducible apply fr_X7_puts a k
    | with_reducible apply fr_X7_signOf a k
    | with_reducible apply fr_X7_unwinds a k
    | intro _
    | omega
    )
theorem fr_X7_eRead_99 {v : Int32} {c14 : Int32 → Int32 → zMem → Option (Int32 × zMem)} (a k : Nat) (hn : ¬ ((a = 47 ∧ (k = 23 ∨ k = 24 ∨ k = 25 ∨ k = 26 ∨ k = 29 ∨ k = 30 ∨ k = 31)) ∨ a = 56 ∨ a = 65))  (hc14 : ∀ (y1 : Int32) (y2 : Int32) (s9 : zMem), s9 a k = v → zFp a k v (c14 y1 y2 s9)) {x31 : Int32} {s : zMem} (hs : s a k = v) : zFp a k v (f_X7_eRead_99 c14 x31 s) := by
  unfold f_X7_eRead_99
  repeat' (first
    | with_reducible exact zf_none
    | (with_reducible refine zf_some ?_); assumption
    | with_reducible assumption
    | exact (zUp_off (by omega)).trans (by assumption)
    | exact (congrFun (zCp_off (by omega)) _).trans (by assumption)
    | with_reducible apply zf_nmM
    | with_reducible apply zf_nmV
    | with_reducible apply zf_nmL
    | with_reducible apply zf_gd
    | with_reducible apply zf_ite
    | with_reducible apply zf_bd
    | with_reducible apply hc14
    | with_reducible apply fr_X7_between a k
    | with_reducible apply fr_X7_next a k
    | with_reducible apply fr_X7_opensOne a k
    | with_reducible apply fr_X7_puts a k
    | with_reducible apply fr_X7_signOf a k
    | with_reducible apply fr_X7_unwinds a k
    | with_reducible apply fr_X7_eRead_38 a k
    | intro _
    | omega
    )
theorem fr_X7_eRead_14 {v : Int32} {c159 : zMem → Option (Int32 × zMem)} (a k : Nat) (hn : ¬ ((a = 47 ∧ (k = 23 ∨ k = 24 ∨ k = 25 ∨ k = 26 ∨ k = 29 ∨ k = 30 ∨ k = 31)) ∨ a = 56 ∨ a = 65))  (hc159 : ∀ (s9 : zMem), s9 a k = v → zFp a k v (c159 s9)) : ∀ {n : Nat} {x3 : Int32} {x4 : Int32} {s : zMem}, s a k = v → zFp a k v (f_X7_eRead_14 c159 n x3 x4 s) := by
  intro n
  induction n with
  | zero => intros; exact zf_none
  | succ n ih =>
    intros
    rw [f_X7_eRead_14]
    repeat' (first
      | with_reducible exact zf_none
      | (with_reducible refine zf_some ?_); assumption
      | with_reducible assumption
      | exact (zUp_off (by omega)).trans (by assumption)
      | exact (congrFun (zCp_off (by omega)) _).trans (by assumption)
      | with_reducible apply zf_nmM
      | with_reducible apply zf_nmV
      | with_reducible apply zf_nmL
      | with_reducible apply zf_gd
      | with_reducible apply zf_ite
      | with_reducible apply zf_bd
      | with_reducible apply ih
      | with_reducible apply hc159
      | with_reducible apply fr_X7_between a k
      | with_reducible apply fr_X7_next a k
      | with_reducible apply fr_X7_opensOne a k
      | with_reducible apply fr_X7_puts a k
      | with_reducible apply fr_X7_signOf a k
      | with_reducible apply fr_X7_unwinds a k
      | with_reducible apply fr_X7_eRead_38 a k
      | with_reducible apply fr_X7_eRead_99 a k
      | intro _
      | omega
      )
theorem fr_X7_eRead {v : Int32} (a k : Nat) (hn : ¬ ((a = 47 ∧ (k = 23 ∨ k = 24 ∨ k = 25 ∨ k = 26 ∨ k = 29 ∨ k = 30 ∨ k = 31)) ∨ a = 56 ∨ a = 65))  {s : zMem} (hs : s a k = v) : zFp a k v (f_X7_eRead s) := by
  unfold f_X7_eRead
  repeat' (first
    | with_reducible exact zf_none
    | (with_reducible refine zf_some ?_); assumption
    | with_reducible assumption
    | exact (zUp_off (by omega)).trans (by assumption)
    | exact (congrFun (zCp_off (by omega)) _).trans (by assumption)
    | with_reducible apply zf_nmM
    | with_reducible apply zf_nmV
    | with_reducible apply zf_nmL
    | with_reducible apply zf_gd
    | with_reducible apply zf_ite
    | with_reducible apply zf_bd
    | with_reducible apply fr_X7_between a k
    | with_reducible apply fr_X7_next a k
    | with_reducible apply fr_X7_opensOne a k
    | with_reducible apply fr_X7_puts a k
    | with_reducible apply fr_X7_signOf a k
    | with_reducible apply fr_X7_unwinds a k
    | with_reducible apply fr_X7_eRead_38 a k
    | with_reducible apply fr_X7_eRead_99 a k
    | with_reducible apply fr_X7_eRead_14 a k
    | intro _
    | omega
    )
theorem fr_X7_text_60 {v : Int32} {c26 : Int32 → Int32 → zMem → Option (Int32 × zMem)} (a k : Nat) (hn : ¬ ((a = 47 ∧ (k = 11 ∨ k = 14 ∨ k = 23 ∨ k = 24 ∨ k = 25 ∨ k = 26 ∨ k = 29 ∨ k = 30 ∨ k = 31)) ∨ a = 56 ∨ a = 57 ∨ a = 65))  (hc26 : ∀ (y1 : Int32) (y2 : Int32) (s9 : zMem), s9 a k = v → zFp a k v (c26 y1 y2 s9)) {x10 : Int32} {t11 : Int32} {s : zMem} (hs : s a k = v) : zFp a k v (f_X7_text_60 c26 x10 t11 s) := by
  unfold f_X7_text_60
  repeat' (first
    | with_reducible exact zf_none
    | (with_reducible refine zf_some ?_); assumption
    | with_reducible assumption
    | exact (zUp_off (by omega)).trans (by assumption)
    | exact (congrFun (zCp_off (by omega)) _).trans (by assumption)
    | with_reducible apply zf_nmM
    | with_reducible apply zf_nmV
    | with_reducible apply zf_nmL
    | with_reducible apply zf_gd
    | with_reducible apply zf_ite
    | with_reducible apply zf_bd
    | with_reducible apply hc26
    | with_reducible apply fr_X7_eRead a k
    | with_reducible apply fr_X7_next a k
    | intro _
    | omega
    )
theorem fr_X7_text_59 {v : Int32} {c26 : Int32 → Int32 → zMem → Option (Int32 × zMem)} (a k : Nat) (hn : ¬ ((a = 47 ∧ (k = 11 ∨ k = 14 ∨ k = 23 ∨ k = 24 ∨ k = 25 ∨ k = 26 ∨ k = 29 ∨ k = 30 ∨ k = 31)) ∨ a = 56 ∨ a = 57 ∨ a = 65))  (hc26 : ∀ (y1 : Int32) (y2 : Int32) (s9 : zMem), s9 a k = v → zFp a k v (c26 y1 y2 s9)) {x8 : Int32} {s : zMem} (hs : s a k = v) : zFp a k v (f_X7_text_59 c26 x8 s) := by
  unfold f_X7_text_59
  repeat' (first
    | with_reducible exact zf_none
    | (with_reducible refine zf_some ?_); assumption
    | with_reducible assumption
    | exact (zUp_off (by omega)).trans (by assumption)
    | exact (congrFun (zCp_off (by omega)) _).trans (by assumption)
    | with_reducible apply zf_nmM
    | with_reducible apply zf_nmV
    | with_reducible apply zf_nmL
    | with_reducible apply zf_gd
    | with_reducible apply zf_ite
    | with_reducible apply zf_bd
    | with_reducible apply hc26
    | with_reducible apply fr_X7_eRead a k
    | with_reducible apply fr_X7_next a k
    | with_reducible apply fr_X7_text_60 a k
    | intro _
    | omega
    )
theorem fr_X7_text_26 {v : Int32} {c101 : Int32 → zMem → Option (Int32 × zMem)} (a k : Nat) (hn : ¬ ((a = 47 ∧ (k = 11 ∨ k = 14 ∨ k = 23 ∨ k = 24 ∨ k = 25 ∨ k = 26 ∨ k = 29 ∨ k = 30 ∨ k = 31)) ∨ a = 56 ∨ a = 57 ∨ a = 65))  (hc101 : ∀ (y1 : Int32) (s9 : zMem), s9 a k = v → zFp a k v (c101 y1 s9)) : ∀ {n : Nat} {x3 : Int32} {x4 : Int32} {s : zMem}, s a k = v → zFp a k v (f_X7_text_26 c101 n x3 x4 s) := by
  intro n
  induction n with
  | zero => intros; exact zf_none
  | succ n ih =>
    intros
    rw [f_X7_text_26]
    repeat' (first
      | with_reducible exact zf_none
      | (with_reducible refine zf_some ?_); assumption
      | with_reducible assumption
      | exact (zUp_off (by omega)).trans (by assumption)
      | exact (congrFun (zCp_off (by omega)) _).trans (by assumption)
      | with_reducible apply zf_nmM
      | with_reducible apply zf_nmV
      | with_reducible apply zf_nmL
      | with_reducible apply zf_gd
      | with_reducible apply zf_ite
      | with_reducible apply zf_bd
      | with_reducible apply ih
      | with_reducible apply hc101
      | with_reducible apply fr_X7_eRead a k
      | with_reducible apply fr_X7_next a k
      | with_reducible apply fr_X7_text_60 a k
      | with_reducible apply fr_X7_text_59 a k
      | intro _
      | omega
      )
theorem fr_X7_text_122 {v : Int32} (a k : Nat) (hn : ¬ ((a = 47 ∧ (k = 11 ∨ k = 14 ∨ k = 23 ∨ k = 24 ∨ k = 25 ∨ k = 26 ∨ k = 29 ∨ k = 30 ∨ k = 31)) ∨ a = 56 ∨ a = 57 ∨ a = 65))  {x35 : Int32} {s : zMem} (hs : s a k = v) : zFp a k v (f_X7_text_122 x35 s) := by
  unfold f_X7_text_122
  repeat' (first
    | with_reducible exact zf_none
    | (with_reducible refine zf_some ?_); assumption
    | with_reducible assumption
    | exact (zUp_off (by omega)).trans (by assumption)
    | exact (congrFun (zCp_off (by omega)) _).trans (by assumption)
    | with_reducible apply zf_nmM
    | with_reducible apply zf_nmV
    | with_reducible apply zf_nmL
    | with_reducible apply zf_gd
    | with_reducible apply zf_ite
    | with_reducible apply zf_bd
    | with_reducible apply fr_X7_eRead a k
    | with_reducible apply fr_X7_next a k
    | with_reducible apply fr_X7_text_60 a k
    | with_reducible apply fr_X7_text_59 a k
    | with_reducible apply fr_X7_text_26 a k
    | intro _
    | omega
    )
theorem fr_X7_text_121 {v : Int32} (a k : Nat) (hn : ¬ ((a = 47 ∧ (k = 11 ∨ k = 14 ∨ k = 23 ∨ k = 24 ∨ k = 25 ∨ k = 26 ∨ k = 29 ∨ k = 30 ∨ k = 31)) ∨ a = 56 ∨ a = 57 ∨ a = 65))  {t42 : Int32} {s : zMem} (hs : s a k = v) : zFp a k v (f_X7_text_121 t42 s) := by
  unfold f_X7_text_121
  repeat' (first
    | with_reducible exact zf_none
    | (with_reducible refine zf_some ?_); assumption
    | with_reducible assumption
    | exact (zUp_off (by omega)).trans (by assumption)
    | exact (congrFun (zCp_off (by omega)) _).trans (by assumption)
    | with_reducible apply zf_nmM
    | with_reducible apply zf_nmV
    | with_reducible apply zf_nmL
    | with_reducible apply zf_gd
    | with_reducible apply zf_ite
    | with_reducible apply zf_bd
    | with_reducible apply fr_X7_eRead a k
    | with_reducible apply fr_X7_next a k
    | with_reducible apply fr_X7_text_60 a k
    | with_reducible apply fr_X7_text_59 a k
    | with_reducible apply fr_X7_text_26 a k
    | with_reducible apply fr_X7_text_122 a k
    | intro _
    | omega
    )
theorem fr_X7_text_101 {v : Int32} (a k : Nat) (hn : ¬ ((a = 47 ∧ (k = 11 ∨ k = 14 ∨ k = 23 ∨ k = 24 ∨ k = 25 ∨ k = 26 ∨ k = 29 ∨ k = 30 ∨ k = 31)) ∨ a = 56 ∨ a = 57 ∨ a = 65))  {x33 : Int32} {s : zMem} (hs : s a k = v) : zFp a k v (f_X7_text_101 x33 s) := by
  unfold f_X7_text_101
  repeat' (first
    | with_reducible exact zf_none
    | (with_reducible refine zf_some ?_); assumption
    | with_reducible assumption
    | exact (zUp_off (by omega)).trans (by assumption)
    | exact (congrFun (zCp_off (by omega)) _).trans (by assumption)
    | with_reducible apply zf_nmM
    | with_reducible apply zf_nmV
    | with_reducible apply zf_nmL
    | with_reducible apply zf_gd
    | with_reducible apply zf_ite
    | with_reducible apply zf_bd
    | with_reducible apply fr_X7_eRead a k
    | with_reducible apply fr_X7_next a k
    | with_reducible apply fr_X7_text_60 a k
    | with_reducible apply fr_X7_text_59 a k
    | with_reducible apply fr_X7_text_26 a k
    | with_reducible apply fr_X7_text_122 a k
    | with_reducible apply fr_X7_text_121 a k
    | intro _
    | omega
    )
theorem fr_X7_text {v : Int32} (a k : Nat) (hn : ¬ ((a = 47 ∧ (k = 11 ∨ k = 14 ∨ k = 23 ∨ k = 24 ∨ k = 25 ∨ k = 26 ∨ k = 29 ∨ k = 30 ∨ k = 31)) ∨ a = 56 ∨ a = 57 ∨ a = 65))  {s : zMem} (hs : s a k = v) : zFp a k v (f_X7_text s) := by
  unfold f_X7_text
  repeat' (first
    | with_reducible exact zf_none
    | (with_reducible refine zf_some ?_); assumption
    | with_reducible assumption
    | exact (zUp_off (by omega)).trans (by assumption)
    | exact (congrFun (zCp_off (by omega)) _).trans (by assumption)
    | with_reducible apply zf_nmM
    | with_reducible apply zf_nmV
    | with_reducible apply zf_nmL
    | with_reducible apply zf_gd
    | with_reducible apply zf_ite
    | with_reducible apply zf_bd
    | with_reducible apply fr_X7_eRead a k
    | with_reducible apply fr_X7_next a k
    | with_reducible apply fr_X7_text_60 a k
    | with_reducible apply fr_X7_text_59 a k
    | with_reducible apply fr_X7_text_26 a k
    | with_reducible apply fr_X7_text_122 a k
    | with_reducible apply fr_X7_text_121 a k
    | with_reducible apply fr_X7_text_101 a k
    | intro _
    | omega
    )
theorem fr_X7_two {v : Int32} (a k : Nat) (hn : ¬ (False)) {p1 : Int32} {p2 : Int32} {p3 : Int32} {s : zMem} (hs : s a k = v) : zFp a k v (f_X7_two p1 p2 p3 s) := by
  unfold f_X7_two
  repeat' (first
    | with_reducible exact zf_none
    | (with_reducible refine zf_some ?_); assumption
    | with_reducible assumption
    | exact (zUp_off (by omega)).trans (by assumption)
    | exact (congrFun (zCp_off (by omega)) _).trans (by assumption)
    | with_reducible apply zf_nmM
    | with_reducible apply zf_nmV
    | with_reducible apply zf_nmL
    | with_reducible apply zf_gd
    | with_reducible apply zf_ite
    | with_reducible apply zf_bd
    | intro _
    | omega
    )
theorem fr_X7_says_66 {v : Int32} {c16 : Int32 → Int32 → Int32 → zMem → Option (Int32 × zMem)} (a k : Nat) (hn : ¬ (a = 66))  (hc16 : ∀ (y1 : Int32) (y2 : Int32) (y3 : Int32) (s9 : zMem), s9 a k = v → zFp a k v (c16 y1 y2 y3 s9)) {x7 : Int32} {x8 : Int32} {x9 : Int32} {x10 : Int32} {s : zMem} (hs : s a k = v) : zFp a k v (f_X7_says_66 c16 x7 x8 x9 x10 s) := by
  unfold f_X7_says_66
  repeat' (first
    | with_reducible exact zf_none
    | (with_reducible refine zf_some ?_); assumption
    | with_reducible assumption
    | exact (zUp_off (by omega)).trans (by assumption)
    | exact (congrFun (zCp_off (by omega)) _).trans (by assumption)
    | with_reducible apply zf_nmM
    | with_reducible apply zf_nmV
    | with_reducible apply zf_nmL
    | with_reducible apply zf_gd
    | with_reducible apply zf_ite
    | with_reducible apply zf_bd
    | with_reducible apply hc16
    | with_reducible apply fr_X7_two a k
    | intro _
    | omega
    )
theorem fr_X7_says_16 {v : Int32} (a k : Nat) (hn : ¬ (a = 66))  : ∀ {n : Nat} {x2 : Int32} {x3 : Int32} {x4 : Int32} {s : zMem}, s a k = v → zFp a k v (f_X7_says_16 n x2 x3 x4 s) := by
  intro n
  induction n with
  | zero => intros; exact zf_none
  | succ n ih =>
    intros
    rw [f_X7_says_16]
    repeat' (first
      | with_reducible exact zf_none
      | (with_reducible refine zf_some ?_); assumption
      | with_reducible assumption
      | exact (zUp_off (by omega)).trans (by assumption)
      | exact (congrFun (zCp_off (by omega)) _).trans (by assumption)
      | with_reducible apply zf_nmM
      | with_reducible apply zf_nmV
      | with_reducible apply zf_nmL
      | with_reducible apply zf_gd
      | with_reducible apply zf_ite
      | with_reducible apply zf_bd
      | with_reducible apply ih
      | with_reducible apply fr_X7_two a k
      | with_reducible apply fr_X7_says_66 a k
      | intro _
      | omega
      )
theorem fr_X7_says {v : Int32} (a k : Nat) (hn : ¬ (a = 66)) {p1 : Int32} {s : zMem} (hs : s a k = v) : zFp a k v (f_X7_says p1 s) := by
  unfold f_X7_says
  repeat' (first
    | with_reducible exact zf_none
    | (with_reducible refine zf_some ?_); assumption
    | with_reducible assumption
    | exact (zUp_off (by omega)).trans (by assumption)
    | exact (congrFun (zCp_off (by omega)) _).trans (by assumption)
    | with_reducible apply zf_nmM
    | with_reducible apply zf_nmV
    | with_reducible apply zf_nmL
    | with_reducible apply zf_gd
    | with_reducible apply zf_ite
    | with_reducible apply zf_bd
    | with_reducible apply fr_X7_two a k
    | with_reducible apply fr_X7_says_66 a k
    | with_reducible apply fr_X7_says_16 a k
    | intro _
    | omega
    )
theorem fr_X7_force {v : Int32} (a k : Nat) (hn : ¬ ((a = 47 ∧ (k = 15)))) {p1 : Int32} {s : zMem} (hs : s a k = v) : zFp a k v (f_X7_force p1 s) := by
  unfold f_X7_force
  repeat' (first
    | with_reducible exact zf_none
    | (with_reducible refine zf_some ?_); assumption
    | with_reducible assumption
    | exact (zUp_off (by omega)).trans (by assumption)
    | exact (congrFun (zCp_off (by omega)) _).trans (by assumption)
    | with_reducible apply zf_nmM
    | with_reducible apply zf_nmV
    | with_reducible apply zf_nmL
    | with_reducible apply zf_gd
    | with_reducible apply zf_ite
    | with_reducible apply zf_bd
    | with_reducible apply fr_X7_in a k
    | intro _
    | omega
    )
theorem fr_X7_asksOf {v : Int32} (a k : Nat) (hn : ¬ (a = 66 ∨ a = 67)) {p1 : Int32} {p2 : Int32} {p3 : Int32} {s : zMem} (hs : s a k = v) : zFp a k v (f_X7_asksOf p1 p2 p3 s) := by
  unfold f_X7_asksOf
  repeat' (first
    | with_reducible exact zf_none
    | (with_reducible refine zf_some ?_); assumption
    | with_reducible assumption
    | exact (zUp_off (by omega)).trans (by assumption)
    | exact (congrFun (zCp_off (by omega)) _).trans (by assumption)
    | with_reducible apply zf_nmM
    | with_reducible apply zf_nmV
    | with_reducible apply zf_nmL
    | with_reducible apply zf_gd
    | with_reducible apply zf_ite
    | with_reducible apply zf_bd
    | with_reducible apply fr_X7_owedBy a k
    | with_reducible apply fr_X7_says a k
    | with_reducible apply fr_X7_within a k
    | intro _
    | omega
    )
theorem fr_X7_asks {v : Int32} (a k : Nat) (hn : ¬ (a = 66 ∨ a = 67)) {p1 : Int32} {p2 : Int32} {p3 : Int32} {s : zMem} (hs : s a k = v) : zFp a k v (f_X7_asks p1 p2 p3 s) := by
  unfold f_X7_asks
  repeat' (first
    | with_reducible exact zf_none
    | (with_reducible refine zf_some ?_); assumption
    | with_reducible assumption
    | exact (zUp_off (by omega)).trans (by assumption)
    | exact (congrFun (zCp_off (by omega)) _).trans (by assumption)
    | with_reducible apply zf_nmM
    | with_reducible apply zf_nmV
    | with_reducible apply zf_nmL
    | with_reducible apply zf_gd
    | with_reducible apply zf_ite
    | with_reducible apply zf_bd
    | with_reducible apply fr_X7_asksOf a k
    | with_reducible apply fr_X7_in a k
    | with_reducible apply fr_X7_isHut a k
    | intro _
    | omega
    )
theorem fr_X7_hut {v : Int32} (a k : Nat) (hn : ¬ ((a = 47 ∧ (k = 0)) ∨ a = 48 ∨ a = 49 ∨ a = 50)) {p1 : Int32} {p2 : Int32} {s : zMem} (hs : s a k = v) : zFp a k v (f_X7_hut p1 p2 s) := by
  unfold f_X7_hut
  repeat' (first
    | with_reducible exact zf_none
    | (with_reducible refine zf_some ?_); assumption
    | with_reducible assumption
    | exact (zUp_off (by omega)).trans (by assumption)
    | exact (congrFun (zCp_off (by omega)) _).trans (by assumption)
    | with_reducible apply zf_nmM
    | with_reducible apply zf_nmV
    | with_reducible apply zf_nmL
    | with_reducible apply zf_gd
    | with_reducible apply zf_ite
    | with_reducible apply zf_bd
    | with_reducible apply fr_X7_in a k
    | intro _
    | omega
    )
theorem fr_X7_put_34 {v : Int32} (a k : Nat) (hn : ¬ (a = 50))  {x5 : Int32} {x6 : Int32} {x7 : Int32} {t8 : Int32} {t9 : Int32} {t10 : Int32} {s : zMem} (hs : s a k = v) : zFp a k v (f_X7_put_34 x5 x6 x7 t8 t9 t10 s) := by
  unfold f_X7_put_34
  repeat' (first
    | with_reducible exact zf_none
    | (with_reducible refine zf_some ?_); assumption
    | with_reducible assumption
    | exact (zUp_off (by omega)).trans (by assumption)
    | exact (congrFun (zCp_off (by omega)) _).trans (by assumption)
    | with_reducible apply zf_nmM
    | with_reducible apply zf_nmV
    | with_reducible apply zf_nmL
    | with_reducible apply zf_gd
    | with_reducible apply zf_ite
    | with_reducible apply zf_bd
    | with_reducible apply fr_X7_in a k
    | with_reducible apply fr_X7_isHut a k
    | intro _
    | omega
    )
theorem fr_X7_put {v : Int32} (a k : Nat) (hn : ¬ (a = 50)) {p1 : Int32} {p2 : Int32} {p3 : Int32} {s : zMem} (hs : s a k = v) : zFp a k v (f_X7_put p1 p2 p3 s) := by
  unfold f_X7_put
  repeat' (first
    | with_reducible exact zf_none
    | (with_reducible refine zf_some ?_); assumption
    | with_reducible assumption
    | exact (zUp_off (by omega)).trans (by assumption)
    | exact (congrFun (zCp_off (by omega)) _).trans (by assumption)
    | with_reducible apply zf_nmM
    | with_reducible apply zf_nmV
    | with_reducible apply zf_nmL
    | with_reducible apply zf_gd
    | with_reducible apply zf_ite
    | with_reducible apply zf_bd
    | with_reducible apply fr_X7_in a k
    | with_reducible apply fr_X7_isHut a k
    | with_reducible apply fr_X7_put_34 a k
    | intro _
    | omega
    )
theorem fr_X7_told {v : Int32} (a k : Nat) (hn : ¬ (False)) {p1 : Int32} {p2 : Int32} {s : zMem} (hs : s a k = v) : zFp a k v (f_X7_told p1 p2 s) := by
  unfold f_X7_told
  repeat' (first
    | with_reducible exact zf_none
    | (with_reducible refine zf_some ?_); assumption
    | with_reducible assumption
    | exact (zUp_off (by omega)).trans (by assumption)
    | exact (congrFun (zCp_off (by omega)) _).trans (by assumption)
    | with_reducible apply zf_nmM
    | with_reducible apply zf_nmV
    | with_reducible apply zf_nmL
    | with_reducible apply zf_gd
    | with_reducible apply zf_ite
    | with_reducible apply zf_bd
    | with_reducible apply fr_X7_isHut a k
    | with_reducible apply fr_X7_lentBy a k
    | with_reducible apply fr_X7_owedBy a k
    | with_reducible apply fr_X7_owedTo a k
    | intro _
    | omega
    )
theorem fr_X7_areCoalNights {v : Int32} (a k : Nat) (hn : ¬ (False)) {p1 : Int32} {s : zMem} (hs : s a k = v) : zFp a k v (f_X7_areCoalNights p1 s) := by
  unfold f_X7_areCoalNights
  repeat' (first
    | with_reducible exact zf_none
    | (with_reducible refine zf_some ?_); assumption
    | with_reducible assumption
    | exact (zUp_off (by omega)).trans (by assumption)
    | exact (congrFun (zCp_off (by omega)) _).trans (by assumption)
    | with_reducible apply zf_nmM
    | with_reducible apply zf_nmV
    | with_reducible apply zf_nmL
    | with_reducible apply zf_gd
    | with_reducible apply zf_ite
    | with_reducible apply zf_bd
    | with_reducible apply fr_X7_in a k
    | intro _
    | omega
    )
theorem fr_X7_mayLend {v : Int32} (a k : Nat) (hn : ¬ (False)) {p1 : Int32} {p2 : Int32} {s : zMem} (hs : s a k = v) : zFp a k v (f_X7_mayLend p1 p2 s) := by
  unfold f_X7_mayLend
  repeat' (first
    | with_reducible exact zf_none
    | (with_reducible refine zf_some ?_); assumption
    | with_reducible assumption
    | exact (zUp_off (by omega)).trans (by assumption)
    | exact (congrFun (zCp_off (by omega)) _).trans (by assumption)
    | with_reducible apply zf_nmM
    | with_reducible apply zf_nmV
    | with_reducible apply zf_nmL
    | with_reducible apply zf_gd
    | with_reducible apply zf_ite
    | with_reducible apply zf_bd
    | intro _
    | omega
    )
theorem fr_X7_moves {v : Int32} (a k : Nat) (hn : ¬ (a = 50)) {p1 : Int32} {p2 : Int32} {p3 : Int32} {s : zMem} (hs : s a k = v) : zFp a k v (f_X7_moves p1 p2 p3 s) := by
  unfold f_X7_moves
  repeat' (first
    | with_reducible exact zf_none
    | (with_reducible refine zf_some ?_); assumption
    | with_reducible assumption
    | exact (zUp_off (by omega)).trans (by assumption)
    | exact (congrFun (zCp_off (by omega)) _).trans (by assumption)
    | with_reducible apply zf_nmM
    | with_reducible apply zf_nmV
    | with_reducible apply zf_nmL
    | with_reducible apply zf_gd
    | with_reducible apply zf_ite
    | with_reducible apply zf_bd
    | with_reducible apply fr_X7_within a k
    | intro _
    | omega
    )
theorem fr_X7_lends {v : Int32} (a k : Nat) (hn : ¬ ((a = 47 ∧ (k = 8)) ∨ a = 50 ∨ a = 51 ∨ a = 52 ∨ a = 53 ∨ a = 54)) {p1 : Int32} {p2 : Int32} {p3 : Int32} {s : zMem} (hs : s a k = v) : zFp a k v (f_X7_lends p1 p2 p3 s) := by
  unfold f_X7_lends
  repeat' (first
    | with_reducible exact zf_none
    | (with_reducible refine zf_some ?_); assumption
    | with_reducible assumption
    | exact (zUp_off (by omega)).trans (by assumption)
    | exact (congrFun (zCp_off (by omega)) _).trans (by assumption)
    | with_reducible apply zf_nmM
    | with_reducible apply zf_nmV
    | with_reducible apply zf_nmL
    | with_reducible apply zf_gd
    | with_reducible apply zf_ite
    | with_reducible apply zf_bd
    | with_reducible apply fr_X7_moves a k
    | intro _
    | omega
    )
theorem fr_X7_lend {v : Int32} (a k : Nat) (hn : ¬ ((a = 47 ∧ (k = 8)) ∨ a = 50 ∨ a = 51 ∨ a = 52 ∨ a = 53 ∨ a = 54)) {p1 : Int32} {p2 : Int32} {s : zMem} (hs : s a k = v) : zFp a k v (f_X7_lend p1 p2 s) := by
  unfold f_X7_lend
  repeat' (first
    | with_reducible exact zf_none
    | (with_reducible refine zf_some ?_); assumption
    | with_reducible assumption
    | exact (zUp_off (by omega)).trans (by assumption)
    | exact (congrFun (zCp_off (by omega)) _).trans (by assumption)
    | with_reducible apply zf_nmM
    | with_reducible apply zf_nmV
    | with_reducible apply zf_nmL
    | with_reducible apply zf_gd
    | with_reducible apply zf_ite
    | with_reducible apply zf_bd
    | with_reducible apply fr_X7_areCoalNights a k
    | with_reducible apply fr_X7_in a k
    | with_reducible apply fr_X7_isHut a k
    | with_reducible apply fr_X7_lends a k
    | with_reducible apply fr_X7_mayLend a k
    | intro _
    | omega
    )
theorem fr_X7_loan {v : Int32} (a k : Nat) (hn : ¬ (False)) {p1 : Int32} {p2 : Int32} {s : zMem} (hs : s a k = v) : zFp a k v (f_X7_loan p1 p2 s) := by
  unfold f_X7_loan
  repeat' (first
    | with_reducible exact zf_none
    | (with_reducible refine zf_some ?_); assumption
    | with_reducible assumption
    | exact (zUp_off (by omega)).trans (by assumption)
    | exact (congrFun (zCp_off (by omega)) _).trans (by assumption)
    | with_reducible apply zf_nmM
    | with_reducible apply zf_nmV
    | with_reducible apply zf_nmL
    | with_reducible apply zf_gd
    | with_reducible apply zf_ite
    | with_reducible apply zf_bd
    | with_reducible apply fr_X7_isLoan a k
    | intro _
    | omega
    )
theorem fr_X7_drops_2 {v : Int32} {c74 : zMem → Option (Unit × zMem)} (a k : Nat) (hn : ¬ ((a = 47 ∧ (k = 8)) ∨ a = 51 ∨ a = 52 ∨ a = 53 ∨ a = 54))  (hc74 : ∀ (s9 : zMem), s9 a k = v → zFp a k v (c74 s9)) : ∀ {n : Nat} {x1 : Int32} {s : zMem}, s a k = v → zFp a k v (f_X7_drops_2 c74 n x1 s) := by
  intro n
  induction n with
  | zero => intros; exact zf_none
  | succ n ih =>
    intros
    rw [f_X7_drops_2]
    repeat' (first
      | with_reducible exact zf_none
      | (with_reducible refine zf_some ?_); assumption
      | with_reducible assumption
      | exact (zUp_off (by omega)).trans (by assumption)
      | exact (congrFun (zCp_off (by omega)) _).trans (by assumption)
      | with_reducible apply zf_nmM
      | with_reducible apply zf_nmV
      | with_reducible apply zf_nmL
      | with_reducible apply zf_gd
      | with_reducible apply zf_ite
      | with_reducible apply zf_bd
      | with_reducible apply ih
      | with_reducible apply hc74
      | intro _
      | omega
      )
theorem fr_X7_drops {v : Int32} (a k : Nat) (hn : ¬ ((a = 47 ∧ (k = 8)) ∨ a = 51 ∨ a = 52 ∨ a = 53 ∨ a = 54)) {p1 : Int32} {s : zMem} (hs : s a k = v) : zFp a k v (f_X7_drops p1 s) := by
  unfold f_X7_drops
  repeat' (first
    | with_reducible exact zf_none
    | (with_reducible refine zf_some ?_); assumption
    | with_reducible assumption
    | exact (zUp_off (by omega)).trans (by assumption)
    | exact (congrFun (zCp_off (by omega)) _).trans (by assumption)
    | with_reducible apply zf_nmM
    | with_reducible apply zf_nmV
    | with_reducible apply zf_nmL
    | with_reducible apply zf_gd
    | with_reducible apply zf_ite
    | with_reducible apply zf_bd
    | with_reducible apply fr_X7_drops_2 a k
    | intro _
    | omega
    )
theorem fr_X7_repay {v : Int32} (a k : Nat) (hn : ¬ ((a = 47 ∧ (k = 8)) ∨ a = 50 ∨ a = 51 ∨ a = 52 ∨ a = 53 ∨ a = 54)) {p1 : Int32} {s : zMem} (hs : s a k = v) : zFp a k v (f_X7_repay p1 s) := by
  unfold f_X7_repay
  repeat' (first
    | with_reducible exact zf_none
    | (with_reducible refine zf_some ?_); assumption
    | with_reducible assumption
    | exact (zUp_off (by omega)).trans (by assumption)
    | exact (congrFun (zCp_off (by omega)) _).trans (by assumption)
    | with_reducible apply zf_nmM
    | with_reducible apply zf_nmV
    | with_reducible apply zf_nmL
    | with_reducible apply zf_gd
    | with_reducible apply zf_ite
    | with_reducible apply zf_bd
    | with_reducible apply fr_X7_drops a k
    | with_reducible apply fr_X7_isLoan a k
    | with_reducible apply fr_X7_moves a k
    | intro _
    | omega
    )
theorem fr_X7_forgive {v : Int32} (a k : Nat) (hn : ¬ ((a = 47 ∧ (k = 8)) ∨ a = 51 ∨ a = 52 ∨ a = 53 ∨ a = 54)) {p1 : Int32} {s : zMem} (hs : s a k = v) : zFp a k v (f_X7_forgive p1 s) := by
  unfold f_X7_forgive
  repeat' (first
    | with_reducible exact zf_none
    | (with_reducible refine zf_some ?_); assumption
    | with_reducible assumption
    | exact (zUp_off (by omega)).trans (by assumption)
    | exact (congrFun (zCp_off (by omega)) _).trans (by assumption)
    | with_reducible apply zf_nmM
    | with_reducible apply zf_nmV
    | with_reducible apply zf_nmL
    | with_reducible apply zf_gd
    | with_reducible apply zf_ite
    | with_reducible apply zf_bd
    | with_reducible apply fr_X7_drops a k
    | with_reducible apply fr_X7_isLoan a k
    | intro _
    | omega
    )
theorem fr_X7_growsOf {v : Int32} (a k : Nat) (hn : ¬ (a = 66 ∨ a = 67)) {p1 : Int32} {p2 : Int32} {s : zMem} (hs : s a k = v) : zFp a k v (f_X7_growsOf p1 p2 s) := by
  unfold f_X7_growsOf
  repeat' (first
    | with_reducible exact zf_none
    | (with_reducible refine zf_some ?_); assumption
    | with_reducible assumption
    | exact (zUp_off (by omega)).trans (by assumption)
    | exact (congrFun (zCp_off (by omega)) _).trans (by assumption)
    | with_reducible apply zf_nmM
    | with_reducible apply zf_nmV
    | with_reducible apply zf_nmL
    | with_reducible apply zf_gd
    | with_reducible apply zf_ite
    | with_reducible apply zf_bd
    | with_reducible apply fr_X7_asksOf a k
    | intro _
    | omega
    )
theorem fr_X7_coolsOf {v : Int32} (a k : Nat) (hn : ¬ (a = 66 ∨ a = 67)) {p1 : Int32} {s : zMem} (hs : s a k = v) : zFp a k v (f_X7_coolsOf p1 s) := by
  unfold f_X7_coolsOf
  repeat' (first
    | with_reducible exact zf_none
    | (with_reducible refine zf_some ?_); assumption
    | with_reducible assumption
    | exact (zUp_off (by omega)).trans (by assumption)
    | exact (congrFun (zCp_off (by omega)) _).trans (by assumption)
    | with_reducible apply zf_nmM
    | with_reducible apply zf_nmV
    | with_reducible apply zf_nmL
    | with_reducible apply zf_gd
    | with_reducible apply zf_ite
    | with_reducible apply zf_bd
    | with_reducible apply fr_X7_asksOf a k
    | intro _
    | omega
    )
theorem fr_X7_burnsOf {v : Int32} (a k : Nat) (hn : ¬ (a = 66 ∨ a = 67)) {p1 : Int32} {s : zMem} (hs : s a k = v) : zFp a k v (f_X7_burnsOf p1 s) := by
  unfold f_X7_burnsOf
  repeat' (first
    | with_reducible exact zf_none
    | (with_reducible refine zf_some ?_); assumption
    | with_reducible assumption
    | exact (zUp_off (by omega)).trans (by assumption)
    | exact (congrFun (zCp_off (by omega)) _).trans (by assumption)
    | with_reducible apply zf_nmM
    | with_reducible apply zf_nmV
    | with_reducible apply zf_nmL
    | with_reducible apply zf_gd
    | with_reducible apply zf_ite
    | with_reducible apply zf_bd
    | with_reducible apply fr_X7_asksOf a k
    | intro _
    | omega
    )
theorem fr_X7_hearth_97 {v : Int32} (a k : Nat) (hn : ¬ (a = 50 ∨ a = 66 ∨ a = 67))  {x1 : Int32} {s : zMem} (hs : s a k = v) : zFp a k v (f_X7_hearth_97 x1 s) := by
  unfold f_X7_hearth_97
  repeat' (first
    | with_reducible exact zf_none
    | (with_reducible refine zf_some ?_); assumption
    | with_reducible assumption
    | exact (zUp_off (by omega)).trans (by assumption)
    | exact (congrFun (zCp_off (by omega)) _).trans (by assumption)
    | with_reducible apply zf_nmM
    | with_reducible apply zf_nmV
    | with_reducible apply zf_nmL
    | with_reducible apply zf_gd
    | with_reducible apply zf_ite
    | with_reducible apply zf_bd
    | with_reducible apply fr_X7_burnsOf a k
    | with_reducible apply fr_X7_coolsOf a k
    | with_reducible apply fr_X7_within a k
    | intro _
    | omega
    )
theorem fr_X7_hearth {v : Int32} (a k : Nat) (hn : ¬ (a = 50 ∨ a = 66 ∨ a = 67)) {p1 : Int32} {s : zMem} (hs : s a k = v) : zFp a k v (f_X7_hearth p1 s) := by
  unfold f_X7_hearth
  repeat' (first
    | with_reducible exact zf_none
    | (with_reducible refine zf_some ?_); assumption
    | with_reducible assumption
    | exact (zUp_off (by omega)).trans (by assumption)
    | exact (congrFun (zCp_off (by omega)) _).trans (by assumption)
    | with_reducible apply zf_nmM
    | with_reducible apply zf_nmV
    | with_reducible apply zf_nmL
    | with_reducible apply zf_gd
    | with_reducible apply zf_ite
    | with_reducible apply zf_bd
    | with_reducible apply fr_X7_burnsOf a k
    | with_reducible apply fr_X7_coolsOf a k
    | with_reducible apply fr_X7_within a k
    | with_reducible apply fr_X7_hearth_97 a k
    | intro _
    | omega
    )
theorem fr_X7_nightOf_4 {v : Int32} {c54 : Int32 → zMem → Option (Int32 × zMem)} (a k : Nat) (hn : ¬ ((a = 47 ∧ (k = 8 ∨ k = 9)) ∨ a = 50 ∨ a = 51 ∨ a = 52 ∨ a = 53 ∨ a = 54 ∨ a = 66 ∨ a = 67))  (hc54 : ∀ (y1 : Int32) (s9 : zMem), s9 a k = v → zFp a k v (c54 y1 s9)) : ∀ {n : Nat} {x1 : Int32} {x2 : Int32} {s : zMem}, s a k = v → zFp a k v (f_X7_nightOf_4 c54 n x1 x2 s) := by
  intro n
  induction n with
  | zero => intros; exact zf_none
  | succ n ih =>
    intros
    rw [f_X7_nightOf_4]
    repeat' (first
      | with_reducible exact zf_none
      | (with_reducible refine zf_some ?_); assumption
      | with_reducible assumption
      | exact (zUp_off (by omega)).trans (by assumption)
      | exact (congrFun (zCp_off (by omega)) _).trans (by assumption)
      | with_reducible apply zf_nmM
      | with_reducible apply zf_nmV
      | with_reducible apply zf_nmL
      | with_reducible apply zf_gd
      | with_reducible apply zf_ite
      | with_reducible apply zf_bd
      | with_reducible apply ih
      | with_reducible apply hc54
      | with_reducible apply fr_X7_drops a k
      | with_reducible apply fr_X7_growsOf a k
      | with_reducible apply fr_X7_hearth a k
      | with_reducible apply fr_X7_moves a k
      | with_reducible apply fr_X7_within a k
      | intro _
      | omega
      )
theorem fr_X7_nightOf_56 {v : Int32} {c153 : Int32 → zMem → Option (Int32 × zMem)} (a k : Nat) (hn : ¬ ((a = 47 ∧ (k = 8 ∨ k = 9)) ∨ a = 50 ∨ a = 51 ∨ a = 52 ∨ a = 53 ∨ a = 54 ∨ a = 66 ∨ a = 67))  (hc153 : ∀ (y1 : Int32) (s9 : zMem), s9 a k = v → zFp a k v (c153 y1 s9)) : ∀ {n : Nat} {x12 : Int32} {x13 : Int32} {s : zMem}, s a k = v → zFp a k v (f_X7_nightOf_56 c153 n x12 x13 s) := by
  intro n
  induction n with
  | zero => intros; exact zf_none
  | succ n ih =>
    intros
    rw [f_X7_nightOf_56]
    repeat' (first
      | with_reducible exact zf_none
      | (with_reducible refine zf_some ?_); assumption
      | with_reducible assumption
      | exact (zUp_off (by omega)).trans (by assumption)
      | exact (congrFun (zCp_off (by omega)) _).trans (by assumption)
      | with_reducible apply zf_nmM
      | with_reducible apply zf_nmV
      | with_reducible apply zf_nmL
      | with_reducible apply zf_gd
      | with_reducible apply zf_ite
      | with_reducible apply zf_bd
      | with_reducible apply ih
      | with_reducible apply hc153
      | with_reducible apply fr_X7_drops a k
      | with_reducible apply fr_X7_growsOf a k
      | with_reducible apply fr_X7_hearth a k
      | with_reducible apply fr_X7_moves a k
      | with_reducible apply fr_X7_within a k
      | with_reducible apply fr_X7_nightOf_4 a k
      | intro _
      | omega
      )
theorem fr_X7_nightOf_155 {v : Int32} {c174 : Int32 → zMem → Option (Int32 × zMem)} (a k : Nat) (hn : ¬ ((a = 47 ∧ (k = 8 ∨ k = 9)) ∨ a = 50 ∨ a = 51 ∨ a = 52 ∨ a = 53 ∨ a = 54 ∨ a = 66 ∨ a = 67))  (hc174 : ∀ (y1 : Int32) (s9 : zMem), s9 a k = v → zFp a k v (c174 y1 s9)) : ∀ {n : Nat} {x27 : Int32} {x28 : Int32} {s : zMem}, s a k = v → zFp a k v (f_X7_nightOf_155 c174 n x27 x28 s) := by
  intro n
  induction n with
  | zero => intros; exact zf_none
  | succ n ih =>
    intros
    rw [f_X7_nightOf_155]
    repeat' (first
      | with_reducible exact zf_none
      | (with_reducible refine zf_some ?_); assumption
      | with_reducible assumption
      | exact (zUp_off (by omega)).trans (by assumption)
      | exact (congrFun (zCp_off (by omega)) _).trans (by assumption)
      | with_reducible apply zf_nmM
      | with_reducible apply zf_nmV
      | with_reducible apply zf_nmL
      | with_reducible apply zf_gd
      | with_reducible apply zf_ite
      | with_reducible apply zf_bd
      | with_reducible apply ih
      | with_reducible apply hc174
      | with_reducible apply fr_X7_drops a k
      | with_reducible apply fr_X7_growsOf a k
      | with_reducible apply fr_X7_hearth a k
      | with_reducible apply fr_X7_moves a k
      | with_reducible apply fr_X7_within a k
      | with_reducible apply fr_X7_nightOf_4 a k
      | with_reducible apply fr_X7_nightOf_56 a k
      | intro _
      | omega
      )
theorem fr_X7_nightOf {v : Int32} (a k : Nat) (hn : ¬ ((a = 47 ∧ (k = 8 ∨ k = 9)) ∨ a = 50 ∨ a = 51 ∨ a = 52 ∨ a = 53 ∨ a = 54 ∨ a = 66 ∨ a = 67))  {s : zMem} (hs : s a k = v) : zFp a k v (f_X7_nightOf s) := by
  unfold f_X7_nightOf
  repeat' (first
    | with_reducible exact zf_none
    | (with_reducible refine zf_some ?_); assumption
    | with_reducible assumption
    | exact (zUp_off (by omega)).trans (by assumption)
    | exact (congrFun (zCp_off (by omega)) _).trans (by assumption)
    | with_reducible apply zf_nmM
    | with_reducible apply zf_nmV
    | with_reducible apply zf_nmL
    | with_reducible apply zf_gd
    | with_reducible apply zf_ite
    | with_reducible apply zf_bd
    | with_reducible apply fr_X7_drops a k
    | with_reducible apply fr_X7_growsOf a k
    | with_reducible apply fr_X7_hearth a k
    | with_reducible apply fr_X7_moves a k
    | with_reducible apply fr_X7_within a k
    | with_reducible apply fr_X7_nightOf_4 a k
    | with_reducible apply fr_X7_nightOf_56 a k
    | with_reducible apply fr_X7_nightOf_155 a k
    | intro _
    | omega
    )
theorem fr_X7_night {v : Int32} (a k : Nat) (hn : ¬ ((a = 47 ∧ (k = 8 ∨ k = 9)) ∨ a = 50 ∨ a = 51 ∨ a = 52 ∨ a = 53 ∨ a = 54 ∨ a = 66 ∨ a = 67))  {s : zMem} (hs : s a k = v) : zFp a k v (f_X7_night s) := by
  unfold f_X7_night
  repeat' (first
    | with_reducible exact zf_none
    | (with_reducible refine zf_some ?_); assumption
    | with_reducible assumption
    | exact (zUp_off (by omega)).trans (by assumption)
    | exact (congrFun (zCp_off (by omega)) _).trans (by assumption)
    | with_reducible apply zf_nmM
    | with_reducible apply zf_nmV
    | with_reducible apply zf_nmL
    | with_reducible apply zf_gd
    | with_reducible apply zf_ite
    | with_reducible apply zf_bd
    | with_reducible apply fr_X7_nightOf a k
    | intro _
    | omega
    )
theorem fr_X7_keeps_2 {v : Int32} {c26 : zMem → Option (Unit × zMem)} (a k : Nat) (hn : ¬ (a = 68))  (hc26 : ∀ (s9 : zMem), s9 a k = v → zFp a k v (c26 s9)) : ∀ {n : Nat} {x1 : Int32} {s : zMem}, s a k = v → zFp a k v (f_X7_keeps_2 c26 n x1 s) := by
  intro n
  induction n with
  | zero => intros; exact zf_none
  | succ n ih =>
    intros
    rw [f_X7_keeps_2]
    repeat' (first
      | with_reducible exact zf_none
      | (with_reducible refine zf_some ?_); assumption
      | with_reducible assumption
      | exact (zUp_off (by omega)).trans (by assumption)
      | exact (congrFun (zCp_off (by omega)) _).trans (by assumption)
      | with_reducible apply zf_nmM
      | with_reducible apply zf_nmV
      | with_reducible apply zf_nmL
      | with_reducible apply zf_gd
      | with_reducible apply zf_ite
      | with_reducible apply zf_bd
      | with_reducible apply ih
      | with_reducible apply hc26
      | intro _
      | omega
      )
theorem fr_X7_keeps_28 {v : Int32} {c100 : zMem → Option (Unit × zMem)} (a k : Nat) (hn : ¬ (a = 68))  (hc100 : ∀ (s9 : zMem), s9 a k = v → zFp a k v (c100 s9)) : ∀ {n : Nat} {x6 : Int32} {s : zMem}, s a k = v → zFp a k v (f_X7_keeps_28 c100 n x6 s) := by
  intro n
  induction n with
  | zero => intros; exact zf_none
  | succ n ih =>
    intros
    rw [f_X7_keeps_28]
    repeat' (first
      | with_reducible exact zf_none
      | (with_reducible refine zf_some ?_); assumption
      | with_reducible assumption
      | exact (zUp_off (by omega)).trans (by assumption)
      | exact (congrFun (zCp_off (by omega)) _).trans (by assumption)
      | with_reducible apply zf_nmM
      | with_reducible apply zf_nmV
      | with_reducible apply zf_nmL
      | with_reducible apply zf_gd
      | with_reducible apply zf_ite
      | with_reducible apply zf_bd
      | with_reducible apply ih
      | with_reducible apply hc100
      | with_reducible apply fr_X7_keeps_2 a k
      | intro _
      | omega
      )
theorem fr_X7_keeps {v : Int32} (a k : Nat) (hn : ¬ (a = 68))  {s : zMem} (hs : s a k = v) : zFp a k v (f_X7_keeps s) := by
  unfold f_X7_keeps
  repeat' (first
    | with_reducible exact zf_none
    | (with_reducible refine zf_some ?_); assumption
    | with_reducible assumption
    | exact (zUp_off (by omega)).trans (by assumption)
    | exact (congrFun (zCp_off (by omega)) _).trans (by assumption)
    | with_reducible apply zf_nmM
    | with_reducible apply zf_nmV
    | with_reducible apply zf_nmL
    | with_reducible apply zf_gd
    | with_reducible apply zf_ite
    | with_reducible apply zf_bd
    | with_reducible apply fr_X7_keeps_2 a k
    | with_reducible apply fr_X7_keeps_28 a k
    | intro _
    | omega
    )
theorem fr_X7_lays_2 {v : Int32} {c26 : zMem → Option (Unit × zMem)} (a k : Nat) (hn : ¬ ((a = 47 ∧ (k = 8 ∨ k = 9)) ∨ a = 50 ∨ a = 51 ∨ a = 52 ∨ a = 53 ∨ a = 54))  (hc26 : ∀ (s9 : zMem), s9 a k = v → zFp a k v (c26 s9)) : ∀ {n : Nat} {x1 : Int32} {s : zMem}, s a k = v → zFp a k v (f_X7_lays_2 c26 n x1 s) := by
  intro n
  induction n with
  | zero => intros; exact zf_none
  | succ n ih =>
    intros
    rw [f_X7_lays_2]
    repeat' (first
      | with_reducible exact zf_none
      | (with_reducible refine zf_some ?_); assumption
      | with_reducible assumption
      | exact (zUp_off (by omega)).trans (by assumption)
      | exact (congrFun (zCp_off (by omega)) _).trans (by assumption)
      | with_reducible apply zf_nmM
      | with_reducible apply zf_nmV
      | with_reducible apply zf_nmL
      | with_reducible apply zf_gd
      | with_reducible apply zf_ite
      | with_reducible apply zf_bd
      | with_reducible apply ih
      | with_reducible apply hc26
      | intro _
      | omega
      )
theorem fr_X7_lays_28 {v : Int32} {c100 : zMem → Option (Unit × zMem)} (a k : Nat) (hn : ¬ ((a = 47 ∧ (k = 8 ∨ k = 9)) ∨ a = 50 ∨ a = 51 ∨ a = 52 ∨ a = 53 ∨ a = 54))  (hc100 : ∀ (s9 : zMem), s9 a k = v → zFp a k v (c100 s9)) : ∀ {n : Nat} {x6 : Int32} {s : zMem}, s a k = v → zFp a k v (f_X7_lays_28 c100 n x6 s) := by
  intro n
  induction n with
  | zero => intros; exact zf_none
  | succ n ih =>
    intros
    rw [f_X7_lays_28]
    repeat' (first
      | with_reducible exact zf_none
      | (with_reducible refine zf_some ?_); assumption
      | with_reducible assumption
      | exact (zUp_off (by omega)).trans (by assumption)
      | exact (congrFun (zCp_off (by omega)) _).trans (by assumption)
      | with_reducible apply zf_nmM
      | with_reducible apply zf_nmV
      | with_reducible apply zf_nmL
      | with_reducible apply zf_gd
      | with_reducible apply zf_ite
      | with_reducible apply zf_bd
      | with_reducible apply ih
      | with_reducible apply hc100
      | with_reducible apply fr_X7_lays_2 a k
      | intro _
      | omega
      )
theorem fr_X7_lays {v : Int32} (a k : Nat) (hn : ¬ ((a = 47 ∧ (k = 8 ∨ k = 9)) ∨ a = 50 ∨ a = 51 ∨ a = 52 ∨ a = 53 ∨ a = 54))  {s : zMem} (hs : s a k = v) : zFp a k v (f_X7_lays s) := by
  unfold f_X7_lays
  repeat' (first
    | with_reducible exact zf_none
    | (with_reducible refine zf_some ?_); assumption
    | with_reducible assumption
    | exact (zUp_off (by omega)).trans (by assumption)
    | exact (congrFun (zCp_off (by omega)) _).trans (by assumption)
    | with_reducible apply zf_nmM
    | with_reducible apply zf_nmV
    | with_reducible apply zf_nmL
    | with_reducible apply zf_gd
    | with_reducible apply zf_ite
    | with_reducible apply zf_bd
    | with_reducible apply fr_X7_lays_2 a k
    | with_reducible apply fr_X7_lays_28 a k
    | intro _
    | omega
    )
theorem fr_X7_goes_4 {v : Int32} (a k : Nat) (hn : ¬ ((a = 47 ∧ (k = 8 ∨ k = 9)) ∨ a = 50 ∨ a = 51 ∨ a = 52 ∨ a = 53 ∨ a = 54 ∨ a = 66 ∨ a = 67))  : ∀ {n : Nat} {x1 : Int32} {x2 : Int32} {x3 : Int32} {s : zMem}, s a k = v → zFp a k v (f_X7_goes_4 n x1 x2 x3 s) := by
  intro n
  induction n with
  | zero => intros; exact zf_none
  | succ n ih =>
    intros
    rw [f_X7_goes_4]
    repeat' (first
      | with_reducible exact zf_none
      | (with_reducible refine zf_some ?_); assumption
      | with_reducible assumption
      | exact (zUp_off (by omega)).trans (by assumption)
      | exact (congrFun (zCp_off (by omega)) _).trans (by assumption)
      | with_reducible apply zf_nmM
      | with_reducible apply zf_nmV
      | with_reducible apply zf_nmL
      | with_reducible apply zf_gd
      | with_reducible apply zf_ite
      | with_reducible apply zf_bd
      | with_reducible apply ih
      | with_reducible apply fr_X7_nightOf a k
      | intro _
      | omega
      )
theorem fr_X7_goes {v : Int32} (a k : Nat) (hn : ¬ ((a = 47 ∧ (k = 8 ∨ k = 9)) ∨ a = 50 ∨ a = 51 ∨ a = 52 ∨ a = 53 ∨ a = 54 ∨ a = 66 ∨ a = 67)) {p1 : Int32} {s : zMem} (hs : s a k = v) : zFp a k v (f_X7_goes p1 s) := by
  unfold f_X7_goes
  repeat' (first
    | with_reducible exact zf_none
    | (with_reducible refine zf_some ?_); assumption
    | with_reducible assumption
    | exact (zUp_off (by omega)).trans (by assumption)
    | exact (congrFun (zCp_off (by omega)) _).trans (by assumption)
    | with_reducible apply zf_nmM
    | with_reducible apply zf_nmV
    | with_reducible apply zf_nmL
    | with_reducible apply zf_gd
    | with_reducible apply zf_ite
    | with_reducible apply zf_bd
    | with_reducible apply fr_X7_nightOf a k
    | with_reducible apply fr_X7_goes_4 a k
    | intro _
    | omega
    )
theorem fr_X7_ones_4 {v : Int32} (a k : Nat) (hn : ¬ (False))  : ∀ {n : Nat} {x1 : Int32} {x2 : Int32} {x3 : Int32} {s : zMem}, s a k = v → zFp a k v (f_X7_ones_4 n x1 x2 x3 s) := by
  intro n
  induction n with
  | zero => intros; exact zf_none
  | succ n ih =>
    intros
    rw [f_X7_ones_4]
    repeat' (first
      | with_reducible exact zf_none
      | (with_reducible refine zf_some ?_); assumption
      | with_reducible assumption
      | exact (zUp_off (by omega)).trans (by assumption)
      | exact (congrFun (zCp_off (by omega)) _).trans (by assumption)
      | with_reducible apply zf_nmM
      | with_reducible apply zf_nmV
      | with_reducible apply zf_nmL
      | with_reducible apply zf_gd
      | with_reducible apply zf_ite
      | with_reducible apply zf_bd
      | with_reducible apply ih
      | intro _
      | omega
      )
theorem fr_X7_ones {v : Int32} (a k : Nat) (hn : ¬ (False)) {p1 : Int32} {s : zMem} (hs : s a k = v) : zFp a k v (f_X7_ones p1 s) := by
  unfold f_X7_ones
  repeat' (first
    | with_reducible exact zf_none
    | (with_reducible refine zf_some ?_); assumption
    | with_reducible assumption
    | exact (zUp_off (by omega)).trans (by assumption)
    | exact (congrFun (zCp_off (by omega)) _).trans (by assumption)
    | with_reducible apply zf_nmM
    | with_reducible apply zf_nmV
    | with_reducible apply zf_nmL
    | with_reducible apply zf_gd
    | with_reducible apply zf_ite
    | with_reducible apply zf_bd
    | with_reducible apply fr_X7_ones_4 a k
    | intro _
    | omega
    )
theorem fr_X7_run_38 {v : Int32} (a k : Nat) (hn : ¬ ((a = 47 ∧ (k = 8 ∨ k = 9)) ∨ a = 50 ∨ a = 51 ∨ a = 52 ∨ a = 53 ∨ a = 54 ∨ a = 66 ∨ a = 67 ∨ a = 68))  {x5 : Int32} {x6 : Int32} {s : zMem} (hs : s a k = v) : zFp a k v (f_X7_run_38 x5 x6 s) := by
  unfold f_X7_run_38
  repeat' (first
    | with_reducible exact zf_none
    | (with_reducible refine zf_some ?_); assumption
    | with_reducible assumption
    | exact (zUp_off (by omega)).trans (by assumption)
    | exact (congrFun (zCp_off (by omega)) _).trans (by assumption)
    | with_reducible apply zf_nmM
    | with_reducible apply zf_nmV
    | with_reducible apply zf_nmL
    | with_reducible apply zf_gd
    | with_reducible apply zf_ite
    | with_reducible apply zf_bd
    | with_reducible apply fr_X7_goes a k
    | with_reducible apply fr_X7_heatAll a k
    | with_reducible apply fr_X7_in a k
    | with_reducible apply fr_X7_keeps a k
    | with_reducible apply fr_X7_lays a k
    | with_reducible apply fr_X7_within a k
    | intro _
    | omega
    )
theorem fr_X7_run {v : Int32} (a k : Nat) (hn : ¬ ((a = 47 ∧ (k = 8 ∨ k = 9)) ∨ a = 50 ∨ a = 51 ∨ a = 52 ∨ a = 53 ∨ a = 54 ∨ a = 66 ∨ a = 67 ∨ a = 68)) {p1 : Int32} {p2 : Int32} {s : zMem} (hs : s a k = v) : zFp a k v (f_X7_run p1 p2 s) := by
  unfold f_X7_run
  repeat' (first
    | with_reducible exact zf_none
    | (with_reducible refine zf_some ?_); assumption
    | with_reducible assumption
    | exact (zUp_off (by omega)).trans (by assumption)
    | exact (congrFun (zCp_off (by omega)) _).trans (by assumption)
    | with_reducible apply zf_nmM
    | with_reducible apply zf_nmV
    | with_reducible apply zf_nmL
    | with_reducible apply zf_gd
    | with_reducible apply zf_ite
    | with_reducible apply zf_bd
    | with_reducible apply fr_X7_goes a k
    | with_reducible apply fr_X7_heatAll a k
    | with_reducible apply fr_X7_in a k
    | with_reducible apply fr_X7_keeps a k
    | with_reducible apply fr_X7_lays a k
    | with_reducible apply fr_X7_within a k
    | with_reducible apply fr_X7_run_38 a k
    | intro _
    | omega
    )
theorem fr_X7_lasts_50 {v : Int32} {c126 : Int32 → zMem → Option (Int32 × zMem)} (a k : Nat) (hn : ¬ ((a = 47 ∧ (k = 8 ∨ k = 9)) ∨ a = 50 ∨ a = 51 ∨ a = 52 ∨ a = 53 ∨ a = 54 ∨ a = 66 ∨ a = 67 ∨ a = 68))  (hc126 : ∀ (y1 : Int32) (s9 : zMem), s9 a k = v → zFp a k v (c126 y1 s9)) : ∀ {n : Nat} {x11 : Int32} {x12 : Int32} {x13 : Int32} {x14 : Int32} {s : zMem}, s a k = v → zFp a k v (f_X7_lasts_50 c126 n x11 x12 x13 x14 s) := by
  intro n
  induction n with
  | zero => intros; exact zf_none
  | succ n ih =>
    intros
    rw [f_X7_lasts_50]
    repeat' (first
      | with_reducible exact zf_none
      | (with_reducible refine zf_some ?_); assumption
      | with_reducible assumption
      | exact (zUp_off (by omega)).trans (by assumption)
      | exact (congrFun (zCp_off (by omega)) _).trans (by assumption)
      | with_reducible apply zf_nmM
      | with_reducible apply zf_nmV
      | with_reducible apply zf_nmL
      | with_reducible apply zf_gd
      | with_reducible apply zf_ite
      | with_reducible apply zf_bd
      | with_reducible apply ih
      | with_reducible apply hc126
      | with_reducible apply fr_X7_in a k
      | with_reducible apply fr_X7_isHut a k
      | with_reducible apply fr_X7_keeps a k
      | with_reducible apply fr_X7_lays a k
      | with_reducible apply fr_X7_nightOf a k
      | intro _
      | omega
      )
theorem fr_X7_lasts_47 {v : Int32} (a k : Nat) (hn : ¬ ((a = 47 ∧ (k = 8 ∨ k = 9)) ∨ a = 50 ∨ a = 51 ∨ a = 52 ∨ a = 53 ∨ a = 54 ∨ a = 66 ∨ a = 67 ∨ a = 68))  {x7 : Int32} {x8 : Int32} {x9 : Int32} {s : zMem} (hs : s a k = v) : zFp a k v (f_X7_lasts_47 x7 x8 x9 s) := by
  unfold f_X7_lasts_47
  repeat' (first
    | with_reducible exact zf_none
    | (with_reducible refine zf_some ?_); assumption
    | with_reducible assumption
    | exact (zUp_off (by omega)).trans (by assumption)
    | exact (congrFun (zCp_off (by omega)) _).trans (by assumption)
    | with_reducible apply zf_nmM
    | with_reducible apply zf_nmV
    | with_reducible apply zf_nmL
    | with_reducible apply zf_gd
    | with_reducible apply zf_ite
    | with_reducible apply zf_bd
    | with_reducible apply fr_X7_in a k
    | with_reducible apply fr_X7_isHut a k
    | with_reducible apply fr_X7_keeps a k
    | with_reducible apply fr_X7_lays a k
    | with_reducible apply fr_X7_nightOf a k
    | with_reducible apply fr_X7_lasts_50 a k
    | intro _
    | omega
    )
theorem fr_X7_lasts {v : Int32} (a k : Nat) (hn : ¬ ((a = 47 ∧ (k = 8 ∨ k = 9)) ∨ a = 50 ∨ a = 51 ∨ a = 52 ∨ a = 53 ∨ a = 54 ∨ a = 66 ∨ a = 67 ∨ a = 68)) {p1 : Int32} {p2 : Int32} {s : zMem} (hs : s a k = v) : zFp a k v (f_X7_lasts p1 p2 s) := by
  unfold f_X7_lasts
  repeat' (first
    | with_reducible exact zf_none
    | (with_reducible refine zf_some ?_); assumption
    | with_reducible assumption
    | exact (zUp_off (by omega)).trans (by assumption)
    | exact (congrFun (zCp_off (by omega)) _).trans (by assumption)
    | with_reducible apply zf_nmM
    | with_reducible apply zf_nmV
    | with_reducible apply zf_nmL
    | with_reducible apply zf_gd
    | with_reducible apply zf_ite
    | with_reducible apply zf_bd
    | with_reducible apply fr_X7_in a k
    | with_reducible apply fr_X7_isHut a k
    | with_reducible apply fr_X7_keeps a k
    | with_reducible apply fr_X7_lays a k
    | with_reducible apply fr_X7_nightOf a k
    | with_reducible apply fr_X7_lasts_50 a k
    | with_reducible apply fr_X7_lasts_47 a k
    | intro _
    | omega
    )
theorem fr_X7_net {v : Int32} (a k : Nat) (hn : ¬ (False)) {p1 : Int32} {s : zMem} (hs : s a k = v) : zFp a k v (f_X7_net p1 s) := by
  unfold f_X7_net
  repeat' (first
    | with_reducible exact zf_none
    | (with_reducible refine zf_some ?_); assumption
    | with_reducible assumption
    | exact (zUp_off (by omega)).trans (by assumption)
    | exact (congrFun (zCp_off (by omega)) _).trans (by assumption)
    | with_reducible apply zf_nmM
    | with_reducible apply zf_nmV
    | with_reducible apply zf_nmL
    | with_reducible apply zf_gd
    | with_reducible apply zf_ite
    | with_reducible apply zf_bd
    | with_reducible apply fr_X7_isHut a k
    | with_reducible apply fr_X7_owedBy a k
    | with_reducible apply fr_X7_owedTo a k
    | intro _
    | omega
    )
theorem fr_X7_settle_14 {v : Int32} {c45 : Int32 → zMem → Option (Int32 × zMem)} (a k : Nat) (hn : ¬ (a = 69))  (hc45 : ∀ (y1 : Int32) (s9 : zMem), s9 a k = v → zFp a k v (c45 y1 s9)) : ∀ {n : Nat} {x3 : Int32} {x4 : Int32} {s : zMem}, s a k = v → zFp a k v (f_X7_settle_14 c45 n x3 x4 s) := by
  intro n
  induction n with
  | zero => intros; exact zf_none
  | succ n ih =>
    intros
    rw [f_X7_settle_14]
    repeat' (first
      | with_reducible exact zf_none
      | (with_reducible refine zf_some ?_); assumption
      | with_reducible assumption
      | exact (zUp_off (by omega)).trans (by assumption)
      | exact (congrFun (zCp_off (by omega)) _).trans (by assumption)
      | with_reducible apply zf_nmM
      | with_reducible apply zf_nmV
      | with_reducible apply zf_nmL
      | with_reducible apply zf_gd
      | with_reducible apply zf_ite
      | with_reducible apply zf_bd
      | with_reducible apply ih
      | with_reducible apply hc45
      | with_reducible apply fr_X7_in a k
      | with_reducible apply fr_X7_owedBy a k
      | with_reducible apply fr_X7_owedTo a k
      | intro _
      | omega
      )
theorem fr_X7_settle_99 {v : Int32} {c66 : Int32 → Int32 → Int32 → Int32 → Int32 → Int32 → zMem → Option (Int32 × zMem)} (a k : Nat) (hn : ¬ (a = 69))  (hc66 : ∀ (y1 : Int32) (y2 : Int32) (y3 : Int32) (y4 : Int32) (y5 : Int32) (y6 : Int32) (s9 : zMem), s9 a k = v → zFp a k v (c66 y1 y2 y3 y4 y5 y6 s9)) {x26 : Int32} {x27 : Int32} {x28 : Int32} {x29 : Int32} {x30 : Int32} {t31 : Int32} {s : zMem} (hs : s a k = v) : zFp a k v (f_X7_settle_99 c66 x26 x27 x28 x29 x30 t31 s) := by
  unfold f_X7_settle_99
  repeat' (first
    | with_reducible exact zf_none
    | (with_reducible refine zf_some ?_); assumption
    | with_reducible assumption
    | exact (zUp_off (by omega)).trans (by assumption)
    | exact (congrFun (zCp_off (by omega)) _).trans (by assumption)
    | with_reducible apply zf_nmM
    | with_reducible apply zf_nmV
    | with_reducible apply zf_nmL
    | with_reducible apply zf_gd
    | with_reducible apply zf_ite
    | with_reducible apply zf_bd
    | with_reducible apply hc66
    | with_reducible apply fr_X7_in a k
    | with_reducible apply fr_X7_owedBy a k
    | with_reducible apply fr_X7_owedTo a k
    | with_reducible apply fr_X7_settle_14 a k
    | intro _
    | omega
    )
theorem fr_X7_settle_66 {v : Int32} {c133 : Int32 → Int32 → Int32 → Int32 → Int32 → zMem → Option (Int32 × zMem)} (a k : Nat) (hn : ¬ (a = 69))  (hc133 : ∀ (y1 : Int32) (y2 : Int32) (y3 : Int32) (y4 : Int32) (y5 : Int32) (s9 : zMem), s9 a k = v → zFp a k v (c133 y1 y2 y3 y4 y5 s9)) : ∀ {n : Nat} {x19 : Int32} {x20 : Int32} {x21 : Int32} {x22 : Int32} {x23 : Int32} {x24 : Int32} {s : zMem}, s a k = v → zFp a k v (f_X7_settle_66 c133 n x19 x20 x21 x22 x23 x24 s) := by
  intro n
  induction n with
  | zero => intros; exact zf_none
  | succ n ih =>
    intros
    rw [f_X7_settle_66]
    repeat' (first
      | with_reducible exact zf_none
      | (with_reducible refine zf_some ?_); assumption
      | with_reducible assumption
      | exact (zUp_off (by omega)).trans (by assumption)
      | exact (congrFun (zCp_off (by omega)) _).trans (by assumption)
      | with_reducible apply zf_nmM
      | with_reducible apply zf_nmV
      | with_reducible apply zf_nmL
      | with_reducible apply zf_gd
      | with_reducible apply zf_ite
      | with_reducible apply zf_bd
      | with_reducible apply ih
      | with_reducible apply hc133
      | with_reducible apply fr_X7_in a k
      | with_reducible apply fr_X7_owedBy a k
      | with_reducible apply fr_X7_owedTo a k
      | with_reducible apply fr_X7_settle_14 a k
      | with_reducible apply fr_X7_settle_99 a k
      | intro _
      | omega
      )
theorem fr_X7_settle_198 {v : Int32} {c52 : Int32 → Int32 → Int32 → Int32 → zMem → Option (Int32 × zMem)} (a k : Nat) (hn : ¬ (a = 69))  (hc52 : ∀ (y1 : Int32) (y2 : Int32) (y3 : Int32) (y4 : Int32) (s9 : zMem), s9 a k = v → zFp a k v (c52 y1 y2 y3 y4 s9)) {x68 : Int32} {x69 : Int32} {x70 : Int32} {x71 : Int32} {x72 : Int32} {x73 : Int32} {t74 : Int32} {s : zMem} (hs : s a k = v) : zFp a k v (f_X7_settle_198 c52 x68 x69 x70 x71 x72 x73 t74 s) := by
  unfold f_X7_settle_198
  repeat' (first
    | with_reducible exact zf_none
    | (with_reducible refine zf_some ?_); assumption
    | with_reducible assumption
    | exact (zUp_off (by omega)).trans (by assumption)
    | exact (congrFun (zCp_off (by omega)) _).trans (by assumption)
    | with_reducible apply zf_nmM
    | with_reducible apply zf_nmV
    | with_reducible apply zf_nmL
    | with_reducible apply zf_gd
    | with_reducible apply zf_ite
    | with_reducible apply zf_bd
    | with_reducible apply hc52
    | with_reducible apply fr_X7_in a k
    | with_reducible apply fr_X7_owedBy a k
    | with_reducible apply fr_X7_owedTo a k
    | with_reducible apply fr_X7_settle_14 a k
    | with_reducible apply fr_X7_settle_99 a k
    | with_reducible apply fr_X7_settle_66 a k
    | intro _
    | omega
    )
theorem fr_X7_settle_155 {v : Int32} {c52 : Int32 → Int32 → Int32 → Int32 → zMem → Option (Int32 × zMem)} (a k : Nat) (hn : ¬ (a = 69))  (hc52 : ∀ (y1 : Int32) (y2 : Int32) (y3 : Int32) (y4 : Int32) (s9 : zMem), s9 a k = v → zFp a k v (c52 y1 y2 y3 y4 s9)) {x61 : Int32} {x62 : Int32} {x63 : Int32} {x64 : Int32} {x65 : Int32} {t66 : Int32} {s : zMem} (hs : s a k = v) : zFp a k v (f_X7_settle_155 c52 x61 x62 x63 x64 x65 t66 s) := by
  unfold f_X7_settle_155
  repeat' (first
    | with_reducible exact zf_none
    | (with_reducible refine zf_some ?_); assumption
    | with_reducible assumption
    | exact (zUp_off (by omega)).trans (by assumption)
    | exact (congrFun (zCp_off (by omega)) _).trans (by assumption)
    | with_reducible apply zf_nmM
    | with_reducible apply zf_nmV
    | with_reducible apply zf_nmL
    | with_reducible apply zf_gd
    | with_reducible apply zf_ite
    | with_reducible apply zf_bd
    | with_reducible apply hc52
    | with_reducible apply fr_X7_in a k
    | with_reducible apply fr_X7_owedBy a k
    | with_reducible apply fr_X7_owedTo a k
    | with_reducible apply fr_X7_settle_14 a k
    | with_reducible apply fr_X7_settle_99 a k
    | with_reducible apply fr_X7_settle_66 a k
    | with_reducible apply fr_X7_settle_198 a k
    | intro _
    | omega
    )
theorem fr_X7_settle_154 {v : Int32} {c52 : Int32 → Int32 → Int32 → Int32 → zMem → Option (Int32 × zMem)} (a k : Nat) (hn : ¬ (a = 69))  (hc52 : ∀ (y1 : Int32) (y2 : Int32) (y3 : Int32) (y4 : Int32) (s9 : zMem), s9 a k = v → zFp a k v (c52 y1 y2 y3 y4 s9)) {x55 : Int32} {x56 : Int32} {x57 : Int32} {x58 : Int32} {x59 : Int32} {s : zMem} (hs : s a k = v) : zFp a k v (f_X7_settle_154 c52 x55 x56 x57 x58 x59 s) := by
  unfold f_X7_settle_154
  repeat' (first
    | with_reducible exact zf_none
    | (with_reducible refine zf_some ?_); assumption
    | with_reducible assumption
    | exact (zUp_off (by omega)).trans (by assumption)
    | exact (congrFun (zCp_off (by omega)) _).trans (by assumption)
    | with_reducible apply zf_nmM
    | with_reducible apply zf_nmV
    | with_reducible apply zf_nmL
    | with_reducible apply zf_gd
    | with_reducible apply zf_ite
    | with_reducible apply zf_bd
    | with_reducible apply hc52
    | with_reducible apply fr_X7_in a k
    | with_reducible apply fr_X7_owedBy a k
    | with_reducible apply fr_X7_owedTo a k
    | with_reducible apply fr_X7_settle_14 a k
    | with_reducible apply fr_X7_settle_99 a k
    | with_reducible apply fr_X7_settle_66 a k
    | with_reducible apply fr_X7_settle_198 a k
    | with_reducible apply fr_X7_settle_155 a k
    | intro _
    | omega
    )
theorem fr_X7_settle_52 {v : Int32} {c235 : Int32 → Int32 → Int32 → zMem → Option (Int32 × zMem)} (a k : Nat) (hn : ¬ (a = 69))  (hc235 : ∀ (y1 : Int32) (y2 : Int32) (y3 : Int32) (s9 : zMem), s9 a k = v → zFp a k v (c235 y1 y2 y3 s9)) : ∀ {n : Nat} {x14 : Int32} {x15 : Int32} {x16 : Int32} {x17 : Int32} {s : zMem}, s a k = v → zFp a k v (f_X7_settle_52 c235 n x14 x15 x16 x17 s) := by
  intro n
  induction n with
  | zero => intros; exact zf_none
  | succ n ih =>
    intros
    rw [f_X7_settle_52]
    repeat' (first
      | with_reducible exact zf_none
      | (with_reducible refine zf_some ?_); assumption
      | with_reducible assumption
      | exact (zUp_off (by omega)).trans (by assumption)
      | exact (congrFun (zCp_off (by omega)) _).trans (by assumption)
      | with_reducible apply zf_nmM
      | with_reducible apply zf_nmV
      | with_reducible apply zf_nmL
      | with_reducible apply zf_gd
      | with_reducible apply zf_ite
      | with_reducible apply zf_bd
      | with_reducible apply ih
      | with_reducible apply hc235
      | with_reducible apply fr_X7_in a k
      | with_reducible apply fr_X7_owedBy a k
      | with_reducible apply fr_X7_owedTo a k
      | with_reducible apply fr_X7_settle_14 a k
      | with_reducible apply fr_X7_settle_99 a k
      | with_reducible apply fr_X7_settle_66 a k
      | with_reducible apply fr_X7_settle_198 a k
      | with_reducible apply fr_X7_settle_155 a k
      | with_reducible apply fr_X7_settle_154 a k
      | intro _
      | omega
      )
theorem fr_X7_settle {v : Int32} (a k : Nat) (hn : ¬ (a = 69)) {p1 : Int32} {s : zMem} (hs : s a k = v) : zFp a k v (f_X7_settle p1 s) := by
  unfold f_X7_settle
  repeat' (first
    | with_reducible exact zf_none
    | (with_reducible refine zf_some ?_); assumption
    | with_reducible assumption
    | exact (zUp_off (by omega)).trans (by assumption)
    | exact (congrFun (zCp_off (by omega)) _).trans (by assumption)
    | with_reducible apply zf_nmM
    | with_reducible apply zf_nmV
    | with_reducible apply zf_nmL
    | with_reducible apply zf_gd
    | with_reducible apply zf_ite
    | with_reducible apply zf_bd
    | with_reducible apply fr_X7_in a k
    | with_reducible apply fr_X7_owedBy a k
    | with_reducible apply fr_X7_owedTo a k
    | with_reducible apply fr_X7_settle_14 a k
    | with_reducible apply fr_X7_settle_99 a k
    | with_reducible apply fr_X7_settle_66 a k
    | with_reducible apply fr_X7_settle_198 a k
    | with_reducible apply fr_X7_settle_155 a k
    | with_reducible apply fr_X7_settle_154 a k
    | with_reducible apply fr_X7_settle_52 a k
    | intro _
    | omega
    )
theorem fr_X7_sourceOf_54 {v : Int32} {c14 : Int32 → Int32 → Int32 → Int32 → zMem → Option (Int32 × zMem)} (a k : Nat) (hn : ¬ (False))  (hc14 : ∀ (y1 : Int32) (y2 : Int32) (y3 : Int32) (y4 : Int32) (s9 : zMem), s9 a k = v → zFp a k v (c14 y1 y2 y3 y4 s9)) {x15 : Int32} {x16 : Int32} {x17 : Int32} {x18 : Int32} {t19 : Int32} {s : zMem} (hs : s a k = v) : zFp a k v (f_X7_sourceOf_54 c14 x15 x16 x17 x18 t19 s) := by
  unfold f_X7_sourceOf_54
  repeat' (first
    | with_reducible exact zf_none
    | (with_reducible refine zf_some ?_); assumption
    | with_reducible assumption
    | exact (zUp_off (by omega)).trans (by assumption)
    | exact (congrFun (zCp_off (by omega)) _).trans (by assumption)
    | with_reducible apply zf_nmM
    | with_reducible apply zf_nmV
    | with_reducible apply zf_nmL
    | with_reducible apply zf_gd
    | with_reducible apply zf_ite
    | with_reducible apply zf_bd
    | with_reducible apply hc14
    | intro _
    | omega
    )
theorem fr_X7_sourceOf_49 {v : Int32} {c14 : Int32 → Int32 → Int32 → Int32 → zMem → Option (Int32 × zMem)} (a k : Nat) (hn : ¬ (False))  (hc14 : ∀ (y1 : Int32) (y2 : Int32) (y3 : Int32) (y4 : Int32) (s9 : zMem), s9 a k = v → zFp a k v (c14 y1 y2 y3 y4 s9)) {x10 : Int32} {x11 : Int32} {x12 : Int32} {x13 : Int32} {s : zMem} (hs : s a k = v) : zFp a k v (f_X7_sourceOf_49 c14 x10 x11 x12 x13 s) := by
  unfold f_X7_sourceOf_49
  repeat' (first
    | with_reducible exact zf_none
    | (with_reducible refine zf_some ?_); assumption
    | with_reducible assumption
    | exact (zUp_off (by omega)).trans (by assumption)
    | exact (congrFun (zCp_off (by omega)) _).trans (by assumption)
    | with_reducible apply zf_nmM
    | with_reducible apply zf_nmV
    | with_reducible apply zf_nmL
    | with_reducible apply zf_gd
    | with_reducible apply zf_ite
    | with_reducible apply zf_bd
    | with_reducible apply hc14
    | with_reducible apply fr_X7_sourceOf_54 a k
    | intro _
    | omega
    )
theorem fr_X7_sourceOf_14 {v : Int32} {c83 : Int32 → Int32 → Int32 → zMem → Option (Int32 × zMem)} (a k : Nat) (hn : ¬ (False))  (hc83 : ∀ (y1 : Int32) (y2 : Int32) (y3 : Int32) (s9 : zMem), s9 a k = v → zFp a k v (c83 y1 y2 y3 s9)) : ∀ {n : Nat} {x5 : Int32} {x6 : Int32} {x7 : Int32} {x8 : Int32} {s : zMem}, s a k = v → zFp a k v (f_X7_sourceOf_14 c83 n x5 x6 x7 x8 s) := by
  intro n
  induction n with
  | zero => intros; exact zf_none
  | succ n ih =>
    intros
    rw [f_X7_sourceOf_14]
    repeat' (first
      | with_reducible exact zf_none
      | (with_reducible refine zf_some ?_); assumption
      | with_reducible assumption
      | exact (zUp_off (by omega)).trans (by assumption)
      | exact (congrFun (zCp_off (by omega)) _).trans (by assumption)
      | with_reducible apply zf_nmM
      | with_reducible apply zf_nmV
      | with_reducible apply zf_nmL
      | with_reducible apply zf_gd
      | with_reducible apply zf_ite
      | with_reducible apply zf_bd
      | with_reducible apply ih
      | with_reducible apply hc83
      | with_reducible apply fr_X7_sourceOf_54 a k
      | with_reducible apply fr_X7_sourceOf_49 a k
      | intro _
      | omega
      )
theorem fr_X7_sourceOf_4 {v : Int32} (a k : Nat) (hn : ¬ (False))  : ∀ {n : Nat} {x1 : Int32} {x2 : Int32} {x3 : Int32} {s : zMem}, s a k = v → zFp a k v (f_X7_sourceOf_4 n x1 x2 x3 s) := by
  intro n
  induction n with
  | zero => intros; exact zf_none
  | succ n ih =>
    intros
    rw [f_X7_sourceOf_4]
    repeat' (first
      | with_reducible exact zf_none
      | (with_reducible refine zf_some ?_); assumption
      | with_reducible assumption
      | exact (zUp_off (by omega)).trans (by assumption)
      | exact (congrFun (zCp_off (by omega)) _).trans (by assumption)
      | with_reducible apply zf_nmM
      | with_reducible apply zf_nmV
      | with_reducible apply zf_nmL
      | with_reducible apply zf_gd
      | with_reducible apply zf_ite
      | with_reducible apply zf_bd
      | with_reducible apply ih
      | with_reducible apply fr_X7_sourceOf_54 a k
      | with_reducible apply fr_X7_sourceOf_49 a k
      | with_reducible apply fr_X7_sourceOf_14 a k
      | intro _
      | omega
      )
theorem fr_X7_sourceOf {v : Int32} (a k : Nat) (hn : ¬ (False)) {p1 : Int32} {s : zMem} (hs : s a k = v) : zFp a k v (f_X7_sourceOf p1 s) := by
  unfold f_X7_sourceOf
  repeat' (first
    | with_reducible exact zf_none
    | (with_reducible refine zf_some ?_); assumption
    | with_reducible assumption
    | exact (zUp_off (by omega)).trans (by assumption)
    | exact (congrFun (zCp_off (by omega)) _).trans (by assumption)
    | with_reducible apply zf_nmM
    | with_reducible apply zf_nmV
    | with_reducible apply zf_nmL
    | with_reducible apply zf_gd
    | with_reducible apply zf_ite
    | with_reducible apply zf_bd
    | with_reducible apply fr_X7_sourceOf_54 a k
    | with_reducible apply fr_X7_sourceOf_49 a k
    | with_reducible apply fr_X7_sourceOf_14 a k
    | with_reducible apply fr_X7_sourceOf_4 a k
    | intro _
    | omega
    )
theorem fr_X7_source {v : Int32} (a k : Nat) (hn : ¬ (False)) {p1 : Int32} {s : zMem} (hs : s a k = v) : zFp a k v (f_X7_source p1 s) := by
  unfold f_X7_source
  repeat' (first
    | with_reducible exact zf_none
    | (with_reducible refine zf_some ?_); assumption
    | with_reducible assumption
    | exact (zUp_off (by omega)).trans (by assumption)
    | exact (congrFun (zCp_off (by omega)) _).trans (by assumption)
    | with_reducible apply zf_nmM
    | with_reducible apply zf_nmV
    | with_reducible apply zf_nmL
    | with_reducible apply zf_gd
    | with_reducible apply zf_ite
    | with_reducible apply zf_bd
    | with_reducible apply fr_X7_isHut a k
    | with_reducible apply fr_X7_sourceOf a k
    | intro _
    | omega
    )
theorem fr_X7_rings_16 {v : Int32} (a k : Nat) (hn : ¬ (False))  : ∀ {n : Nat} {x3 : Int32} {x4 : Int32} {x5 : Int32} {s : zMem}, s a k = v → zFp a k v (f_X7_rings_16 n x3 x4 x5 s) := by
  intro n
  induction n with
  | zero => intros; exact zf_none
  | succ n ih =>
    intros
    rw [f_X7_rings_16]
    repeat' (first
      | with_reducible exact zf_none
      | (with_reducible refine zf_some ?_); assumption
      | with_reducible assumption
      | exact (zUp_off (by omega)).trans (by assumption)
      | exact (congrFun (zCp_off (by omega)) _).trans (by assumption)
      | with_reducible apply zf_nmM
      | with_reducible apply zf_nmV
      | with_reducible apply zf_nmL
      | with_reducible apply zf_gd
      | with_reducible apply zf_ite
      | with_reducible apply zf_bd
      | with_reducible apply ih
      | with_reducible apply fr_X7_in a k
      | with_reducible apply fr_X7_lentBy a k
      | with_reducible apply fr_X7_sourceOf a k
      | intro _
      | omega
      )
theorem fr_X7_rings {v : Int32} (a k : Nat) (hn : ¬ (False)) {p1 : Int32} {s : zMem} (hs : s a k = v) : zFp a k v (f_X7_rings p1 s) := by
  unfold f_X7_rings
  repeat' (first
    | with_reducible exact zf_none
    | (with_reducible refine zf_some ?_); assumption
    | with_reducible assumption
    | exact (zUp_off (by omega)).trans (by assumption)
    | exact (congrFun (zCp_off (by omega)) _).trans (by assumption)
    | with_reducible apply zf_nmM
    | with_reducible apply zf_nmV
    | with_reducible apply zf_nmL
    | with_reducible apply zf_gd
    | with_reducible apply zf_ite
    | with_reducible apply zf_bd
    | with_reducible apply fr_X7_in a k
    | with_reducible apply fr_X7_lentBy a k
    | with_reducible apply fr_X7_sourceOf a k
    | with_reducible apply fr_X7_rings_16 a k
    | intro _
    | omega
    )
theorem fr_X7_ask_48 {v : Int32} {c156 : Int32 → Int32 → Int32 → zMem → Option (Int32 × zMem)} (a k : Nat) (hn : ¬ ((a = 47 ∧ (k = 8 ∨ k = 9)) ∨ a = 50 ∨ a = 51 ∨ a = 52 ∨ a = 53 ∨ a = 54 ∨ a = 66 ∨ a = 67 ∨ a = 68))  (hc156 : ∀ (y1 : Int32) (y2 : Int32) (y3 : Int32) (s9 : zMem), s9 a k = v → zFp a k v (c156 y1 y2 y3 s9)) : ∀ {n : Nat} {x7 : Int32} {x8 : Int32} {x9 : Int32} {x10 : Int32} {x11 : Int32} {x12 : Int32} {s : zMem}, s a k = v → zFp a k v (f_X7_ask_48 c156 n x7 x8 x9 x10 x11 x12 s) := by
  intro n
  induction n with
  | zero => intros; exact zf_none
  | succ n ih =>
    intros
    rw [f_X7_ask_48]
    repeat' (first
      | with_reducible exact zf_none
      | (with_reducible refine zf_some ?_); assumption
      | with_reducible assumption
      | exact (zUp_off (by omega)).trans (by assumption)
      | exact (congrFun (zCp_off (by omega)) _).trans (by assumption)
      | with_reducible apply zf_nmM
      | with_reducible apply zf_nmV
      | with_reducible apply zf_nmL
      | with_reducible apply zf_gd
      | with_reducible apply zf_ite
      | with_reducible apply zf_bd
      | with_reducible apply ih
      | with_reducible apply hc156
      | with_reducible apply fr_X7_areCoalNights a k
      | with_reducible apply fr_X7_goes a k
      | with_reducible apply fr_X7_heatAll a k
      | with_reducible apply fr_X7_in a k
      | with_reducible apply fr_X7_isHut a k
      | with_reducible apply fr_X7_keeps a k
      | with_reducible apply fr_X7_lays a k
      | with_reducible apply fr_X7_lends a k
      | with_reducible apply fr_X7_mayLend a k
      | intro _
      | omega
      )
theorem fr_X7_ask {v : Int32} (a k : Nat) (hn : ¬ ((a = 47 ∧ (k = 8 ∨ k = 9)) ∨ a = 50 ∨ a = 51 ∨ a = 52 ∨ a = 53 ∨ a = 54 ∨ a = 66 ∨ a = 67 ∨ a = 68)) {p1 : Int32} {p2 : Int32} {p3 : Int32} {s : zMem} (hs : s a k = v) : zFp a k v (f_X7_ask p1 p2 p3 s) := by
  unfold f_X7_ask
  repeat' (first
    | with_reducible exact zf_none
    | (with_reducible refine zf_some ?_); assumption
    | with_reducible assumption
    | exact (zUp_off (by omega)).trans (by assumption)
    | exact (congrFun (zCp_off (by omega)) _).trans (by assumption)
    | with_reducible apply zf_nmM
    | with_reducible apply zf_nmV
    | with_reducible apply zf_nmL
    | with_reducible apply zf_gd
    | with_reducible apply zf_ite
    | with_reducible apply zf_bd
    | with_reducible apply fr_X7_areCoalNights a k
    | with_reducible apply fr_X7_goes a k
    | with_reducible apply fr_X7_heatAll a k
    | with_reducible apply fr_X7_in a k
    | with_reducible apply fr_X7_isHut a k
    | with_reducible apply fr_X7_keeps a k
    | with_reducible apply fr_X7_lays a k
    | with_reducible apply fr_X7_lends a k
    | with_reducible apply fr_X7_mayLend a k
    | with_reducible apply fr_X7_ask_48 a k
    | intro _
    | omega
    )
theorem fr_X7_needs_26 {v : Int32} (a k : Nat) (hn : ¬ ((a = 47 ∧ (k = 8 ∨ k = 9)) ∨ a = 50 ∨ a = 51 ∨ a = 52 ∨ a = 53 ∨ a = 54 ∨ a = 66 ∨ a = 67 ∨ a = 68))  : ∀ {n : Nat} {x5 : Int32} {x6 : Int32} {x7 : Int32} {s : zMem}, s a k = v → zFp a k v (f_X7_needs_26 n x5 x6 x7 s) := by
  intro n
  induction n with
  | zero => intros; exact zf_none
  | succ n ih =>
    intros
    rw [f_X7_needs_26]
    repeat' (first
      | with_reducible exact zf_none
      | (with_reducible refine zf_some ?_); assumption
      | with_reducible assumption
      | exact (zUp_off (by omega)).trans (by assumption)
      | exact (congrFun (zCp_off (by omega)) _).trans (by assumption)
      | with_reducible apply zf_nmM
      | with_reducible apply zf_nmV
      | with_reducible apply zf_nmL
      | with_reducible apply zf_gd
      | with_reducible apply zf_ite
      | with_reducible apply zf_bd
      | with_reducible apply ih
      | with_reducible apply fr_X7_goes a k
      | with_reducible apply fr_X7_in a k
      | with_reducible apply fr_X7_isHut a k
      | with_reducible apply fr_X7_keeps a k
      | with_reducible apply fr_X7_lays a k
      | intro _
      | omega
      )
theorem fr_X7_needs {v : Int32} (a k : Nat) (hn : ¬ ((a = 47 ∧ (k = 8 ∨ k = 9)) ∨ a = 50 ∨ a = 51 ∨ a = 52 ∨ a = 53 ∨ a = 54 ∨ a = 66 ∨ a = 67 ∨ a = 68)) {p1 : Int32} {p2 : Int32} {s : zMem} (hs : s a k = v) : zFp a k v (f_X7_needs p1 p2 s) := by
  unfold f_X7_needs
  repeat' (first
    | with_reducible exact zf_none
    | (with_reducible refine zf_some ?_); assumption
    | with_reducible assumption
    | exact (zUp_off (by omega)).trans (by assumption)
    | exact (congrFun (zCp_off (by omega)) _).trans (by assumption)
    | with_reducible apply zf_nmM
    | with_reducible apply zf_nmV
    | with_reducible apply zf_nmL
    | with_reducible apply zf_gd
    | with_reducible apply zf_ite
    | with_reducible apply zf_bd
    | with_reducible apply fr_X7_goes a k
    | with_reducible apply fr_X7_in a k
    | with_reducible apply fr_X7_isHut a k
    | with_reducible apply fr_X7_keeps a k
    | with_reducible apply fr_X7_lays a k
    | with_reducible apply fr_X7_needs_26 a k
    | intro _
    | omega
    )
theorem fr_X7_failsBut {v : Int32} (a k : Nat) (hn : ¬ ((a = 47 ∧ (k = 8 ∨ k = 9)) ∨ a = 50 ∨ a = 51 ∨ a = 52 ∨ a = 53 ∨ a = 54 ∨ a = 66 ∨ a = 67 ∨ a = 68)) {p1 : Int32} {p2 : Int32} {s : zMem} (hs : s a k = v) : zFp a k v (f_X7_failsBut p1 p2 s) := by
  unfold f_X7_failsBut
  repeat' (first
    | with_reducible exact zf_none
    | (with_reducible refine zf_some ?_); assumption
    | with_reducible assumption
    | exact (zUp_off (by omega)).trans (by assumption)
    | exact (congrFun (zCp_off (by omega)) _).trans (by assumption)
    | with_reducible apply zf_nmM
    | with_reducible apply zf_nmV
    | with_reducible apply zf_nmL
    | with_reducible apply zf_gd
    | with_reducible apply zf_ite
    | with_reducible apply zf_bd
    | with_reducible apply fr_X7_drops a k
    | with_reducible apply fr_X7_goes a k
    | with_reducible apply fr_X7_keeps a k
    | with_reducible apply fr_X7_lays a k
    | with_reducible apply fr_X7_ones a k
    | intro _
    | omega
    )
theorem fr_X7_mercy_35 {v : Int32} {c89 : Int32 → Int32 → Int32 → zMem → Option (Int32 × zMem)} (a k : Nat) (hn : ¬ ((a = 47 ∧ (k = 8 ∨ k = 9)) ∨ a = 50 ∨ a = 51 ∨ a = 52 ∨ a = 53 ∨ a = 54 ∨ a = 66 ∨ a = 67 ∨ a = 68))  (hc89 : ∀ (y1 : Int32) (y2 : Int32) (y3 : Int32) (s9 : zMem), s9 a k = v → zFp a k v (c89 y1 y2 y3 s9)) : ∀ {n : Nat} {x7 : Int32} {x8 : Int32} {x9 : Int32} {x10 : Int32} {x11 : Int32} {s : zMem}, s a k = v → zFp a k v (f_X7_mercy_35 c89 n x7 x8 x9 x10 x11 s) := by
  intro n
  induction n with
  | zero => intros; exact zf_none
  | succ n ih =>
    intros
    rw [f_X7_mercy_35]
    repeat' (first
      | with_reducible exact zf_none
      | (with_reducible refine zf_some ?_); assumption
      | with_reducible assumption
      | exact (zUp_off (by omega)).trans (by assumption)
      | exact (congrFun (zCp_off (by omega)) _).trans (by assumption)
      | with_reducible apply zf_nmM
      | with_reducible apply zf_nmV
      | with_reducible apply zf_nmL
      | with_reducible apply zf_gd
      | with_reducible apply zf_ite
      | with_reducible apply zf_bd
      | with_reducible apply ih
      | with_reducible apply hc89
      | with_reducible apply fr_X7_failsBut a k
      | with_reducible apply fr_X7_in a k
      | intro _
      | omega
      )
theorem fr_X7_mercy {v : Int32} (a k : Nat) (hn : ¬ ((a = 47 ∧ (k = 8 ∨ k = 9)) ∨ a = 50 ∨ a = 51 ∨ a = 52 ∨ a = 53 ∨ a = 54 ∨ a = 66 ∨ a = 67 ∨ a = 68)) {p1 : Int32} {p2 : Int32} {s : zMem} (hs : s a k = v) : zFp a k v (f_X7_mercy p1 p2 s) := by
  unfold f_X7_mercy
  repeat' (first
    | with_reducible exact zf_none
    | (with_reducible refine zf_some ?_); assumption
    | with_reducible assumption
    | exact (zUp_off (by omega)).trans (by assumption)
    | exact (congrFun (zCp_off (by omega)) _).trans (by assumption)
    | with_reducible apply zf_nmM
    | with_reducible apply zf_nmV
    | with_reducible apply zf_nmL
    | with_reducible apply zf_gd
    | with_reducible apply zf_ite
    | with_reducible apply zf_bd
    | with_reducible apply fr_X7_failsBut a k
    | with_reducible apply fr_X7_in a k
    | with_reducible apply fr_X7_mercy_35 a k
    | intro _
    | omega
    )
theorem fr_X7_worst_108 {v : Int32} {c30 : Int32 → Int32 → Int32 → Int32 → Int32 → zMem → Option (Int32 × zMem)} (a k : Nat) (hn : ¬ ((a = 47 ∧ (k = 8 ∨ k = 9)) ∨ a = 50 ∨ a = 51 ∨ a = 52 ∨ a = 53 ∨ a = 54 ∨ a = 66 ∨ a = 67 ∨ a = 68))  (hc30 : ∀ (y1 : Int32) (y2 : Int32) (y3 : Int32) (y4 : Int32) (y5 : Int32) (s9 : zMem), s9 a k = v → zFp a k v (c30 y1 y2 y3 y4 y5 s9)) {x29 : Int32} {x30 : Int32} {x31 : Int32} {x32 : Int32} {x33 : Int32} {x34 : Int32} {t35 : Int32} {s : zMem} (hs : s a k = v) : zFp a k v (f_X7_worst_108 c30 x29 x30 x31 x32 x33 x34 t35 s) := by
  unfold f_X7_worst_108
  repeat' (first
    | with_reducible exact zf_none
    | (with_reducible refine zf_some ?_); assumption
    | with_reducible assumption
    | exact (zUp_off (by omega)).trans (by assumption)
    | exact (congrFun (zCp_off (by omega)) _).trans (by assumption)
    | with_reducible apply zf_nmM
    | with_reducible apply zf_nmV
    | with_reducible apply zf_nmL
    | with_reducible apply zf_gd
    | with_reducible apply zf_ite
    | with_reducible apply zf_bd
    | with_reducible apply hc30
    | with_reducible apply fr_X7_goes a k
    | with_reducible apply fr_X7_heatAll a k
    | with_reducible apply fr_X7_in a k
    | with_reducible apply fr_X7_keeps a k
    | with_reducible apply fr_X7_lays a k
    | intro _
    | omega
    )
theorem fr_X7_worst_103 {v : Int32} {c30 : Int32 → Int32 → Int32 → Int32 → Int32 → zMem → Option (Int32 × zMem)} (a k : Nat) (hn : ¬ ((a = 47 ∧ (k = 8 ∨ k = 9)) ∨ a = 50 ∨ a = 51 ∨ a = 52 ∨ a = 53 ∨ a = 54 ∨ a = 66 ∨ a = 67 ∨ a = 68))  (hc30 : ∀ (y1 : Int32) (y2 : Int32) (y3 : Int32) (y4 : Int32) (y5 : Int32) (s9 : zMem), s9 a k = v → zFp a k v (c30 y1 y2 y3 y4 y5 s9)) {x22 : Int32} {x23 : Int32} {x24 : Int32} {x25 : Int32} {x26 : Int32} {x27 : Int32} {s : zMem} (hs : s a k = v) : zFp a k v (f_X7_worst_103 c30 x22 x23 x24 x25 x26 x27 s) := by
  unfold f_X7_worst_103
  repeat' (first
    | with_reducible exact zf_none
    | (with_reducible refine zf_some ?_); assumption
    | with_reducible assumption
    | exact (zUp_off (by omega)).trans (by assumption)
    | exact (congrFun (zCp_off (by omega)) _).trans (by assumption)
    | with_reducible apply zf_nmM
    | with_reducible apply zf_nmV
    | with_reducible apply zf_nmL
    | with_reducible apply zf_gd
    | with_reducible apply zf_ite
    | with_reducible apply zf_bd
    | with_reducible apply hc30
    | with_reducible apply fr_X7_goes a k
    | with_reducible apply fr_X7_heatAll a k
    | with_reducible apply fr_X7_in a k
    | with_reducible apply fr_X7_keeps a k
    | with_reducible apply fr_X7_lays a k
    | with_reducible apply fr_X7_worst_108 a k
    | intro _
    | omega
    )
theorem fr_X7_worst_30 {v : Int32} {c142 : Int32 → Int32 → Int32 → zMem → Option (Int32 × zMem)} (a k : Nat) (hn : ¬ ((a = 47 ∧ (k = 8 ∨ k = 9)) ∨ a = 50 ∨ a = 51 ∨ a = 52 ∨ a = 53 ∨ a = 54 ∨ a = 66 ∨ a = 67 ∨ a = 68))  (hc142 : ∀ (y1 : Int32) (y2 : Int32) (y3 : Int32) (s9 : zMem), s9 a k = v → zFp a k v (c142 y1 y2 y3 s9)) : ∀ {n : Nat} {x5 : Int32} {x6 : Int32} {x7 : Int32} {x8 : Int32} {x9 : Int32} {s : zMem}, s a k = v → zFp a k v (f_X7_worst_30 c142 n x5 x6 x7 x8 x9 s) := by
  intro n
  induction n with
  | zero => intros; exact zf_none
  | succ n ih =>
    intros
    rw [f_X7_worst_30]
    repeat' (first
      | with_reducible exact zf_none
      | (with_reducible refine zf_some ?_); assumption
      | with_reducible assumption
      | exact (zUp_off (by omega)).trans (by assumption)
      | exact (congrFun (zCp_off (by omega)) _).trans (by assumption)
      | with_reducible apply zf_nmM
      | with_reducible apply zf_nmV
      | with_reducible apply zf_nmL
      | with_reducible apply zf_gd
      | with_reducible apply zf_ite
      | with_reducible apply zf_bd
      | with_reducible apply ih
      | with_reducible apply hc142
      | with_reducible apply fr_X7_goes a k
      | with_reducible apply fr_X7_heatAll a k
      | with_reducible apply fr_X7_in a k
      | with_reducible apply fr_X7_keeps a k
      | with_reducible apply fr_X7_lays a k
      | with_reducible apply fr_X7_worst_108 a k
      | with_reducible apply fr_X7_worst_103 a k
      | intro _
      | omega
      )
theorem fr_X7_worst {v : Int32} (a k : Nat) (hn : ¬ ((a = 47 ∧ (k = 8 ∨ k = 9)) ∨ a = 50 ∨ a = 51 ∨ a = 52 ∨ a = 53 ∨ a = 54 ∨ a = 66 ∨ a = 67 ∨ a = 68)) {p1 : Int32} {p2 : Int32} {s : zMem} (hs : s a k = v) : zFp a k v (f_X7_worst p1 p2 s) := by
  unfold f_X7_worst
  repeat' (first
    | with_reducible exact zf_none
    | (with_reducible refine zf_some ?_); assumption
    | with_reducible assumption
    | exact (zUp_off (by omega)).trans (by assumption)
    | exact (congrFun (zCp_off (by omega)) _).trans (by assumption)
    | with_reducible apply zf_nmM
    | with_reducible apply zf_nmV
    | with_reducible apply zf_nmL
    | with_reducible apply zf_gd
    | with_reducible apply zf_ite
    | with_reducible apply zf_bd
    | with_reducible apply fr_X7_goes a k
    | with_reducible apply fr_X7_heatAll a k
    | with_reducible apply fr_X7_in a k
    | with_reducible apply fr_X7_keeps a k
    | with_reducible apply fr_X7_lays a k
    | with_reducible apply fr_X7_worst_108 a k
    | with_reducible apply fr_X7_worst_103 a k
    | with_reducible apply fr_X7_worst_30 a k
    | intro _
    | omega
    )
theorem fr_X7_sheetWrong {v : Int32} (a k : Nat) (hn : ¬ (False)) {p1 : Int32} {s : zMem} (hs : s a k = v) : zFp a k v (f_X7_sheetWrong p1 s) := by
  unfold f_X7_sheetWrong
  repeat' (first
    | with_reducible exact zf_none
    | (with_reducible refine zf_some ?_); assumption
    | with_reducible assumption
    | exact (zUp_off (by omega)).trans (by assumption)
    | exact (congrFun (zCp_off (by omega)) _).trans (by assumption)
    | with_reducible apply zf_nmM
    | with_reducible apply zf_nmV
    | with_reducible apply zf_nmL
    | with_reducible apply zf_gd
    | with_reducible apply zf_ite
    | with_reducible apply zf_bd
    | with_reducible apply fr_X7_in a k
    | intro _
    | omega
    )
theorem fr_X7_toldWrong {v : Int32} (a k : Nat) (hn : ¬ (False)) {p1 : Int32} {p2 : Int32} {s : zMem} (hs : s a k = v) : zFp a k v (f_X7_toldWrong p1 p2 s) := by
  unfold f_X7_toldWrong
  repeat' (first
    | with_reducible exact zf_none
    | (with_reducible refine zf_some ?_); assumption
    | with_reducible assumption
    | exact (zUp_off (by omega)).trans (by assumption)
    | exact (congrFun (zCp_off (by omega)) _).trans (by assumption)
    | with_reducible apply zf_nmM
    | with_reducible apply zf_nmV
    | with_reducible apply zf_nmL
    | with_reducible apply zf_gd
    | with_reducible apply zf_ite
    | with_reducible apply zf_bd
    | with_reducible apply fr_X7_isHut a k
    | with_reducible apply fr_X7_sheetWrong a k
    | intro _
    | omega
    )
theorem fr_X7_unlike_9 {v : Int32} {c66 : Int32 → zMem → Option (Int32 × zMem)} (a k : Nat) (hn : ¬ ((a = 47 ∧ (k = 8 ∨ k = 9)) ∨ a = 50 ∨ a = 51 ∨ a = 52 ∨ a = 53 ∨ a = 54 ∨ a = 66 ∨ a = 67 ∨ a = 68))  (hc66 : ∀ (y1 : Int32) (s9 : zMem), s9 a k = v → zFp a k v (c66 y1 s9)) : ∀ {n : Nat} {x3 : Int32} {x4 : Int32} {x5 : Int32} {x6 : Int32} {s : zMem}, s a k = v → zFp a k v (f_X7_unlike_9 c66 n x3 x4 x5 x6 s) := by
  intro n
  induction n with
  | zero => intros; exact zf_none
  | succ n ih =>
    intros
    rw [f_X7_unlike_9]
    repeat' (first
      | with_reducible exact zf_none
      | (with_reducible refine zf_some ?_); assumption
      | with_reducible assumption
      | exact (zUp_off (by omega)).trans (by assumption)
      | exact (congrFun (zCp_off (by omega)) _).trans (by assumption)
      | with_reducible apply zf_nmM
      | with_reducible apply zf_nmV
      | with_reducible apply zf_nmL
      | with_reducible apply zf_gd
      | with_reducible apply zf_ite
      | with_reducible apply zf_bd
      | with_reducible apply ih
      | with_reducible apply hc66
      | with_reducible apply fr_X7_keeps a k
      | with_reducible apply fr_X7_lays a k
      | with_reducible apply fr_X7_nightOf a k
      | intro _
      | omega
      )
theorem fr_X7_unlike {v : Int32} (a k : Nat) (hn : ¬ ((a = 47 ∧ (k = 8 ∨ k = 9)) ∨ a = 50 ∨ a = 51 ∨ a = 52 ∨ a = 53 ∨ a = 54 ∨ a = 66 ∨ a = 67 ∨ a = 68)) {p1 : Int32} {p2 : Int32} {s : zMem} (hs : s a k = v) : zFp a k v (f_X7_unlike p1 p2 s) := by
  unfold f_X7_unlike
  repeat' (first
    | with_reducible exact zf_none
    | (with_reducible refine zf_some ?_); assumption
    | with_reducible assumption
    | exact (zUp_off (by omega)).trans (by assumption)
    | exact (congrFun (zCp_off (by omega)) _).trans (by assumption)
    | with_reducible apply zf_nmM
    | with_reducible apply zf_nmV
    | with_reducible apply zf_nmL
    | with_reducible apply zf_gd
    | with_reducible apply zf_ite
    | with_reducible apply zf_bd
    | with_reducible apply fr_X7_keeps a k
    | with_reducible apply fr_X7_lays a k
    | with_reducible apply fr_X7_nightOf a k
    | with_reducible apply fr_X7_unlike_9 a k
    | intro _
    | omega
    )
theorem fr_X7_judge {v : Int32} (a k : Nat) (hn : ¬ ((a = 47 ∧ (k = 8 ∨ k = 9)) ∨ a = 50 ∨ a = 51 ∨ a = 52 ∨ a = 53 ∨ a = 54 ∨ a = 66 ∨ a = 67 ∨ a = 68)) {p1 : Int32} {p2 : Int32} {s : zMem} (hs : s a k = v) : zFp a k v (f_X7_judge p1 p2 s) := by
  unfold f_X7_judge
  repeat' (first
    | with_reducible exact zf_none
    | (with_reducible refine zf_some ?_); assumption
    | with_reducible assumption
    | exact (zUp_off (by omega)).trans (by assumption)
    | exact (congrFun (zCp_off (by omega)) _).trans (by assumption)
    | with_reducible apply zf_nmM
    | with_reducible apply zf_nmV
    | with_reducible apply zf_nmL
    | with_reducible apply zf_gd
    | with_reducible apply zf_ite
    | with_reducible apply zf_bd
    | with_reducible apply fr_X7_toldWrong a k
    | with_reducible apply fr_X7_unlike a k
    | intro _
    | omega
    )
theorem fr_X7_kinds_100 {v : Int32} {c50 : Int32 → Int32 → Int32 → Int32 → Int32 → Int32 → Int32 → zMem → Option (Int32 × zMem)} (a k : Nat) (hn : ¬ ((a = 47 ∧ (k = 8 ∨ k = 9)) ∨ a = 48 ∨ a = 49 ∨ a = 50 ∨ a = 51 ∨ a = 52 ∨ a = 53 ∨ a = 54 ∨ a = 66 ∨ a = 67 ∨ a = 68))  (hc50 : ∀ (y1 : Int32) (y2 : Int32) (y3 : Int32) (y4 : Int32) (y5 : Int32) (y6 : Int32) (y7 : Int32) (s9 : zMem), s9 a k = v → zFp a k v (c50 y1 y2 y3 y4 y5 y6 y7 s9)) {x36 : Int32} {x37 : Int32} {x38 : Int32} {x39 : Int32} {x40 : Int32} {x41 : Int32} {x42 : Int32} {t43 : Int32} {t44 : Int32} {s : zMem} (hs : s a k = v) : zFp a k v (f_X7_kinds_100 c50 x36 x37 x38 x39 x40 x41 x42 t43 t44 s) := by
  unfold f_X7_kinds_100
  repeat' (first
    | with_reducible exact zf_none
    | (with_reducible refine zf_some ?_); assumption
    | with_reducible assumption
    | exact (zUp_off (by omega)).trans (by assumption)
    | exact (congrFun (zCp_off (by omega)) _).trans (by assumption)
    | with_reducible apply zf_nmM
    | with_reducible apply zf_nmV
    | with_reducible apply zf_nmL
    | with_reducible apply zf_gd
    | with_reducible apply zf_ite
    | with_reducible apply zf_bd
    | with_reducible apply hc50
    | with_reducible apply fr_X7_in a k
    | with_reducible apply fr_X7_toldWrong a k
    | with_reducible apply fr_X7_unlike a k
    | intro _
    | omega
    )
theorem fr_X7_kinds_82 {v : Int32} {c50 : Int32 → Int32 → Int32 → Int32 → Int32 → Int32 → Int32 → zMem → Option (Int32 × zMem)} (a k : Nat) (hn : ¬ ((a = 47 ∧ (k = 8 ∨ k = 9)) ∨ a = 48 ∨ a = 49 ∨ a = 50 ∨ a = 51 ∨ a = 52 ∨ a = 53 ∨ a = 54 ∨ a = 66 ∨ a = 67 ∨ a = 68))  (hc50 : ∀ (y1 : Int32) (y2 : Int32) (y3 : Int32) (y4 : Int32) (y5 : Int32) (y6 : Int32) (y7 : Int32) (s9 : zMem), s9 a k = v → zFp a k v (c50 y1 y2 y3 y4 y5 y6 y7 s9)) {x25 : Int32} {x26 : Int32} {x27 : Int32} {x28 : Int32} {x29 : Int32} {x30 : Int32} {x31 : Int32} {t32 : Int32} {t33 : Int32} {s : zMem} (hs : s a k = v) : zFp a k v (f_X7_kinds_82 c50 x25 x26 x27 x28 x29 x30 x31 t32 t33 s) := by
  unfold f_X7_kinds_82
  repeat' (first
    | with_reducible exact zf_none
    | (with_reducible refine zf_some ?_); assumption
    | with_reducible assumption
    | exact (zUp_off (by omega)).trans (by assumption)
    | exact (congrFun (zCp_off (by omega)) _).trans (by assumption)
    | with_reducible apply zf_nmM
    | with_reducible apply zf_nmV
    | with_reducible apply zf_nmL
    | with_reducible apply zf_gd
    | with_reducible apply zf_ite
    | with_reducible apply zf_bd
    | with_reducible apply hc50
    | with_reducible apply fr_X7_in a k
    | with_reducible apply fr_X7_toldWrong a k
    | with_reducible apply fr_X7_unlike a k
    | with_reducible apply fr_X7_kinds_100 a k
    | intro _
    | omega
    )
theorem fr_X7_kinds_63 {v : Int32} {c130 : Int32 → Int32 → Int32 → Int32 → zMem → Option (Int32 × zMem)} {c50 : Int32 → Int32 → Int32 → Int32 → Int32 → Int32 → Int32 → zMem → Option (Int32 × zMem)} (a k : Nat) (hn : ¬ ((a = 47 ∧ (k = 8 ∨ k = 9)) ∨ a = 48 ∨ a = 49 ∨ a = 50 ∨ a = 51 ∨ a = 52 ∨ a = 53 ∨ a = 54 ∨ a = 66 ∨ a = 67 ∨ a = 68))  (hc130 : ∀ (y1 : Int32) (y2 : Int32) (y3 : Int32) (y4 : Int32) (s9 : zMem), s9 a k = v → zFp a k v (c130 y1 y2 y3 y4 s9)) (hc50 : ∀ (y1 : Int32) (y2 : Int32) (y3 : Int32) (y4 : Int32) (y5 : Int32) (y6 : Int32) (y7 : Int32) (s9 : zMem), s9 a k = v → zFp a k v (c50 y1 y2 y3 y4 y5 y6 y7 s9)) {x15 : Int32} {x16 : Int32} {x17 : Int32} {x18 : Int32} {x19 : Int32} {x20 : Int32} {x21 : Int32} {t22 : Int32} {t23 : Int32} {s : zMem} (hs : s a k = v) : zFp a k v (f_X7_kinds_63 c130 c50 x15 x16 x17 x18 x19 x20 x21 t22 t23 s) := by
  unfold f_X7_kinds_63
  repeat' (first
    | with_reducible exact zf_none
    | (with_reducible refine zf_some ?_); assumption
    | with_reducible assumption
    | exact (zUp_off (by omega)).trans (by assumption)
    | exact (congrFun (zCp_off (by omega)) _).trans (by assumption)
    | with_reducible apply zf_nmM
    | with_reducible apply zf_nmV
    | with_reducible apply zf_nmL
    | with_reducible apply zf_gd
    | with_reducible apply zf_ite
    | with_reducible apply zf_bd
    | with_reducible apply hc130
    | with_reducible apply hc50
    | with_reducible apply fr_X7_in a k
    | with_reducible apply fr_X7_toldWrong a k
    | with_reducible apply fr_X7_unlike a k
    | with_reducible apply fr_X7_kinds_100 a k
    | with_reducible apply fr_X7_kinds_82 a k
    | intro _
    | omega
    )
theorem fr_X7_kinds_50 {v : Int32} {c130 : Int32 → Int32 → Int32 → Int32 → zMem → Option (Int32 × zMem)} (a k : Nat) (hn : ¬ ((a = 47 ∧ (k = 8 ∨ k = 9)) ∨ a = 48 ∨ a = 49 ∨ a = 50 ∨ a = 51 ∨ a = 52 ∨ a = 53 ∨ a = 54 ∨ a = 66 ∨ a = 67 ∨ a = 68))  (hc130 : ∀ (y1 : Int32) (y2 : Int32) (y3 : Int32) (y4 : Int32) (s9 : zMem), s9 a k = v → zFp a k v (c130 y1 y2 y3 y4 s9)) : ∀ {n : Nat} {x7 : Int32} {x8 : Int32} {x9 : Int32} {x10 : Int32} {x11 : Int32} {x12 : Int32} {x13 : Int32} {s : zMem}, s a k = v → zFp a k v (f_X7_kinds_50 c130 n x7 x8 x9 x10 x11 x12 x13 s) := by
  intro n
  induction n with
  | zero => intros; exact zf_none
  | succ n ih =>
    intros
    rw [f_X7_kinds_50]
    repeat' (first
      | with_reducible exact zf_none
      | (with_reducible refine zf_some ?_); assumption
      | with_reducible assumption
      | exact (zUp_off (by omega)).trans (by assumption)
      | exact (congrFun (zCp_off (by omega)) _).trans (by assumption)
      | with_reducible apply zf_nmM
      | with_reducible apply zf_nmV
      | with_reducible apply zf_nmL
      | with_reducible apply zf_gd
      | with_reducible apply zf_ite
      | with_reducible apply zf_bd
      | with_reducible apply ih
      | with_reducible apply hc130
      | with_reducible apply fr_X7_in a k
      | with_reducible apply fr_X7_toldWrong a k
      | with_reducible apply fr_X7_unlike a k
      | with_reducible apply fr_X7_kinds_100 a k
      | with_reducible apply fr_X7_kinds_82 a k
      | with_reducible apply fr_X7_kinds_63 a k
      | intro _
      | omega
      )
theorem fr_X7_kinds {v : Int32} (a k : Nat) (hn : ¬ ((a = 47 ∧ (k = 8 ∨ k = 9)) ∨ a = 48 ∨ a = 49 ∨ a = 50 ∨ a = 51 ∨ a = 52 ∨ a = 53 ∨ a = 54 ∨ a = 66 ∨ a = 67 ∨ a = 68)) {p1 : Int32} {p2 : Int32} {p3 : Int32} {s : zMem} (hs : s a k = v) : zFp a k v (f_X7_kinds p1 p2 p3 s) := by
  unfold f_X7_kinds
  repeat' (first
    | with_reducible exact zf_none
    | (with_reducible refine zf_some ?_); assumption
    | with_reducible assumption
    | exact (zUp_off (by omega)).trans (by assumption)
    | exact (congrFun (zCp_off (by omega)) _).trans (by assumption)
    | with_reducible apply zf_nmM
    | with_reducible apply zf_nmV
    | with_reducible apply zf_nmL
    | with_reducible apply zf_gd
    | with_reducible apply zf_ite
    | with_reducible apply zf_bd
    | with_reducible apply fr_X7_in a k
    | with_reducible apply fr_X7_toldWrong a k
    | with_reducible apply fr_X7_unlike a k
    | with_reducible apply fr_X7_kinds_100 a k
    | with_reducible apply fr_X7_kinds_82 a k
    | with_reducible apply fr_X7_kinds_63 a k
    | with_reducible apply fr_X7_kinds_50 a k
    | intro _
    | omega
    )
theorem fr_X7_states_103 {v : Int32} {c59 : Int32 → Int32 → Int32 → Int32 → Int32 → Int32 → Int32 → Int32 → zMem → Option (Int32 × zMem)} (a k : Nat) (hn : ¬ ((a = 47 ∧ (k = 8 ∨ k = 9)) ∨ a = 50 ∨ a = 51 ∨ a = 52 ∨ a = 53 ∨ a = 54 ∨ a = 66 ∨ a = 67 ∨ a = 68))  (hc59 : ∀ (y1 : Int32) (y2 : Int32) (y3 : Int32) (y4 : Int32) (y5 : Int32) (y6 : Int32) (y7 : Int32) (y8 : Int32) (s9 : zMem), s9 a k = v → zFp a k v (c59 y1 y2 y3 y4 y5 y6 y7 y8 s9)) {x31 : Int32} {x32 : Int32} {x33 : Int32} {x34 : Int32} {x35 : Int32} {x36 : Int32} {x37 : Int32} {x38 : Int32} {t39 : Int32} {s : zMem} (hs : s a k = v) : zFp a k v (f_X7_states_103 c59 x31 x32 x33 x34 x35 x36 x37 x38 t39 s) := by
  unfold f_X7_states_103
  repeat' (first
    | with_reducible exact zf_none
    | (with_reducible refine zf_some ?_); assumption
    | with_reducible assumption
    | exact (zUp_off (by omega)).trans (by assumption)
    | exact (congrFun (zCp_off (by omega)) _).trans (by assumption)
    | with_reducible apply zf_nmM
    | with_reducible apply zf_nmV
    | with_reducible apply zf_nmL
    | with_reducible apply zf_gd
    | with_reducible apply zf_ite
    | with_reducible apply zf_bd
    | with_reducible apply hc59
    | with_reducible apply fr_X7_in a k
    | with_reducible apply fr_X7_toldWrong a k
    | with_reducible apply fr_X7_unlike a k
    | intro _
    | omega
    )
theorem fr_X7_states_73 {v : Int32} {c146 : Int32 → Int32 → Int32 → Int32 → Int32 → Int32 → zMem → Option (Int32 × zMem)} {c59 : Int32 → Int32 → Int32 → Int32 → Int32 → Int32 → Int32 → Int32 → zMem → Option (Int32 × zMem)} (a k : Nat) (hn : ¬ ((a = 47 ∧ (k = 8 ∨ k = 9)) ∨ a = 50 ∨ a = 51 ∨ a = 52 ∨ a = 53 ∨ a = 54 ∨ a = 66 ∨ a = 67 ∨ a = 68))  (hc146 : ∀ (y1 : Int32) (y2 : Int32) (y3 : Int32) (y4 : Int32) (y5 : Int32) (y6 : Int32) (s9 : zMem), s9 a k = v → zFp a k v (c146 y1 y2 y3 y4 y5 y6 s9)) (hc59 : ∀ (y1 : Int32) (y2 : Int32) (y3 : Int32) (y4 : Int32) (y5 : Int32) (y6 : Int32) (y7 : Int32) (y8 : Int32) (s9 : zMem), s9 a k = v → zFp a k v (c59 y1 y2 y3 y4 y5 y6 y7 y8 s9)) {x17 : Int32} {x18 : Int32} {x19 : Int32} {x20 : Int32} {x21 : Int32} {x22 : Int32} {x23 : Int32} {x24 : Int32} {t25 : Int32} {t26 : Int32} {s : zMem} (hs : s a k = v) : zFp a k v (f_X7_states_73 c146 c59 x17 x18 x19 x20 x21 x22 x23 x24 t25 t26 s) := by
  unfold f_X7_states_73
  repeat' (first
    | with_reducible exact zf_none
    | (with_reducible refine zf_some ?_); assumption
    | with_reducible assumption
    | exact (zUp_off (by omega)).trans (by assumption)
    | exact (congrFun (zCp_off (by omega)) _).trans (by assumption)
    | with_reducible apply zf_nmM
    | with_reducible apply zf_nmV
    | with_reducible apply zf_nmL
    | with_reducible apply zf_gd
    | with_reducible apply zf_ite
    | with_reducible apply zf_bd
    | with_reducible apply hc146
    | with_reducible apply hc59
    | with_reducible apply fr_X7_in a k
    | with_reducible apply fr_X7_toldWrong a k
    | with_reducible apply fr_X7_unlike a k
    | with_reducible apply fr_X7_states_103 a k
    | intro _
    | omega
    )
theorem fr_X7_states_59 {v : Int32} {c146 : Int32 → Int32 → Int32 → Int32 → Int32 → Int32 → zMem → Option (Int32 × zMem)} (a k : Nat) (hn : ¬ ((a = 47 ∧ (k = 8 ∨ k = 9)) ∨ a = 50 ∨ a = 51 ∨ a = 52 ∨ a = 53 ∨ a = 54 ∨ a = 66 ∨ a = 67 ∨ a = 68))  (hc146 : ∀ (y1 : Int32) (y2 : Int32) (y3 : Int32) (y4 : Int32) (y5 : Int32) (y6 : Int32) (s9 : zMem), s9 a k = v → zFp a k v (c146 y1 y2 y3 y4 y5 y6 s9)) : ∀ {n : Nat} {x8 : Int32} {x9 : Int32} {x10 : Int32} {x11 : Int32} {x12 : Int32} {x13 : Int32} {x14 : Int32} {x15 : Int32} {s : zMem}, s a k = v → zFp a k v (f_X7_states_59 c146 n x8 x9 x10 x11 x12 x13 x14 x15 s) := by
  intro n
  induction n with
  | zero => intros; exact zf_none
  | succ n ih =>
    intros
    rw [f_X7_states_59]
    repeat' (first
      | with_reducible exact zf_none
      | (with_reducible refine zf_some ?_); assumption
      | with_reducible assumption
      | exact (zUp_off (by omega)).trans (by assumption)
      | exact (congrFun (zCp_off (by omega)) _).trans (by assumption)
      | with_reducible apply zf_nmM
      | with_reducible apply zf_nmV
      | with_reducible apply zf_nmL
      | with_reducible apply zf_gd
      | with_reducible apply zf_ite
      | with_reducible apply zf_bd
      | with_reducible apply ih
      | with_reducible apply hc146
      | with_reducible apply fr_X7_in a k
      | with_reducible apply fr_X7_toldWrong a k
      | with_reducible apply fr_X7_unlike a k
      | with_reducible apply fr_X7_states_103 a k
      | with_reducible apply fr_X7_states_73 a k
      | intro _
      | omega
      )
theorem fr_X7_states {v : Int32} (a k : Nat) (hn : ¬ ((a = 47 ∧ (k = 8 ∨ k = 9)) ∨ a = 50 ∨ a = 51 ∨ a = 52 ∨ a = 53 ∨ a = 54 ∨ a = 66 ∨ a = 67 ∨ a = 68)) {p1 : Int32} {p2 : Int32} {p3 : Int32} {p4 : Int32} {s : zMem} (hs : s a k = v) : zFp a k v (f_X7_states p1 p2 p3 p4 s) := by
  unfold f_X7_states
  repeat' (first
    | with_reducible exact zf_none
    | (with_reducible refine zf_some ?_); assumption
    | with_reducible assumption
    | exact (zUp_off (by omega)).trans (by assumption)
    | exact (congrFun (zCp_off (by omega)) _).trans (by assumption)
    | with_reducible apply zf_nmM
    | with_reducible apply zf_nmV
    | with_reducible apply zf_nmL
    | with_reducible apply zf_gd
    | with_reducible apply zf_ite
    | with_reducible apply zf_bd
    | with_reducible apply fr_X7_in a k
    | with_reducible apply fr_X7_toldWrong a k
    | with_reducible apply fr_X7_unlike a k
    | with_reducible apply fr_X7_states_103 a k
    | with_reducible apply fr_X7_states_73 a k
    | with_reducible apply fr_X7_states_59 a k
    | intro _
    | omega
    )
theorem fr_X7_whose_17 {v : Int32} (a k : Nat) (hn : ¬ ((a = 47 ∧ (k = 8 ∨ k = 9)) ∨ a = 50 ∨ a = 51 ∨ a = 52 ∨ a = 53 ∨ a = 54 ∨ a = 66 ∨ a = 67 ∨ a = 68))  : ∀ {n : Nat} {x3 : Int32} {x4 : Int32} {x5 : Int32} {s : zMem}, s a k = v → zFp a k v (f_X7_whose_17 n x3 x4 x5 s) := by
  intro n
  induction n with
  | zero => intros; exact zf_none
  | succ n ih =>
    intros
    rw [f_X7_whose_17]
    repeat' (first
      | with_reducible exact zf_none
      | (with_reducible refine zf_some ?_); assumption
      | with_reducible assumption
      | exact (zUp_off (by omega)).trans (by assumption)
      | exact (congrFun (zCp_off (by omega)) _).trans (by assumption)
      | with_reducible apply zf_nmM
      | with_reducible apply zf_nmV
      | with_reducible apply zf_nmL
      | with_reducible apply zf_gd
      | with_reducible apply zf_ite
      | with_reducible apply zf_bd
      | with_reducible apply ih
      | with_reducible apply fr_X7_sheetWrong a k
      | with_reducible apply fr_X7_unlike a k
      | intro _
      | omega
      )
theorem fr_X7_whose {v : Int32} (a k : Nat) (hn : ¬ ((a = 47 ∧ (k = 8 ∨ k = 9)) ∨ a = 50 ∨ a = 51 ∨ a = 52 ∨ a = 53 ∨ a = 54 ∨ a = 66 ∨ a = 67 ∨ a = 68)) {p1 : Int32} {s : zMem} (hs : s a k = v) : zFp a k v (f_X7_whose p1 s) := by
  unfold f_X7_whose
  repeat' (first
    | with_reducible exact zf_none
    | (with_reducible refine zf_some ?_); assumption
    | with_reducible assumption
    | exact (zUp_off (by omega)).trans (by assumption)
    | exact (congrFun (zCp_off (by omega)) _).trans (by assumption)
    | with_reducible apply zf_nmM
    | with_reducible apply zf_nmV
    | with_reducible apply zf_nmL
    | with_reducible apply zf_gd
    | with_reducible apply zf_ite
    | with_reducible apply zf_bd
    | with_reducible apply fr_X7_sheetWrong a k
    | with_reducible apply fr_X7_unlike a k
    | with_reducible apply fr_X7_whose_17 a k
    | intro _
    | omega
    )
theorem fr_X7_laws_25 {v : Int32} {c69 : Int32 → Int32 → zMem → Option (Int32 × zMem)} (a k : Nat) (hn : ¬ ((a = 47 ∧ (k = 8 ∨ k = 9 ∨ k = 15)) ∨ a = 50 ∨ a = 51 ∨ a = 52 ∨ a = 53 ∨ a = 54 ∨ a = 66 ∨ a = 67 ∨ a = 68))  (hc69 : ∀ (y1 : Int32) (y2 : Int32) (s9 : zMem), s9 a k = v → zFp a k v (c69 y1 y2 s9)) : ∀ {n : Nat} {x4 : Int32} {x5 : Int32} {x6 : Int32} {x7 : Int32} {x8 : Int32} {s : zMem}, s a k = v → zFp a k v (f_X7_laws_25 c69 n x4 x5 x6 x7 x8 s) := by
  intro n
  induction n with
  | zero => intros; exact zf_none
  | succ n ih =>
    intros
    rw [f_X7_laws_25]
    repeat' (first
      | with_reducible exact zf_none
      | (with_reducible refine zf_some ?_); assumption
      | with_reducible assumption
      | exact (zUp_off (by omega)).trans (by assumption)
      | exact (congrFun (zCp_off (by omega)) _).trans (by assumption)
      | with_reducible apply zf_nmM
      | with_reducible apply zf_nmV
      | with_reducible apply zf_nmL
      | with_reducible apply zf_gd
      | with_reducible apply zf_ite
      | with_reducible apply zf_bd
      | with_reducible apply ih
      | with_reducible apply hc69
      | with_reducible apply fr_X7_toldWrong a k
      | with_reducible apply fr_X7_unlike a k
      | intro _
      | omega
      )
theorem fr_X7_laws {v : Int32} (a k : Nat) (hn : ¬ ((a = 47 ∧ (k = 8 ∨ k = 9 ∨ k = 15)) ∨ a = 50 ∨ a = 51 ∨ a = 52 ∨ a = 53 ∨ a = 54 ∨ a = 66 ∨ a = 67 ∨ a = 68)) {p1 : Int32} {p2 : Int32} {s : zMem} (hs : s a k = v) : zFp a k v (f_X7_laws p1 p2 s) := by
  unfold f_X7_laws
  repeat' (first
    | with_reducible exact zf_none
    | (with_reducible refine zf_some ?_); assumption
    | with_reducible assumption
    | exact (zUp_off (by omega)).trans (by assumption)
    | exact (congrFun (zCp_off (by omega)) _).trans (by assumption)
    | with_reducible apply zf_nmM
    | with_reducible apply zf_nmV
    | with_reducible apply zf_nmL
    | with_reducible apply zf_gd
    | with_reducible apply zf_ite
    | with_reducible apply zf_bd
    | with_reducible apply fr_X7_toldWrong a k
    | with_reducible apply fr_X7_unlike a k
    | with_reducible apply fr_X7_laws_25 a k
    | intro _
    | omega
    )
theorem fr_X7_film_57 {v : Int32} {c114 : Int32 → zMem → Option (Int32 × zMem)} (a k : Nat) (hn : ¬ ((a = 47 ∧ (k = 8 ∨ k = 9)) ∨ a = 50 ∨ a = 51 ∨ a = 52 ∨ a = 53 ∨ a = 54 ∨ a = 60 ∨ a = 61 ∨ a = 62 ∨ a = 66 ∨ a = 67 ∨ a = 68))  (hc114 : ∀ (y1 : Int32) (s9 : zMem), s9 a k = v → zFp a k v (c114 y1 s9)) : ∀ {n : Nat} {x11 : Int32} {x12 : Int32} {x13 : Int32} {x14 : Int32} {s : zMem}, s a k = v → zFp a k v (f_X7_film_57 c114 n x11 x12 x13 x14 s) := by
  intro n
  induction n with
  | zero => intros; exact zf_none
  | succ n ih =>
    intros
    rw [f_X7_film_57]
    repeat' (first
      | with_reducible exact zf_none
      | (with_reducible refine zf_some ?_); assumption
      | with_reducible assumption
      | exact (zUp_off (by omega)).trans (by assumption)
      | exact (congrFun (zCp_off (by omega)) _).trans (by assumption)
      | with_reducible apply zf_nmM
      | with_reducible apply zf_nmV
      | with_reducible apply zf_nmL
      | with_reducible apply zf_gd
      | with_reducible apply zf_ite
      | with_reducible apply zf_bd
      | with_reducible apply ih
      | with_reducible apply hc114
      | with_reducible apply fr_X7_in a k
      | with_reducible apply fr_X7_isHut a k
      | with_reducible apply fr_X7_keeps a k
      | with_reducible apply fr_X7_lays a k
      | with_reducible apply fr_X7_nightOf a k
      | intro _
      | omega
      )
theorem fr_X7_film {v : Int32} (a k : Nat) (hn : ¬ ((a = 47 ∧ (k = 8 ∨ k = 9)) ∨ a = 50 ∨ a = 51 ∨ a = 52 ∨ a = 53 ∨ a = 54 ∨ a = 60 ∨ a = 61 ∨ a = 62 ∨ a = 66 ∨ a = 67 ∨ a = 68)) {p1 : Int32} {p2 : Int32} {p3 : Int32} {s : zMem} (hs : s a k = v) : zFp a k v (f_X7_film p1 p2 p3 s) := by
  unfold f_X7_film
  repeat' (first
    | with_reducible exact zf_none
    | (with_reducible refine zf_some ?_); assumption
    | with_reducible assumption
    | exact (zUp_off (by omega)).trans (by assumption)
    | exact (congrFun (zCp_off (by omega)) _).trans (by assumption)
    | with_reducible apply zf_nmM
    | with_reducible apply zf_nmV
    | with_reducible apply zf_nmL
    | with_reducible apply zf_gd
    | with_reducible apply zf_ite
    | with_reducible apply zf_bd
    | with_reducible apply fr_X7_in a k
    | with_reducible apply fr_X7_isHut a k
    | with_reducible apply fr_X7_keeps a k
    | with_reducible apply fr_X7_lays a k
    | with_reducible apply fr_X7_nightOf a k
    | with_reducible apply fr_X7_film_57 a k
    | intro _
    | omega
    )
theorem fr_X7_snows_15 {v : Int32} {c105 : Int32 → zMem → Option (Int32 × zMem)} (a k : Nat) (hn : ¬ ((a = 47 ∧ (k = 8 ∨ k = 9 ∨ k = 36)) ∨ a = 50 ∨ a = 51 ∨ a = 52 ∨ a = 53 ∨ a = 54 ∨ a = 66 ∨ a = 67 ∨ a = 68))  (hc105 : ∀ (y1 : Int32) (s9 : zMem), s9 a k = v → zFp a k v (c105 y1 s9)) : ∀ {n : Nat} {x4 : Int32} {x5 : Int64} {x6 : Int32} {x7 : Int32} {s : zMem}, s a k = v → zFp a k v (f_X7_snows_15 c105 n x4 x5 x6 x7 s) := by
  intro n
  induction n with
  | zero => intros; exact zf_none
  | succ n ih =>
    intros
    rw [f_X7_snows_15]
    repeat' (first
      | with_reducible exact zf_none
      | (with_reducible refine zf_some ?_); assumption
      | with_reducible assumption
      | exact (zUp_off (by omega)).trans (by assumption)
      | exact (congrFun (zCp_off (by omega)) _).trans (by assumption)
      | with_reducible apply zf_nmM
      | with_reducible apply zf_nmV
      | with_reducible apply zf_nmL
      | with_reducible apply zf_gd
      | with_reducible apply zf_ite
      | with_reducible apply zf_bd
      | with_reducible apply ih
      | with_reducible apply hc105
      | with_reducible apply fr_X7_heatAll a k
      | with_reducible apply fr_X7_keeps a k
      | with_reducible apply fr_X7_lays a k
      | with_reducible apply fr_X7_nightOf a k
      | with_reducible apply fr_X7_within a k
      | intro _
      | omega
      )
theorem fr_X7_snows {v : Int32} (a k : Nat) (hn : ¬ ((a = 47 ∧ (k = 8 ∨ k = 9 ∨ k = 36)) ∨ a = 50 ∨ a = 51 ∨ a = 52 ∨ a = 53 ∨ a = 54 ∨ a = 66 ∨ a = 67 ∨ a = 68)) {p1 : Int32} {p2 : Int32} {s : zMem} (hs : s a k = v) : zFp a k v (f_X7_snows p1 p2 s) := by
  unfold f_X7_snows
  repeat' (first
    | with_reducible exact zf_none
    | (with_reducible refine zf_some ?_); assumption
    | with_reducible assumption
    | exact (zUp_off (by omega)).trans (by assumption)
    | exact (congrFun (zCp_off (by omega)) _).trans (by assumption)
    | with_reducible apply zf_nmM
    | with_reducible apply zf_nmV
    | with_reducible apply zf_nmL
    | with_reducible apply zf_gd
    | with_reducible apply zf_ite
    | with_reducible apply zf_bd
    | with_reducible apply fr_X7_heatAll a k
    | with_reducible apply fr_X7_keeps a k
    | with_reducible apply fr_X7_lays a k
    | with_reducible apply fr_X7_nightOf a k
    | with_reducible apply fr_X7_within a k
    | with_reducible apply fr_X7_snows_15 a k
    | intro _
    | omega
    )
theorem fr_X7_drawn {v : Int32} (a k : Nat) (hn : ¬ ((a = 47 ∧ (k = 8 ∨ k = 9 ∨ k = 36)) ∨ a = 50 ∨ a = 51 ∨ a = 52 ∨ a = 53 ∨ a = 54 ∨ a = 66 ∨ a = 67 ∨ a = 68)) {p1 : Int32} {p2 : Int32} {p3 : Int32} {s : zMem} (hs : s a k = v) : zFp a k v (f_X7_drawn p1 p2 p3 s) := by
  unfold f_X7_drawn
  repeat' (first
    | with_reducible exact zf_none
    | (with_reducible refine zf_some ?_); assumption
    | with_reducible assumption
    | exact (zUp_off (by omega)).trans (by assumption)
    | exact (congrFun (zCp_off (by omega)) _).trans (by assumption)
    | with_reducible apply zf_nmM
    | with_reducible apply zf_nmV
    | with_reducible apply zf_nmL
    | with_reducible apply zf_gd
    | with_reducible apply zf_ite
    | with_reducible apply zf_bd
    | with_reducible apply fr_X7_in a k
    | with_reducible apply fr_X7_snows a k
    | intro _
    | omega
    )
theorem fr_X7_lowest_16 {v : Int32} {c41 : Int64 → Int64 → Int32 → Int64 → zMem → Option (Int64 × zMem)} (a k : Nat) (hn : ¬ (False))  (hc41 : ∀ (y1 : Int64) (y2 : Int64) (y3 : Int32) (y4 : Int64) (s9 : zMem), s9 a k = v → zFp a k v (c41 y1 y2 y3 y4 s9)) : ∀ {n : Nat} {x1 : Int64} {x2 : Int64} {x3 : Int32} {x4 : Int64} {x5 : Int64} {s : zMem}, s a k = v → zFp a k v (f_X7_lowest_16 c41 n x1 x2 x3 x4 x5 s) := by
  intro n
  induction n with
  | zero => intros; exact zf_none
  | succ n ih =>
    intros
    rw [f_X7_lowest_16]
    repeat' (first
      | with_reducible exact zf_none
      | (with_reducible refine zf_some ?_); assumption
      | with_reducible assumption
      | exact (zUp_off (by omega)).trans (by assumption)
      | exact (congrFun (zCp_off (by omega)) _).trans (by assumption)
      | with_reducible apply zf_nmM
      | with_reducible apply zf_nmV
      | with_reducible apply zf_nmL
      | with_reducible apply zf_gd
      | with_reducible apply zf_ite
      | with_reducible apply zf_bd
      | with_reducible apply ih
      | with_reducible apply hc41
      | intro _
      | omega
      )
theorem fr_X7_lowest {v : Int32} (a k : Nat) (hn : ¬ (False)) {p1 : Int64} {p2 : Int64} {p3 : Int32} {s : zMem} (hs : s a k = v) : zFp a k v (f_X7_lowest p1 p2 p3 s) := by
  unfold f_X7_lowest
  repeat' (first
    | with_reducible exact zf_none
    | (with_reducible refine zf_some ?_); assumption
    | with_reducible assumption
    | exact (zUp_off (by omega)).trans (by assumption)
    | exact (congrFun (zCp_off (by omega)) _).trans (by assumption)
    | with_reducible apply zf_nmM
    | with_reducible apply zf_nmV
    | with_reducible apply zf_nmL
    | with_reducible apply zf_gd
    | with_reducible apply zf_ite
    | with_reducible apply zf_bd
    | with_reducible apply fr_X7_lowest_16 a k
    | intro _
    | omega
    )
theorem fr_X7_odds_75 {v : Int32} {c114 : Int32 → Int32 → Int64 → zMem → Option (Int64 × zMem)} (a k : Nat) (hn : ¬ ((a = 47 ∧ (k = 8 ∨ k = 9 ∨ k = 36)) ∨ a = 50 ∨ a = 51 ∨ a = 52 ∨ a = 53 ∨ a = 54 ∨ a = 66 ∨ a = 67 ∨ a = 68))  (hc114 : ∀ (y1 : Int32) (y2 : Int32) (y3 : Int64) (s9 : zMem), s9 a k = v → zFp a k v (c114 y1 y2 y3 s9)) : ∀ {n : Nat} {x20 : Int32} {x21 : Int32} {x22 : Int32} {x23 : Int32} {x24 : Int32} {x25 : Int64} {x26 : Int32} {s : zMem}, s a k = v → zFp a k v (f_X7_odds_75 c114 n x20 x21 x22 x23 x24 x25 x26 s) := by
  intro n
  induction n with
  | zero => intros; exact zf_none
  | succ n ih =>
    intros
    rw [f_X7_odds_75]
    repeat' (first
      | with_reducible exact zf_none
      | (with_reducible refine zf_some ?_); assumption
      | with_reducible assumption
      | exact (zUp_off (by omega)).trans (by assumption)
      | exact (congrFun (zCp_off (by omega)) _).trans (by assumption)
      | with_reducible apply zf_nmM
      | with_reducible apply zf_nmV
      | with_reducible apply zf_nmL
      | with_reducible apply zf_gd
      | with_reducible apply zf_ite
      | with_reducible apply zf_bd
      | with_reducible apply ih
      | with_reducible apply hc114
      | with_reducible apply fr_X7_in a k
      | with_reducible apply fr_X7_lowest a k
      | with_reducible apply fr_X7_ones a k
      | with_reducible apply fr_X7_snows a k
      | intro _
      | omega
      )
theorem fr_X7_odds_37 {v : Int32} (a k : Nat) (hn : ¬ ((a = 47 ∧ (k = 8 ∨ k = 9 ∨ k = 36)) ∨ a = 50 ∨ a = 51 ∨ a = 52 ∨ a = 53 ∨ a = 54 ∨ a = 66 ∨ a = 67 ∨ a = 68))  {x9 : Int32} {x10 : Int32} {x11 : Int32} {x12 : Int32} {x13 : Int32} {t14 : Int32} {s : zMem} (hs : s a k = v) : zFp a k v (f_X7_odds_37 x9 x10 x11 x12 x13 t14 s) := by
  unfold f_X7_odds_37
  repeat' (first
    | with_reducible exact zf_none
    | (with_reducible refine zf_some ?_); assumption
    | with_reducible assumption
    | exact (zUp_off (by omega)).trans (by assumption)
    | exact (congrFun (zCp_off (by omega)) _).trans (by assumption)
    | with_reducible apply zf_nmM
    | with_reducible apply zf_nmV
    | with_reducible apply zf_nmL
    | with_reducible apply zf_gd
    | with_reducible apply zf_ite
    | with_reducible apply zf_bd
    | with_reducible apply fr_X7_in a k
    | with_reducible apply fr_X7_lowest a k
    | with_reducible apply fr_X7_ones a k
    | with_reducible apply fr_X7_snows a k
    | with_reducible apply fr_X7_odds_75 a k
    | intro _
    | omega
    )
theorem fr_X7_odds_36 {v : Int32} (a k : Nat) (hn : ¬ ((a = 47 ∧ (k = 8 ∨ k = 9 ∨ k = 36)) ∨ a = 50 ∨ a = 51 ∨ a = 52 ∨ a = 53 ∨ a = 54 ∨ a = 66 ∨ a = 67 ∨ a = 68))  {x3 : Int32} {x4 : Int32} {x5 : Int32} {x6 : Int32} {x7 : Int32} {s : zMem} (hs : s a k = v) : zFp a k v (f_X7_odds_36 x3 x4 x5 x6 x7 s) := by
  unfold f_X7_odds_36
  repeat' (first
    | with_reducible exact zf_none
    | (with_reducible refine zf_some ?_); assumption
    | with_reducible assumption
    | exact (zUp_off (by omega)).trans (by assumption)
    | exact (congrFun (zCp_off (by omega)) _).trans (by assumption)
    | with_reducible apply zf_nmM
    | with_reducible apply zf_nmV
    | with_reducible apply zf_nmL
    | with_reducible apply zf_gd
    | with_reducible apply zf_ite
    | with_reducible apply zf_bd
    | with_reducible apply fr_X7_in a k
    | with_reducible apply fr_X7_lowest a k
    | with_reducible apply fr_X7_ones a k
    | with_reducible apply fr_X7_snows a k
    | with_reducible apply fr_X7_odds_75 a k
    | with_reducible apply fr_X7_odds_37 a k
    | intro _
    | omega
    )
theorem fr_X7_odds {v : Int32} (a k : Nat) (hn : ¬ ((a = 47 ∧ (k = 8 ∨ k = 9 ∨ k = 36)) ∨ a = 50 ∨ a = 51 ∨ a = 52 ∨ a = 53 ∨ a = 54 ∨ a = 66 ∨ a = 67 ∨ a = 68)) {p1 : Int32} {p2 : Int32} {p3 : Int32} {p4 : Int32} {p5 : Int32} {s : zMem} (hs : s a k = v) : zFp a k v (f_X7_odds p1 p2 p3 p4 p5 s) := by
  unfold f_X7_odds
  repeat' (first
    | with_reducible exact zf_none
    | (with_reducible refine zf_some ?_); assumption
    | with_reducible assumption
    | exact (zUp_off (by omega)).trans (by assumption)
    | exact (congrFun (zCp_off (by omega)) _).trans (by assumption)
    | with_reducible apply zf_nmM
    | with_reducible apply zf_nmV
    | with_reducible apply zf_nmL
    | with_reducible apply zf_gd
    | with_reducible apply zf_ite
    | with_reducible apply zf_bd
    | with_reducible apply fr_X7_in a k
    | with_reducible apply fr_X7_lowest a k
    | with_reducible apply fr_X7_ones a k
    | with_reducible apply fr_X7_snows a k
    | with_reducible apply fr_X7_odds_75 a k
    | with_reducible apply fr_X7_odds_37 a k
    | with_reducible apply fr_X7_odds_36 a k
    | intro _
    | omega
    )
theorem fr_X7_image_7 {v : Int32} {c31 : zMem → Option (Int32 × zMem)} (a k : Nat) (hn : ¬ ((a = 47 ∧ (k = 16)) ∨ a = 58 ∨ a = 59))  (hc31 : ∀ (s9 : zMem), s9 a k = v → zFp a k v (c31 s9)) : ∀ {n : Nat} {x2 : Int32} {s : zMem}, s a k = v → zFp a k v (f_X7_image_7 c31 n x2 s) := by
  intro n
  induction n with
  | zero => intros; exact zf_none
  | succ n ih =>
    intros
    rw [f_X7_image_7]
    repeat' (first
      | with_reducible exact zf_none
      | (with_reducible refine zf_some ?_); assumption
      | with_reducible assumption
      | exact (zUp_off (by omega)).trans (by assumption)
      | exact (congrFun (zCp_off (by omega)) _).trans (by assumption)
      | with_reducible apply zf_nmM
      | with_reducible apply zf_nmV
      | with_reducible apply zf_nmL
      | with_reducible apply zf_gd
      | with_reducible apply zf_ite
      | with_reducible apply zf_bd
      | with_reducible apply ih
      | with_reducible apply hc31
      | intro _
      | omega
      )
theorem fr_X7_image_33 {v : Int32} {c105 : zMem → Option (Int32 × zMem)} (a k : Nat) (hn : ¬ ((a = 47 ∧ (k = 16)) ∨ a = 58 ∨ a = 59))  (hc105 : ∀ (s9 : zMem), s9 a k = v → zFp a k v (c105 s9)) : ∀ {n : Nat} {x7 : Int32} {s : zMem}, s a k = v → zFp a k v (f_X7_image_33 c105 n x7 s) := by
  intro n
  induction n with
  | zero => intros; exact zf_none
  | succ n ih =>
    intros
    rw [f_X7_image_33]
    repeat' (first
      | with_reducible exact zf_none
      | (with_reducible refine zf_some ?_); assumption
      | with_reducible assumption
      | exact (zUp_off (by omega)).trans (by assumption)
      | exact (congrFun (zCp_off (by omega)) _).trans (by assumption)
      | with_reducible apply zf_nmM
      | with_reducible apply zf_nmV
      | with_reducible apply zf_nmL
      | with_reducible apply zf_gd
      | with_reducible apply zf_ite
      | with_reducible apply zf_bd
      | with_reducible apply ih
      | with_reducible apply hc105
      | with_reducible apply fr_X7_image_7 a k
      | intro _
      | omega
      )
theorem fr_X7_image {v : Int32} (a k : Nat) (hn : ¬ ((a = 47 ∧ (k = 16)) ∨ a = 58 ∨ a = 59))  {s : zMem} (hs : s a k = v) : zFp a k v (f_X7_image s) := by
  unfold f_X7_image
  repeat' (first
    | with_reducible exact zf_none
    | (with_reducible refine zf_some ?_); assumption
    | with_reducible assumption
    | exact (zUp_off (by omega)).trans (by assumption)
    | exact (congrFun (zCp_off (by omega)) _).trans (by assumption)
    | with_reducible apply zf_nmM
    | with_reducible apply zf_nmV
    | with_reducible apply zf_nmL
    | with_reducible apply zf_gd
    | with_reducible apply zf_ite
    | with_reducible apply zf_bd
    | with_reducible apply fr_X7_image_7 a k
    | with_reducible apply fr_X7_image_33 a k
    | intro _
    | omega
    )
theorem fr_X7_back_12 {v : Int32} {c36 : zMem → Option (Int32 × zMem)} (a k : Nat) (hn : ¬ ((a = 47 ∧ (k = 0 ∨ k = 8 ∨ k = 9 ∨ k = 15)) ∨ a = 50 ∨ a = 51 ∨ a = 52 ∨ a = 53 ∨ a = 54))  (hc36 : ∀ (s9 : zMem), s9 a k = v → zFp a k v (c36 s9)) : ∀ {n : Nat} {x1 : Int32} {s : zMem}, s a k = v → zFp a k v (f_X7_back_12 c36 n x1 s) := by
  intro n
  induction n with
  | zero => intros; exact zf_none
  | succ n ih =>
    intros
    rw [f_X7_back_12]
    repeat' (first
      | with_reducible exact zf_none
      | (with_reducible refine zf_some ?_); assumption
      | with_reducible assumption
      | exact (zUp_off (by omega)).trans (by assumption)
      | exact (congrFun (zCp_off (by omega)) _).trans (by assumption)
      | with_reducible apply zf_nmM
      | with_reducible apply zf_nmV
      | with_reducible apply zf_nmL
      | with_reducible apply zf_gd
      | with_reducible apply zf_ite
      | with_reducible apply zf_bd
      | with_reducible apply ih
      | with_reducible apply hc36
      | intro _
      | omega
      )
theorem fr_X7_back_38 {v : Int32} {c110 : zMem → Option (Int32 × zMem)} (a k : Nat) (hn : ¬ ((a = 47 ∧ (k = 0 ∨ k = 8 ∨ k = 9 ∨ k = 15)) ∨ a = 50 ∨ a = 51 ∨ a = 52 ∨ a = 53 ∨ a = 54))  (hc110 : ∀ (s9 : zMem), s9 a k = v → zFp a k v (c110 s9)) : ∀ {n : Nat} {x6 : Int32} {s : zMem}, s a k = v → zFp a k v (f_X7_back_38 c110 n x6 s) := by
  intro n
  induction n with
  | zero => intros; exact zf_none
  | succ n ih =>
    intros
    rw [f_X7_back_38]
    repeat' (first
      | with_reducible exact zf_none
      | (with_reducible refine zf_some ?_); assumption
      | with_reducible assumption
      | exact (zUp_off (by omega)).trans (by assumption)
      | exact (congrFun (zCp_off (by omega)) _).trans (by assumption)
      | with_reducible apply zf_nmM
      | with_reducible apply zf_nmV
      | with_reducible apply zf_nmL
      | with_reducible apply zf_gd
      | with_reducible apply zf_ite
      | with_reducible apply zf_bd
      | with_reducible apply ih
      | with_reducible apply hc110
      | with_reducible apply fr_X7_back_12 a k
      | intro _
      | omega
      )
theorem fr_X7_back {v : Int32} (a k : Nat) (hn : ¬ ((a = 47 ∧ (k = 0 ∨ k = 8 ∨ k = 9 ∨ k = 15)) ∨ a = 50 ∨ a = 51 ∨ a = 52 ∨ a = 53 ∨ a = 54))  {s : zMem} (hs : s a k = v) : zFp a k v (f_X7_back s) := by
  unfold f_X7_back
  repeat' (first
    | with_reducible exact zf_none
    | (with_reducible refine zf_some ?_); assumption
    | with_reducible assumption
    | exact (zUp_off (by omega)).trans (by assumption)
    | exact (congrFun (zCp_off (by omega)) _).trans (by assumption)
    | with_reducible apply zf_nmM
    | with_reducible apply zf_nmV
    | with_reducible apply zf_nmL
    | with_reducible apply zf_gd
    | with_reducible apply zf_ite
    | with_reducible apply zf_bd
    | with_reducible apply fr_X7_back_12 a k
    | with_reducible apply fr_X7_back_38 a k
    | intro _
    | omega
    )
theorem fr_X7_sheet_70 {v : Int32} (a k : Nat) (hn : ¬ (a = 60 ∨ a = 61 ∨ a = 62))  : ∀ {n : Nat} {x19 : Int32} {x20 : Int32} {s : zMem}, s a k = v → zFp a k v (f_X7_sheet_70 n x19 x20 s) := by
  intro n
  induction n with
  | zero => intros; exact zf_none
  | succ n ih =>
    intros
    rw [f_X7_sheet_70]
    repeat' (first
      | with_reducible exact zf_none
      | (with_reducible refine zf_some ?_); assumption
      | with_reducible assumption
      | exact (zUp_off (by omega)).trans (by assumption)
      | exact (congrFun (zCp_off (by omega)) _).trans (by assumption)
      | with_reducible apply zf_nmM
      | with_reducible apply zf_nmV
      | with_reducible apply zf_nmL
      | with_reducible apply zf_gd
      | with_reducible apply zf_ite
      | with_reducible apply zf_bd
      | with_reducible apply ih
      | with_reducible apply fr_X7_in a k
      | intro _
      | omega
      )
theorem fr_X7_sheet_66 {v : Int32} (a k : Nat) (hn : ¬ (a = 60 ∨ a = 61 ∨ a = 62))  {x14 : Int32} {t15 : Int32} {t16 : Int32} {s : zMem} (hs : s a k = v) : zFp a k v (f_X7_sheet_66 x14 t15 t16 s) := by
  unfold f_X7_sheet_66
  repeat' (first
    | with_reducible exact zf_none
    | (with_reducible refine zf_some ?_); assumption
    | with_reducible assumption
    | exact (zUp_off (by omega)).trans (by assumption)
    | exact (congrFun (zCp_off (by omega)) _).trans (by assumption)
    | with_reducible apply zf_nmM
    | with_reducible apply zf_nmV
    | with_reducible apply zf_nmL
    | with_reducible apply zf_gd
    | with_reducible apply zf_ite
    | with_reducible apply zf_bd
    | with_reducible apply fr_X7_in a k
    | with_reducible apply fr_X7_sheet_70 a k
    | intro _
    | omega
    )
theorem fr_X7_sheet_44 {v : Int32} (a k : Nat) (hn : ¬ (a = 60 ∨ a = 61 ∨ a = 62))  {x9 : Int32} {x10 : Int32} {x11 : Int32} {s : zMem} (hs : s a k = v) : zFp a k v (f_X7_sheet_44 x9 x10 x11 s) := by
  unfold f_X7_sheet_44
  repeat' (first
    | with_reducible exact zf_none
    | (with_reducible refine zf_some ?_); assumption
    | with_reducible assumption
    | exact (zUp_off (by omega)).trans (by assumption)
    | exact (congrFun (zCp_off (by omega)) _).trans (by assumption)
    | with_reducible apply zf_nmM
    | with_reducible apply zf_nmV
    | with_reducible apply zf_nmL
    | with_reducible apply zf_gd
    | with_reducible apply zf_ite
    | with_reducible apply zf_bd
    | with_reducible apply fr_X7_in a k
    | with_reducible apply fr_X7_sheet_70 a k
    | with_reducible apply fr_X7_sheet_66 a k
    | intro _
    | omega
    )
theorem fr_X7_sheet_32 {v : Int32} (a k : Nat) (hn : ¬ (a = 60 ∨ a = 61 ∨ a = 62))  {x5 : Int32} {x6 : Int32} {x7 : Int32} {s : zMem} (hs : s a k = v) : zFp a k v (f_X7_sheet_32 x5 x6 x7 s) := by
  unfold f_X7_sheet_32
  repeat' (first
    | with_reducible exact zf_none
    | (with_reducible refine zf_some ?_); assumption
    | with_reducible assumption
    | exact (zUp_off (by omega)).trans (by assumption)
    | exact (congrFun (zCp_off (by omega)) _).trans (by assumption)
    | with_reducible apply zf_nmM
    | with_reducible apply zf_nmV
    | with_reducible apply zf_nmL
    | with_reducible apply zf_gd
    | with_reducible apply zf_ite
    | with_reducible apply zf_bd
    | with_reducible apply fr_X7_in a k
    | with_reducible apply fr_X7_sheet_70 a k
    | with_reducible apply fr_X7_sheet_66 a k
    | with_reducible apply fr_X7_sheet_44 a k
    | intro _
    | omega
    )
theorem fr_X7_sheet {v : Int32} (a k : Nat) (hn : ¬ (a = 60 ∨ a = 61 ∨ a = 62)) {p1 : Int32} {p2 : Int32} {p3 : Int32} {s : zMem} (hs : s a k = v) : zFp a k v (f_X7_sheet p1 p2 p3 s) := by
  unfold f_X7_sheet
  repeat' (first
    | with_reducible exact zf_none
    | (with_reducible refine zf_some ?_); assumption
    | with_reducible assumption
    | exact (zUp_off (by omega)).trans (by assumption)
    | exact (congrFun (zCp_off (by omega)) _).trans (by assumption)
    | with_reducible apply zf_nmM
    | with_reducible apply zf_nmV
    | with_reducible apply zf_nmL
    | with_reducible apply zf_gd
    | with_reducible apply zf_ite
    | with_reducible apply zf_bd
    | with_reducible apply fr_X7_in a k
    | with_reducible apply fr_X7_sheet_70 a k
    | with_reducible apply fr_X7_sheet_66 a k
    | with_reducible apply fr_X7_sheet_44 a k
    | with_reducible apply fr_X7_sheet_32 a k
    | intro _
    | omega
    )
theorem fr_X7_cell {v : Int32} (a k : Nat) (hn : ¬ (a = 62)) {p1 : Int32} {p2 : Int32} {p3 : Int32} {s : zMem} (hs : s a k = v) : zFp a k v (f_X7_cell p1 p2 p3 s) := by
  unfold f_X7_cell
  repeat' (first
    | with_reducible exact zf_none
    | (with_reducible refine zf_some ?_); assumption
    | with_reducible assumption
    | exact (zUp_off (by omega)).trans (by assumption)
    | exact (congrFun (zCp_off (by omega)) _).trans (by assumption)
    | with_reducible apply zf_nmM
    | with_reducible apply zf_nmV
    | with_reducible apply zf_nmL
    | with_reducible apply zf_gd
    | with_reducible apply zf_ite
    | with_reducible apply zf_bd
    | with_reducible apply fr_X7_in a k
    | intro _
    | omega
    )
theorem fr_X7_copy_173 {v : Int32} {c147 : Int32 → Int32 → Int32 → Int32 → zMem → Option (Int32 × zMem)} (a k : Nat) (hn : ¬ (a = 62))  (hc147 : ∀ (y1 : Int32) (y2 : Int32) (y3 : Int32) (y4 : Int32) (s9 : zMem), s9 a k = v → zFp a k v (c147 y1 y2 y3 y4 s9)) {x12 : Int32} {x13 : Int32} {x14 : Int32} {x15 : Int32} {t16 : Int32} {s : zMem} (hs : s a k = v) : zFp a k v (f_X7_copy_173 c147 x12 x13 x14 x15 t16 s) := by
  unfold f_X7_copy_173
  repeat' (first
    | with_reducible exact zf_none
    | (with_reducible refine zf_some ?_); assumption
    | with_reducible assumption
    | exact (zUp_off (by omega)).trans (by assumption)
    | exact (congrFun (zCp_off (by omega)) _).trans (by assumption)
    | with_reducible apply zf_nmM
    | with_reducible apply zf_nmV
    | with_reducible apply zf_nmL
    | with_reducible apply zf_gd
    | with_reducible apply zf_ite
    | with_reducible apply zf_bd
    | with_reducible apply hc147
    | with_reducible apply fr_X7_in a k
    | intro _
    | omega
    )
theorem fr_X7_copy_147 {v : Int32} (a k : Nat) (hn : ¬ (a = 62))  : ∀ {n : Nat} {x7 : Int32} {x8 : Int32} {x9 : Int32} {x10 : Int32} {s : zMem}, s a k = v → zFp a k v (f_X7_copy_147 n x7 x8 x9 x10 s) := by
  intro n
  induction n with
  | zero => intros; exact zf_none
  | succ n ih =>
    intros
    rw [f_X7_copy_147]
    repeat' (first
      | with_reducible exact zf_none
      | (with_reducible refine zf_some ?_); assumption
      | with_reducible assumption
      | exact (zUp_off (by omega)).trans (by assumption)
      | exact (congrFun (zCp_off (by omega)) _).trans (by assumption)
      | with_reducible apply zf_nmM
      | with_reducible apply zf_nmV
      | with_reducible apply zf_nmL
      | with_reducible apply zf_gd
      | with_reducible apply zf_ite
      | with_reducible apply zf_bd
      | with_reducible apply ih
      | with_reducible apply fr_X7_in a k
      | with_reducible apply fr_X7_copy_173 a k
      | intro _
      | omega
      )
theorem fr_X7_copy {v : Int32} (a k : Nat) (hn : ¬ (a = 62)) {p1 : Int32} {p2 : Int32} {p3 : Int32} {p4 : Int32} {p5 : Int32} {s : zMem} (hs : s a k = v) : zFp a k v (f_X7_copy p1 p2 p3 p4 p5 s) := by
  unfold f_X7_copy
  repeat' (first
    | with_reducible exact zf_none
    | (with_reducible refine zf_some ?_); assumption
    | with_reducible assumption
    | exact (zUp_off (by omega)).trans (by assumption)
    | exact (congrFun (zCp_off (by omega)) _).trans (by assumption)
    | with_reducible apply zf_nmM
    | with_reducible apply zf_nmV
    | with_reducible apply zf_nmL
    | with_reducible apply zf_gd
    | with_reducible apply zf_ite
    | with_reducible apply zf_bd
    | with_reducible apply fr_X7_in a k
    | with_reducible apply fr_X7_copy_173 a k
    | with_reducible apply fr_X7_copy_147 a k
    | intro _
    | omega
    )
theorem fr_X7_hutsBy_64 {v : Int32} (a k : Nat) (hn : ¬ ((a = 47 ∧ (k = 0)) ∨ a = 48 ∨ a = 49 ∨ a = 50))  : ∀ {n : Nat} {x7 : Int32} {x8 : Int32} {x9 : Int32} {x10 : Int32} {x11 : Int32} {s : zMem}, s a k = v → zFp a k v (f_X7_hutsBy_64 n x7 x8 x9 x10 x11 s) := by
  intro n
  induction n with
  | zero => intros; exact zf_none
  | succ n ih =>
    intros
    rw [f_X7_hutsBy_64]
    repeat' (first
      | with_reducible exact zf_none
      | (with_reducible refine zf_some ?_); assumption
      | with_reducible assumption
      | exact (zUp_off (by omega)).trans (by assumption)
      | exact (congrFun (zCp_off (by omega)) _).trans (by assumption)
      | with_reducible apply zf_nmM
      | with_reducible apply zf_nmV
      | with_reducible apply zf_nmL
      | with_reducible apply zf_gd
      | with_reducible apply zf_ite
      | with_reducible apply zf_bd
      | with_reducible apply ih
      | with_reducible apply fr_X7_hut a k
      | with_reducible apply fr_X7_in a k
      | intro _
      | omega
      )
theorem fr_X7_hutsBy {v : Int32} (a k : Nat) (hn : ¬ ((a = 47 ∧ (k = 0)) ∨ a = 48 ∨ a = 49 ∨ a = 50)) {p1 : Int32} {p2 : Int32} {p3 : Int32} {p4 : Int32} {s : zMem} (hs : s a k = v) : zFp a k v (f_X7_hutsBy p1 p2 p3 p4 s) := by
  unfold f_X7_hutsBy
  repeat' (first
    | with_reducible exact zf_none
    | (with_reducible refine zf_some ?_); assumption
    | with_reducible assumption
    | exact (zUp_off (by omega)).trans (by assumption)
    | exact (congrFun (zCp_off (by omega)) _).trans (by assumption)
    | with_reducible apply zf_nmM
    | with_reducible apply zf_nmV
    | with_reducible apply zf_nmL
    | with_reducible apply zf_gd
    | with_reducible apply zf_ite
    | with_reducible apply zf_bd
    | with_reducible apply fr_X7_hut a k
    | with_reducible apply fr_X7_in a k
    | with_reducible apply fr_X7_hutsBy_64 a k
    | intro _
    | omega
    )
theorem fr_X7_isUnder {v : Int32} (a k : Nat) (hn : ¬ (False)) {p1 : Int32} {p2 : Int32} {s : zMem} (hs : s a k = v) : zFp a k v (f_X7_isUnder p1 p2 s) := by
  unfold f_X7_isUnder
  repeat' (first
    | with_reducible exact zf_none
    | (with_reducible refine zf_some ?_); assumption
    | with_reducible assumption
    | exact (zUp_off (by omega)).trans (by assumption)
    | exact (congrFun (zCp_off (by omega)) _).trans (by assumption)
    | with_reducible apply zf_nmM
    | with_reducible apply zf_nmV
    | with_reducible apply zf_nmL
    | with_reducible apply zf_gd
    | with_reducible apply zf_ite
    | with_reducible apply zf_bd
    | intro _
    | omega
    )
theorem fr_X7_taken {v : Int32} (a k : Nat) (hn : ¬ (False)) {p1 : Int32} {p2 : Int32} {s : zMem} (hs : s a k = v) : zFp a k v (f_X7_taken p1 p2 s) := by
  unfold f_X7_taken
  repeat' (first
    | with_reducible exact zf_none
    | (with_reducible refine zf_some ?_); assumption
    | with_reducible assumption
    | exact (zUp_off (by omega)).trans (by assumption)
    | exact (congrFun (zCp_off (by omega)) _).trans (by assumption)
    | with_reducible apply zf_nmM
    | with_reducible apply zf_nmV
    | with_reducible apply zf_nmL
    | with_reducible apply zf_gd
    | with_reducible apply zf_ite
    | with_reducible apply zf_bd
    | with_reducible apply fr_X7_in a k
    | with_reducible apply fr_X7_isUnder a k
    | intro _
    | omega
    )
