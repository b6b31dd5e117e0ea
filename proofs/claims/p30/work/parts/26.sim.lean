/-! how many lines there are does not hang on which is wanted, nor on what stood on the sheet -/
def sim (w w' : Int) (q : Nat) (L L' : Ly) : Prop := L.1 = L'.1 ∧ L.2.1 = L'.2.1 ∧ (w = w' → L.2.2.1 = L'.2.2.1 ∧ L.2.2.2 q = L'.2.2.2 q)
section
variable {w w' : Int} {q : Nat} {L L' : Ly}
theorem sim_say (h : sim w w' q L L') (s : Int) : sim w w' q (lSay w L s) (lSay w' L' s) := by
  obtain ⟨h1, h2, h3⟩ := h
  refine ⟨h1, by show L.2.1 + 1 = L'.2.1 + 1; rw [h2], fun e => ⟨(h3 e).1, ?_⟩⟩
  subst e
  show (if L.1 = w then st L.2.2.2 L.2.1.toNat s else L.2.2.2) q = (if L'.1 = w then st L'.2.2.2 L'.2.1.toNat s else L'.2.2.2) q
  rw [← h1, ← h2]
  by_cases e : L.1 = w
  · rw [if_pos e, if_pos e]
    unfold st
    by_cases e2 : q = L.2.1.toNat
    · rw [if_pos e2, if_pos e2]
    · rw [if_neg e2, if_neg e2]; exact (h3 rfl).2
  · rw [if_neg e, if_neg e]; exact (h3 rfl).2
theorem sim_nl (h : sim w w' q L L') : sim w w' q (lNl L) (lNl L') := ⟨by show L.1 + 1 = L'.1 + 1; rw [h.1], rfl, h.2.2⟩
theorem sim_says : ∀ (s : List Int) {L L' : Ly}, sim w w' q L L' → sim w w' q (lSays w L s) (lSays w' L' s)
  | [], _, _, h => h
  | x :: s, _, _, h => sim_says s (sim_say h x)
theorem sim_num (n : Int) : ∀ (j : Nat) {L L' : Ly}, sim w w' q L L' → sim w w' q (lNum w n j L) (lNum w' n j L')
  | 0, _, _, h => sim_say h _
  | j + 1, _, _, h => by
    rw [lNum, lNum]
    split
    · exact sim_num n j (sim_say h _)
    · exact sim_num n j h
theorem sim_chars (room : Int) (wd : Nat → Int) : ∀ (m k : Nat) {L L' : Ly}, sim w w' q L L' → sim w w' q (lChars w room wd k m L) (lChars w' room wd k m L')
  | 0, _, _, _, h => h
  | m + 1, k, L, L', h => by
    rw [lChars, lChars, ← h.2.1]
    split
    · exact sim_chars room wd m (k + 1) (sim_say (sim_nl h) _)
    · exact sim_chars room wd m (k + 1) (sim_say h _)
theorem sim_gap (room m : Int) (h : sim w w' q L L') : sim w w' q (lGap w room m L) (lGap w' room m L') := by
  unfold lGap
  rw [← h.2.1]
  split
  · exact sim_say h _
  · split
    · exact sim_nl h
    · exact h
theorem sim_word (room : Int) (wd : Nat → Int) (m : Nat) (h : sim w w' q L L') : sim w w' q (lWord w room wd m L) (lWord w' room wd m L') := sim_chars room wd m 0 (sim_gap room m h)
theorem sim_name (room : Int) (N : Nat → Int) : ∀ (m fr k : Nat) {L L' : Ly}, sim w w' q L L' → sim w w' q (lName w room N fr k m L) (lName w' room N fr k m L')
  | 0, fr, k, _, _, h => sim_word room _ _ h
  | m + 1, fr, k, _, _, h => by
    rw [lName, lName]
    split
    · exact sim_name room N m (k + 1) (k + 1) (sim_word room _ _ h)
    · exact sim_name room N m fr (k + 1) h
theorem sim_money (width v : Int) (h : sim w w' q L L') : sim w w' q (lMoney w width v L) (lMoney w' width v L') := by
  have h0 : sim w w' q (lMon0 w width v L) (lMon0 w' width v L') := ⟨h.1, rfl, h.2.2⟩
  have h1 : sim w w' q (lMon1 w v (lMon0 w width v L)) (lMon1 w' v (lMon0 w' width v L')) := by
    unfold lMon1
    split
    · exact sim_say h0 _
    · exact h0
  exact sim_say (sim_say (sim_say (sim_num _ 9 h1) _) _) _
theorem sim_beg {fr fr' : Int} (e : fr = fr') (h : sim w w' q L L') : sim w w' q (lBeg w fr L) (lBeg w' fr' L') := by
  subst e
  refine ⟨h.1, h.2.1, fun e => ⟨?_, (h.2.2 e).2⟩⟩
  subst e
  show (if fr ≤ w ∧ w ≤ L.1 then fr else L.2.2.1) = (if fr ≤ w ∧ w ≤ L'.1 then fr else L'.2.2.1)
  rw [← h.1, (h.2.2 rfl).1]
theorem sim_many (n : Int) (h : sim w w' q L L') : sim w w' q (lMany w n L) (lMany w' n L') := by
  unfold lMany
  split
  · exact sim_say (sim_num n 9 h) _
  · exact h
theorem sim_item (width : Int) (P N : Nat → Int) (h : sim w w' q L L') : sim w w' q (lItem w width P N L) (lItem w' width P N L') :=
  sim_nl (sim_money width _ (sim_beg h.1 (sim_name _ N _ 0 0 (sim_many _ h))))
theorem sim_told (width : Int) (s : List Int) (n v : Int) (h : sim w w' q L L') : sim w w' q (lTold w width s n v L) (lTold w' width s n v L') :=
  sim_nl (sim_money width v (sim_num n 9 (sim_says s h)))
theorem sim_ev1 (D : Dt) (r : Nat) (width : Int) (k : Nat) (h : sim w w' q L L') : sim w w' q (lEv1 D r w width k L) (lEv1 D r w' width k L') := by
  unfold lEv1
  split
  · exact sim_item width _ _ h
  · exact sim_told width _ _ _ h
theorem sim_ev (D : Dt) (r : Nat) (width : Int) : ∀ (m k : Nat) {L L' : Ly}, sim w w' q L L' → sim w w' q (lEv D r w width k m L) (lEv D r w' width k m L')
  | 0, _, _, _, h => h
  | m + 1, k, _, _, h => sim_ev D r width m (k + 1) (sim_ev1 D r width k h)
theorem sim_tax (D : Dt) (r : Nat) (width t : Int) (h : sim w w' q L L') : sim w w' q (lTax D r w width t L) (lTax D r w' width t L') := by
  unfold lTax
  split
  · exact sim_told width _ _ _ h
  · exact h
theorem sim_all (D : Dt) (r : Nat) (num width : Int) {b b' : Nat → Int} (hb : b q = b' q) : sim w w' q (lAll D r num w width b) (lAll D r num w' width b') := by
  have h0 : sim w w' q (0, 0, w, b) (0, 0, w', b') := ⟨rfl, rfl, fun e => ⟨e, hb⟩⟩
  exact sim_tax D r width 2 (sim_tax D r width 1 (sim_nl (sim_money width _ (sim_says _ (sim_ev D r width _ 0 (sim_nl (sim_num num 9 (sim_say h0 35))))))))
end
/-- how many lines -/
def cntI (D : Dt) (r : Nat) (num width : Int) : Int := (lAll D r num (-6) width (fun _ => 32)).1
theorem cnt_any (D : Dt) (r : Nat) (num w width : Int) (b : Nat → Int) : (lAll D r num w width b).1 = cntI D r num width := by
  by_cases e : b 0 = 32
  · exact (sim_all (q := 0) (w := w) (w' := -6) D r num width (b := b) (b' := fun _ => 32) e).1
  · have h1 := (sim_all (q := 1) (w := w) (w' := w) D r num width (b := b) (b' := fun j => if j = 1 then b 1 else 32) rfl).1
    have h2 := (sim_all (q := 0) (w := w) (w' := -6) D r num width (b := fun j => if j = 1 then b 1 else 32) (b' := fun _ => 32) rfl).1
    exact h1.trans h2
/-- the first of the lines that tell the same -/
def begI (D : Dt) (r : Nat) (num w width : Int) : Int := (lAll D r num w width (fun _ => 32)).2.2.1
/-- the sign at a place of a line -/
def sgnI (D : Dt) (r : Nat) (num w width : Int) (q : Nat) : Int := (lAll D r num w width (fun _ => 32)).2.2.2 q
theorem beg_any (D : Dt) (r : Nat) (num w width : Int) {b : Nat → Int} (h : b 0 = 32) : (lAll D r num w width b).2.2.1 = begI D r num w width := ((sim_all (q := 0) (w := w) (w' := w) D r num width (b := b) (b' := fun _ => 32) h).2.2 rfl).1
theorem sgn_any (D : Dt) (r : Nat) (num w width : Int) {b : Nat → Int} {q : Nat} (h : b q = 32) : (lAll D r num w width b).2.2.2 q = sgnI D r num w width q := ((sim_all (q := q) (w := w) (w' := w) D r num width (b := b) (b' := fun _ => 32) h).2.2 rfl).2
