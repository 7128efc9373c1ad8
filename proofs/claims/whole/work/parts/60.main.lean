/-! THE WHOLE RUN: both sides side by side -/
def sgW : List (Nat × Int32) := [(2, 4), (4, 6), (6, 3), (8, 50), (14, 4), (16, 6), (18, 3), (20, 50), (26, 4), (28, 6), (30, 3), (32, 50), (38, 4), (40, 6), (42, 3), (44, 50), (53, 6)]
def sg0 : Sg := fun c => match sgW.lookup c with
  | some w => fun k => match k with
    | 0 => w
    | _ => 0
  | none => fun _ => 0
theorem REL_0 : REL sg0 := by
  refine ⟨⟨0, 0, 0, 0, ⟨⟨rfl, rfl, rfl, rfl⟩, ⟨by omega, by omega, by omega, by omega⟩, ⟨0, by decide, rfl⟩, fun i hi => absurd hi (by omega), fun i hi => absurd hi (by omega), fun w _ => ⟨0, by decide, rfl⟩, fun i hi => absurd hi (by omega), fun i hi => absurd hi (by omega)⟩, ⟨⟨rfl, rfl⟩, ⟨rfl, rfl⟩, ⟨rfl, rfl⟩, ⟨rfl, rfl⟩⟩, rfl, fun i hi => absurd hi (by omega), fun i hi => absurd hi (by omega), fun i hi => absurd hi (by omega), fun w _ => rfl, fun i hi => absurd hi (by omega)⟩, ⟨rfl, rfl, rfl⟩, ⟨0, by omega, rfl, rfl, fun i hi => absurd hi (by omega)⟩, ⟨0, 0, by omega, by omega, rfl, rfl, rfl, fun z => absurd z (by decide), fun z => absurd z (by decide)⟩, ⟨rfl, ?_⟩, ⟨0, by omega, rfl⟩⟩
  rintro t (rfl | rfl | rfl)
  · exact ⟨rfl, rfl, rfl, rfl⟩
  · exact ⟨rfl, rfl, rfl, rfl⟩
  · exact ⟨rfl, rfl, rfl, rfl⟩
def GoX7 (self : Int32 → Sg → Option Int32) (i : Nat) (o : Option Int32) : Prop := ∃ s2, o = self (nI (i + 7)) s2 ∧ REL s2
theorem GoX7.ite {self : Int32 → Sg → Option Int32} {i : Nat} {P : Prop} [Decidable P] {x y : Option Int32} (h1 : GoX7 self i x) (h2 : GoX7 self i y) : GoX7 self i (if P then x else y) := by
  by_cases h : P
  · rw [if_pos h]; exact h1
  · rw [if_neg h]; exact h2
theorem cmp_same (r : Int64) : lg_cmp r r = 0 := by
  unfold lg_cmp
  rw [if_neg (fun h => Int64.lt_irrefl h), if_pos rfl]
section RUN
variable {Ln : Nat} {sc : Nat → Int32}
theorem xg {i k : Nat} (h : i + k < Ln) (hL : Ln ≤ 3584) : xget sc Ln (nI i + nI k) = some (sc (i + k)) := by
  unfold xget
  rw [nadd, if_neg (nI_in h (by omega)), nIc (by omega)]

theorem St_town {self : Int32 → Sg → Option Int32} {i : Nat} {s : Sg} {j : Sg → Option Int32} (hj : ∀ s, j s = self (nI (i + 7)) s) (h : REL s) (hi : i + 7 ≤ Ln) (hL : Ln ≤ 3584) : GoX7 self i ((xget sc Ln (nI i + nI 1)).bind fun (va1 : Int32) => ob2 (f_X7_town va1 s) fun (r1 : Int32) (s1 : Sg) => (xget sc Ln (nI i + nI 1)).bind fun (vb1 : Int32) => ob2 (f_X8_town vb1 s1) fun (r2 : Int32) (s2 : Sg) => if r1 = r2 then j s2 else some (nI 0)) := by
  obtain ⟨r, s1, s2, e1, e2, e3⟩ := OK_town h (sc (i + 1))
  rw [xg (k := 1) (by omega) hL, ob_s, e1, ob2_some, ob_s, e2, ob2_some, if_pos rfl]
  exact ⟨s2, hj s2, e3⟩
theorem St_street {self : Int32 → Sg → Option Int32} {i : Nat} {s : Sg} {j : Sg → Option Int32} (hj : ∀ s, j s = self (nI (i + 7)) s) (h : REL s) (hi : i + 7 ≤ Ln) (hL : Ln ≤ 3584) : GoX7 self i ((xget sc Ln (nI i + nI 1)).bind fun (va1 : Int32) => (xget sc Ln (nI i + nI 2)).bind fun (va2 : Int32) => (xget sc Ln (nI i + nI 3)).bind fun (va3 : Int32) => (xget sc Ln (nI i + nI 4)).bind fun (va4 : Int32) => ob2 (f_X7_street va1 va2 va3 va4 s) fun (r1 : Int32) (s1 : Sg) => (xget sc Ln (nI i + nI 1)).bind fun (vb1 : Int32) => (xget sc Ln (nI i + nI 2)).bind fun (vb2 : Int32) => (xget sc Ln (nI i + nI 3)).bind fun (vb3 : Int32) => (xget sc Ln (nI i + nI 4)).bind fun (vb4 : Int32) => ob2 (f_X8_street vb1 vb2 vb3 vb4 s1) fun (r2 : Int32) (s2 : Sg) => if r1 = r2 then j s2 else some (nI 0)) := by
  obtain ⟨r, s1, s2, e1, e2, e3⟩ := OK_street h (sc (i + 1)) (sc (i + 2)) (sc (i + 3)) (sc (i + 4))
  rw [xg (k := 1) (by omega) hL, xg (k := 2) (by omega) hL, xg (k := 3) (by omega) hL, xg (k := 4) (by omega) hL, ob_s, ob_s, ob_s, ob_s, e1, ob2_some, ob_s, ob_s, ob_s, ob_s, e2, ob2_some, if_pos rfl]
  exact ⟨s2, hj s2, e3⟩
theorem St_event {self : Int32 → Sg → Option Int32} {i : Nat} {s : Sg} {j : Sg → Option Int32} (hj : ∀ s, j s = self (nI (i + 7)) s) (h : REL s) (hi : i + 7 ≤ Ln) (hL : Ln ≤ 3584) : GoX7 self i ((xget sc Ln (nI i + nI 1)).bind fun (va1 : Int32) => (xget sc Ln (nI i + nI 2)).bind fun (va2 : Int32) => (xget sc Ln (nI i + nI 3)).bind fun (va3 : Int32) => (xget sc Ln (nI i + nI 4)).bind fun (va4 : Int32) => (xget sc Ln (nI i + nI 5)).bind fun (va5 : Int32) => (xget sc Ln (nI i + nI 6)).bind fun (va6 : Int32) => ob2 (f_X7_event va1 va2 va3 va4 va5 va6 s) fun (r1 : Int32) (s1 : Sg) => (xget sc Ln (nI i + nI 1)).bind fun (vb1 : Int32) => (xget sc Ln (nI i + nI 2)).bind fun (vb2 : Int32) => (xget sc Ln (nI i + nI 3)).bind fun (vb3 : Int32) => (xget sc Ln (nI i + nI 4)).bind fun (vb4 : Int32) => (xget sc Ln (nI i + nI 5)).bind fun (vb5 : Int32) => (xget sc Ln (nI i + nI 6)).bind fun (vb6 : Int32) => ob2 (f_X8_event vb1 vb2 vb3 vb4 vb5 vb6 s1) fun (r2 : Int32) (s2 : Sg) => if r1 = r2 then j s2 else some (nI 0)) := by
  obtain ⟨r, s1, s2, e1, e2, e3⟩ := OK_event h (sc (i + 1)) (sc (i + 2)) (sc (i + 3)) (sc (i + 4)) (sc (i + 5)) (sc (i + 6))
  rw [xg (k := 1) (by omega) hL, xg (k := 2) (by omega) hL, xg (k := 3) (by omega) hL, xg (k := 4) (by omega) hL, xg (k := 5) (by omega) hL, xg (k := 6) (by omega) hL, ob_s, ob_s, ob_s, ob_s, ob_s, ob_s, e1, ob2_some, ob_s, ob_s, ob_s, ob_s, ob_s, ob_s, e2, ob2_some, if_pos rfl]
  exact ⟨s2, hj s2, e3⟩
theorem St_back {self : Int32 → Sg → Option Int32} {i : Nat} {s : Sg} {j : Sg → Option Int32} (hj : ∀ s, j s = self (nI (i + 7)) s) (h : REL s) (hi : i + 7 ≤ Ln) (hL : Ln ≤ 3584) : GoX7 self i ((xget sc Ln (nI i + nI 1)).bind fun (va1 : Int32) => ob2 (f_X7_back va1 s) fun (r1 : Int32) (s1 : Sg) => (xget sc Ln (nI i + nI 1)).bind fun (vb1 : Int32) => ob2 (f_X8_back vb1 s1) fun (r2 : Int32) (s2 : Sg) => if r1 = r2 then j s2 else some (nI 0)) := by
  obtain ⟨r, s1, s2, e1, e2, e3⟩ := OK_back h (sc (i + 1))
  rw [xg (k := 1) (by omega) hL, ob_s, e1, ob2_some, ob_s, e2, ob2_some, if_pos rfl]
  exact ⟨s2, hj s2, e3⟩
theorem St_law {self : Int32 → Sg → Option Int32} {i : Nat} {s : Sg} {j : Sg → Option Int32} (hj : ∀ s, j s = self (nI (i + 7)) s) (h : REL s) (hi : i + 7 ≤ Ln) (hL : Ln ≤ 3584) : GoX7 self i ((xget sc Ln (nI i + nI 1)).bind fun (va1 : Int32) => ob2 (f_X7_law va1 s) fun (r1 : Int32) (s1 : Sg) => (xget sc Ln (nI i + nI 1)).bind fun (vb1 : Int32) => ob2 (f_X8_law vb1 s1) fun (r2 : Int32) (s2 : Sg) => if r1 = r2 then j s2 else some (nI 0)) := by
  obtain ⟨r, s1, s2, e1, e2, e3⟩ := OK_law h (sc (i + 1))
  rw [xg (k := 1) (by omega) hL, ob_s, e1, ob2_some, ob_s, e2, ob2_some, if_pos rfl]
  exact ⟨s2, hj s2, e3⟩
theorem St_undo {self : Int32 → Sg → Option Int32} {i : Nat} {s : Sg} {j : Sg → Option Int32} (hj : ∀ s, j s = self (nI (i + 7)) s) (h : REL s) (hi : i + 7 ≤ Ln) (hL : Ln ≤ 3584) : GoX7 self i (ob2 (f_X7_undo s) fun (r1 : Int32) (s1 : Sg) => ob2 (f_X8_undo s1) fun (r2 : Int32) (s2 : Sg) => if r1 = r2 then j s2 else some (nI 0)) := by
  obtain ⟨r, s1, s2, e1, e2, e3⟩ := OK_undo h
  rw [e1, ob2_some, e2, ob2_some, if_pos rfl]
  exact ⟨s2, hj s2, e3⟩
theorem St_rent {self : Int32 → Sg → Option Int32} {i : Nat} {s : Sg} {j : Sg → Option Int32} (hj : ∀ s, j s = self (nI (i + 7)) s) (h : REL s) (hi : i + 7 ≤ Ln) (hL : Ln ≤ 3584) : GoX7 self i ((xget sc Ln (nI i + nI 1)).bind fun (va1 : Int32) => (xget sc Ln (nI i + nI 2)).bind fun (va2 : Int32) => ob2 (f_X7_rent va1 va2 s) fun (r1 : Int32) (s1 : Sg) => (xget sc Ln (nI i + nI 1)).bind fun (vb1 : Int32) => (xget sc Ln (nI i + nI 2)).bind fun (vb2 : Int32) => ob2 (f_X8_rent vb1 vb2 s1) fun (r2 : Int32) (s2 : Sg) => if r1 = r2 then j s2 else some (nI 0)) := by
  obtain ⟨r, s1, s2, e1, e2, e3⟩ := OK_rent h (sc (i + 1)) (sc (i + 2))
  rw [xg (k := 1) (by omega) hL, xg (k := 2) (by omega) hL, ob_s, ob_s, e1, ob2_some, ob_s, ob_s, e2, ob2_some, if_pos rfl]
  exact ⟨s2, hj s2, e3⟩
theorem St_type {self : Int32 → Sg → Option Int32} {i : Nat} {s : Sg} {j : Sg → Option Int32} (hj : ∀ s, j s = self (nI (i + 7)) s) (h : REL s) (hi : i + 7 ≤ Ln) (hL : Ln ≤ 3584) : GoX7 self i ((xget sc Ln (nI i + nI 1)).bind fun (va1 : Int32) => ob2 (f_X7_type va1 s) fun (r1 : Int32) (s1 : Sg) => (xget sc Ln (nI i + nI 1)).bind fun (vb1 : Int32) => ob2 (f_X8_type vb1 s1) fun (r2 : Int32) (s2 : Sg) => if r1 = r2 then j s2 else some (nI 0)) := by
  obtain ⟨r, s1, s2, e1, e2, e3⟩ := OK_type h (sc (i + 1))
  rw [xg (k := 1) (by omega) hL, ob_s, e1, ob2_some, ob_s, e2, ob2_some, if_pos rfl]
  exact ⟨s2, hj s2, e3⟩
theorem St_clear {self : Int32 → Sg → Option Int32} {i : Nat} {s : Sg} {j : Sg → Option Int32} (hj : ∀ s, j s = self (nI (i + 7)) s) (h : REL s) (hi : i + 7 ≤ Ln) (hL : Ln ≤ 3584) : GoX7 self i (ob2 (f_X7_clear s) fun (r1 : Int32) (s1 : Sg) => ob2 (f_X8_clear s1) fun (r2 : Int32) (s2 : Sg) => if r1 = r2 then j s2 else some (nI 0)) := by
  obtain ⟨r, s1, s2, e1, e2, e3⟩ := OK_clear h
  rw [e1, ob2_some, e2, ob2_some, if_pos rfl]
  exact ⟨s2, hj s2, e3⟩
theorem St_read {self : Int32 → Sg → Option Int32} {i : Nat} {s : Sg} {j : Sg → Option Int32} (hj : ∀ s, j s = self (nI (i + 7)) s) (h : REL s) (hi : i + 7 ≤ Ln) (hL : Ln ≤ 3584) : GoX7 self i (ob2 (f_X7_read s) fun (r1 : Int32) (s1 : Sg) => ob2 (f_X8_read s1) fun (r2 : Int32) (s2 : Sg) => if r1 = r2 then j s2 else some (nI 0)) := by
  obtain ⟨r, s1, s2, e1, e2, e3⟩ := OK_read h
  rw [e1, ob2_some, e2, ob2_some, if_pos rfl]
  exact ⟨s2, hj s2, e3⟩
theorem St_of {self : Int32 → Sg → Option Int32} {i : Nat} {s : Sg} {j : Sg → Option Int32} (hj : ∀ s, j s = self (nI (i + 7)) s) (h : REL s) (hi : i + 7 ≤ Ln) (hL : Ln ≤ 3584) : GoX7 self i ((xget sc Ln (nI i + nI 1)).bind fun (va1 : Int32) => (xget sc Ln (nI i + nI 2)).bind fun (va2 : Int32) => ob2 (f_X7_of va1 va2 s) fun (r1 : Int32) (s1 : Sg) => (xget sc Ln (nI i + nI 1)).bind fun (vb1 : Int32) => (xget sc Ln (nI i + nI 2)).bind fun (vb2 : Int32) => ob2 (f_X8_of vb1 vb2 s1) fun (r2 : Int32) (s2 : Sg) => if r1 = r2 then j s2 else some (nI 0)) := by
  obtain ⟨r, s1, s2, e1, e2, e3⟩ := OK_of h (sc (i + 1)) (sc (i + 2))
  rw [xg (k := 1) (by omega) hL, xg (k := 2) (by omega) hL, ob_s, ob_s, e1, ob2_some, ob_s, ob_s, e2, ob2_some, if_pos rfl]
  exact ⟨s2, hj s2, e3⟩
theorem St_name {self : Int32 → Sg → Option Int32} {i : Nat} {s : Sg} {j : Sg → Option Int32} (hj : ∀ s, j s = self (nI (i + 7)) s) (h : REL s) (hi : i + 7 ≤ Ln) (hL : Ln ≤ 3584) : GoX7 self i ((xget sc Ln (nI i + nI 1)).bind fun (va1 : Int32) => (xget sc Ln (nI i + nI 2)).bind fun (va2 : Int32) => ob2 (f_X7_name va1 va2 s) fun (r1 : Int32) (s1 : Sg) => (xget sc Ln (nI i + nI 1)).bind fun (vb1 : Int32) => (xget sc Ln (nI i + nI 2)).bind fun (vb2 : Int32) => ob2 (f_X8_name vb1 vb2 s1) fun (r2 : Int32) (s2 : Sg) => if r1 = r2 then j s2 else some (nI 0)) := by
  obtain ⟨r, s1, s2, e1, e2, e3⟩ := OK_name h (sc (i + 1)) (sc (i + 2))
  rw [xg (k := 1) (by omega) hL, xg (k := 2) (by omega) hL, ob_s, ob_s, e1, ob2_some, ob_s, ob_s, e2, ob2_some, if_pos rfl]
  exact ⟨s2, hj s2, e3⟩
theorem St_changes {self : Int32 → Sg → Option Int32} {i : Nat} {s : Sg} {j : Sg → Option Int32} (hj : ∀ s, j s = self (nI (i + 7)) s) (h : REL s) (hi : i + 7 ≤ Ln) (hL : Ln ≤ 3584) : GoX7 self i ((xget sc Ln (nI i + nI 1)).bind fun (va1 : Int32) => ob2 (f_X7_changes va1 s) fun (r1 : Int32) (s1 : Sg) => (xget sc Ln (nI i + nI 1)).bind fun (vb1 : Int32) => ob2 (f_X8_changes vb1 s1) fun (r2 : Int32) (s2 : Sg) => if r1 = r2 then j s2 else some (nI 0)) := by
  obtain ⟨r, s1, s2, e1, e2, e3⟩ := OK_changes h (sc (i + 1))
  rw [xg (k := 1) (by omega) hL, ob_s, e1, ob2_some, ob_s, e2, ob2_some, if_pos rfl]
  exact ⟨s2, hj s2, e3⟩
theorem St_which {self : Int32 → Sg → Option Int32} {i : Nat} {s : Sg} {j : Sg → Option Int32} (hj : ∀ s, j s = self (nI (i + 7)) s) (h : REL s) (hi : i + 7 ≤ Ln) (hL : Ln ≤ 3584) : GoX7 self i ((xget sc Ln (nI i + nI 1)).bind fun (va1 : Int32) => (xget sc Ln (nI i + nI 2)).bind fun (va2 : Int32) => (xget sc Ln (nI i + nI 3)).bind fun (va3 : Int32) => ob2 (f_X7_which va1 va2 va3 s) fun (r1 : Int32) (s1 : Sg) => (xget sc Ln (nI i + nI 1)).bind fun (vb1 : Int32) => (xget sc Ln (nI i + nI 2)).bind fun (vb2 : Int32) => (xget sc Ln (nI i + nI 3)).bind fun (vb3 : Int32) => ob2 (f_X8_which vb1 vb2 vb3 s1) fun (r2 : Int32) (s2 : Sg) => if r1 = r2 then j s2 else some (nI 0)) := by
  obtain ⟨r, s1, s2, e1, e2, e3⟩ := OK_which h (sc (i + 1)) (sc (i + 2)) (sc (i + 3))
  rw [xg (k := 1) (by omega) hL, xg (k := 2) (by omega) hL, xg (k := 3) (by omega) hL, ob_s, ob_s, ob_s, e1, ob2_some, ob_s, ob_s, ob_s, e2, ob2_some, if_pos rfl]
  exact ⟨s2, hj s2, e3⟩
theorem St_letter {self : Int32 → Sg → Option Int32} {i : Nat} {s : Sg} {j : Sg → Option Int32} (hj : ∀ s, j s = self (nI (i + 7)) s) (h : REL s) (hi : i + 7 ≤ Ln) (hL : Ln ≤ 3584) : GoX7 self i ((xget sc Ln (nI i + nI 1)).bind fun (va1 : Int32) => (xget sc Ln (nI i + nI 2)).bind fun (va2 : Int32) => (xget sc Ln (nI i + nI 3)).bind fun (va3 : Int32) => ob2 (f_X7_letter va1 va2 va3 s) fun (r1 : Int32) (s1 : Sg) => (xget sc Ln (nI i + nI 1)).bind fun (vb1 : Int32) => (xget sc Ln (nI i + nI 2)).bind fun (vb2 : Int32) => (xget sc Ln (nI i + nI 3)).bind fun (vb3 : Int32) => ob2 (f_X8_letter vb1 vb2 vb3 s1) fun (r2 : Int32) (s2 : Sg) => if r1 = r2 then j s2 else some (nI 0)) := by
  obtain ⟨r, s1, s2, e1, e2, e3⟩ := OK_letter h (sc (i + 1)) (sc (i + 2)) (sc (i + 3))
  rw [xg (k := 1) (by omega) hL, xg (k := 2) (by omega) hL, xg (k := 3) (by omega) hL, ob_s, ob_s, ob_s, e1, ob2_some, ob_s, ob_s, ob_s, e2, ob2_some, if_pos rfl]
  exact ⟨s2, hj s2, e3⟩
theorem St_cab {self : Int32 → Sg → Option Int32} {i : Nat} {s : Sg} {j : Sg → Option Int32} (hj : ∀ s, j s = self (nI (i + 7)) s) (h : REL s) (hi : i + 7 ≤ Ln) (hL : Ln ≤ 3584) : GoX7 self i ((xget sc Ln (nI i + nI 1)).bind fun (va1 : Int32) => (xget sc Ln (nI i + nI 2)).bind fun (va2 : Int32) => (xget sc Ln (nI i + nI 3)).bind fun (va3 : Int32) => ob2 (f_X7_cab va1 va2 va3 s) fun (r1 : Int32) (s1 : Sg) => (xget sc Ln (nI i + nI 1)).bind fun (vb1 : Int32) => (xget sc Ln (nI i + nI 2)).bind fun (vb2 : Int32) => (xget sc Ln (nI i + nI 3)).bind fun (vb3 : Int32) => ob2 (f_X8_cab vb1 vb2 vb3 s1) fun (r2 : Int32) (s2 : Sg) => if r1 = r2 then j s2 else some (nI 0)) := by
  obtain ⟨r, s1, s2, e1, e2, e3⟩ := OK_cab h (sc (i + 1)) (sc (i + 2)) (sc (i + 3))
  rw [xg (k := 1) (by omega) hL, xg (k := 2) (by omega) hL, xg (k := 3) (by omega) hL, ob_s, ob_s, ob_s, e1, ob2_some, ob_s, ob_s, ob_s, e2, ob2_some, if_pos rfl]
  exact ⟨s2, hj s2, e3⟩
theorem St_find {self : Int32 → Sg → Option Int32} {i : Nat} {s : Sg} {j : Sg → Option Int32} (hj : ∀ s, j s = self (nI (i + 7)) s) (h : REL s) (hi : i + 7 ≤ Ln) (hL : Ln ≤ 3584) : GoX7 self i ((xget sc Ln (nI i + nI 1)).bind fun (va1 : Int32) => (xget sc Ln (nI i + nI 2)).bind fun (va2 : Int32) => ob2 (f_X7_find va1 va2 s) fun (r1 : Int32) (s1 : Sg) => (xget sc Ln (nI i + nI 1)).bind fun (vb1 : Int32) => (xget sc Ln (nI i + nI 2)).bind fun (vb2 : Int32) => ob2 (f_X8_find vb1 vb2 s1) fun (r2 : Int32) (s2 : Sg) => if r1 = r2 then j s2 else some (nI 0)) := by
  obtain ⟨r, s1, s2, e1, e2, e3⟩ := OK_find h (sc (i + 1)) (sc (i + 2))
  rw [xg (k := 1) (by omega) hL, xg (k := 2) (by omega) hL, ob_s, ob_s, e1, ob2_some, ob_s, ob_s, e2, ob2_some, if_pos rfl]
  exact ⟨s2, hj s2, e3⟩
theorem St_stage {self : Int32 → Sg → Option Int32} {i : Nat} {s : Sg} {j : Sg → Option Int32} (hj : ∀ s, j s = self (nI (i + 7)) s) (h : REL s) (hi : i + 7 ≤ Ln) (hL : Ln ≤ 3584) : GoX7 self i ((xget sc Ln (nI i + nI 1)).bind fun (va1 : Int32) => (xget sc Ln (nI i + nI 2)).bind fun (va2 : Int32) => (xget sc Ln (nI i + nI 3)).bind fun (va3 : Int32) => (xget sc Ln (nI i + nI 4)).bind fun (va4 : Int32) => ob2 (f_X7_stage va1 va2 va3 va4 s) fun (r1 : Int32) (s1 : Sg) => (xget sc Ln (nI i + nI 1)).bind fun (vb1 : Int32) => (xget sc Ln (nI i + nI 2)).bind fun (vb2 : Int32) => (xget sc Ln (nI i + nI 3)).bind fun (vb3 : Int32) => (xget sc Ln (nI i + nI 4)).bind fun (vb4 : Int32) => ob2 (f_X8_stage vb1 vb2 vb3 vb4 s1) fun (r2 : Int32) (s2 : Sg) => if r1 = r2 then j s2 else some (nI 0)) := by
  obtain ⟨r, s1, s2, e1, e2, e3⟩ := OK_stage h (sc (i + 1)) (sc (i + 2)) (sc (i + 3)) (sc (i + 4))
  rw [xg (k := 1) (by omega) hL, xg (k := 2) (by omega) hL, xg (k := 3) (by omega) hL, xg (k := 4) (by omega) hL, ob_s, ob_s, ob_s, ob_s, e1, ob2_some, ob_s, ob_s, ob_s, ob_s, e2, ob2_some, if_pos rfl]
  exact ⟨s2, hj s2, e3⟩
theorem St_forbid {self : Int32 → Sg → Option Int32} {i : Nat} {s : Sg} {j : Sg → Option Int32} (hj : ∀ s, j s = self (nI (i + 7)) s) (h : REL s) (hi : i + 7 ≤ Ln) (hL : Ln ≤ 3584) : GoX7 self i ((xget sc Ln (nI i + nI 1)).bind fun (va1 : Int32) => ob2 (f_X7_forbid va1 s) fun (r1 : Int32) (s1 : Sg) => (xget sc Ln (nI i + nI 1)).bind fun (vb1 : Int32) => ob2 (f_X8_forbid vb1 s1) fun (r2 : Int32) (s2 : Sg) => if r1 = r2 then j s2 else some (nI 0)) := by
  obtain ⟨r, s1, s2, e1, e2, e3⟩ := OK_forbid h (sc (i + 1))
  rw [xg (k := 1) (by omega) hL, ob_s, e1, ob2_some, ob_s, e2, ob2_some, if_pos rfl]
  exact ⟨s2, hj s2, e3⟩
theorem St_rents {self : Int32 → Sg → Option Int32} {i : Nat} {s : Sg} {j : Sg → Option Int32} (hj : ∀ s, j s = self (nI (i + 7)) s) (h : REL s) (hi : i + 7 ≤ Ln) (hL : Ln ≤ 3584) : GoX7 self i ((xget sc Ln (nI i + nI 1)).bind fun (va1 : Int32) => ob2 (f_X7_rents va1 s) fun (r1 : Int32) (s1 : Sg) => (xget sc Ln (nI i + nI 1)).bind fun (vb1 : Int32) => ob2 (f_X8_rents vb1 s1) fun (r2 : Int32) (s2 : Sg) => if r1 = r2 then j s2 else some (nI 0)) := by
  obtain ⟨r, s1, s2, e1, e2, e3⟩ := OK_rents h (sc (i + 1))
  rw [xg (k := 1) (by omega) hL, ob_s, e1, ob2_some, ob_s, e2, ob2_some, if_pos rfl]
  exact ⟨s2, hj s2, e3⟩
theorem St_landlords {self : Int32 → Sg → Option Int32} {i : Nat} {s : Sg} {j : Sg → Option Int32} (hj : ∀ s, j s = self (nI (i + 7)) s) (h : REL s) (hi : i + 7 ≤ Ln) (hL : Ln ≤ 3584) : GoX7 self i ((xget sc Ln (nI i + nI 1)).bind fun (va1 : Int32) => (xget sc Ln (nI i + nI 2)).bind fun (va2 : Int32) => (xget sc Ln (nI i + nI 3)).bind fun (va3 : Int32) => (xget sc Ln (nI i + nI 4)).bind fun (va4 : Int32) => ob2 (f_X7_landlords va1 va2 va3 va4 s) fun (r1 : Int32) (s1 : Sg) => (xget sc Ln (nI i + nI 1)).bind fun (vb1 : Int32) => (xget sc Ln (nI i + nI 2)).bind fun (vb2 : Int32) => (xget sc Ln (nI i + nI 3)).bind fun (vb3 : Int32) => (xget sc Ln (nI i + nI 4)).bind fun (vb4 : Int32) => ob2 (f_X8_landlords vb1 vb2 vb3 vb4 s1) fun (r2 : Int32) (s2 : Sg) => if r1 = r2 then j s2 else some (nI 0)) := by
  obtain ⟨r, s1, s2, e1, e2, e3⟩ := OK_landlords h (sc (i + 1)) (sc (i + 2)) (sc (i + 3)) (sc (i + 4))
  rw [xg (k := 1) (by omega) hL, xg (k := 2) (by omega) hL, xg (k := 3) (by omega) hL, xg (k := 4) (by omega) hL, ob_s, ob_s, ob_s, ob_s, e1, ob2_some, ob_s, ob_s, ob_s, ob_s, e2, ob2_some, if_pos rfl]
  exact ⟨s2, hj s2, e3⟩
theorem St_round {self : Int32 → Sg → Option Int32} {i : Nat} {s : Sg} {j : Sg → Option Int32} (hj : ∀ s, j s = self (nI (i + 7)) s) (h : REL s) (hi : i + 7 ≤ Ln) (hL : Ln ≤ 3584) : GoX7 self i ((xget sc Ln (nI i + nI 1)).bind fun (va1 : Int32) => (xget sc Ln (nI i + nI 2)).bind fun (va2 : Int32) => ob2 (f_X7_round va1 va2 s) fun (r1 : Int32) (s1 : Sg) => (xget sc Ln (nI i + nI 1)).bind fun (vb1 : Int32) => (xget sc Ln (nI i + nI 2)).bind fun (vb2 : Int32) => ob2 (f_X8_round vb1 vb2 s1) fun (r2 : Int32) (s2 : Sg) => if r1 = r2 then j s2 else some (nI 0)) := by
  obtain ⟨r, s1, s2, e1, e2, e3⟩ := OK_round h (sc (i + 1)) (sc (i + 2))
  rw [xg (k := 1) (by omega) hL, xg (k := 2) (by omega) hL, ob_s, ob_s, e1, ob2_some, ob_s, ob_s, e2, ob2_some, if_pos rfl]
  exact ⟨s2, hj s2, e3⟩
theorem St_reading {self : Int32 → Sg → Option Int32} {i : Nat} {s : Sg} {j : Sg → Option Int32} (hj : ∀ s, j s = self (nI (i + 7)) s) (h : REL s) (hi : i + 7 ≤ Ln) (hL : Ln ≤ 3584) : GoX7 self i ((xget sc Ln (nI i + nI 1)).bind fun (va1 : Int32) => (xget sc Ln (nI i + nI 2)).bind fun (va2 : Int32) => (xget sc Ln (nI i + nI 3)).bind fun (va3 : Int32) => ob2 (f_X7_reading va1 va2 va3 s) fun (r1 : Int32) (s1 : Sg) => (xget sc Ln (nI i + nI 1)).bind fun (vb1 : Int32) => (xget sc Ln (nI i + nI 2)).bind fun (vb2 : Int32) => (xget sc Ln (nI i + nI 3)).bind fun (vb3 : Int32) => ob2 (f_X8_reading vb1 vb2 vb3 s1) fun (r2 : Int32) (s2 : Sg) => if r1 = r2 then j s2 else some (nI 0)) := by
  obtain ⟨r, s1, s2, e1, e2, e3⟩ := OK_reading h (sc (i + 1)) (sc (i + 2)) (sc (i + 3))
  rw [xg (k := 1) (by omega) hL, xg (k := 2) (by omega) hL, xg (k := 3) (by omega) hL, ob_s, ob_s, ob_s, e1, ob2_some, ob_s, ob_s, ob_s, e2, ob2_some, if_pos rfl]
  exact ⟨s2, hj s2, e3⟩
theorem St_burn {self : Int32 → Sg → Option Int32} {i : Nat} {s : Sg} {j : Sg → Option Int32} (hj : ∀ s, j s = self (nI (i + 7)) s) (h : REL s) (hi : i + 7 ≤ Ln) (hL : Ln ≤ 3584) : GoX7 self i (ob2 (f_X7_burn s) fun (r1 : Int32) (s1 : Sg) => ob2 (f_X8_burn s1) fun (r2 : Int32) (s2 : Sg) => if r1 = r2 then j s2 else some (nI 0)) := by
  obtain ⟨r, s1, s2, e1, e2, e3⟩ := OK_burn h
  rw [e1, ob2_some, e2, ob2_some, if_pos rfl]
  exact ⟨s2, hj s2, e3⟩
theorem St_truly {self : Int32 → Sg → Option Int32} {i : Nat} {s : Sg} {j : Sg → Option Int32} (hj : ∀ s, j s = self (nI (i + 7)) s) (h : REL s) (hi : i + 7 ≤ Ln) (hL : Ln ≤ 3584) : GoX7 self i ((xget sc Ln (nI i + nI 1)).bind fun (va1 : Int32) => ob2 (f_X7_truly va1 s) fun (r1 : Int32) (s1 : Sg) => (xget sc Ln (nI i + nI 1)).bind fun (vb1 : Int32) => ob2 (f_X8_truly vb1 s1) fun (r2 : Int32) (s2 : Sg) => if r1 = r2 then j s2 else some (nI 0)) := by
  obtain ⟨r, s1, s2, e1, e2, e3⟩ := OK_truly h (sc (i + 1))
  rw [xg (k := 1) (by omega) hL, ob_s, e1, ob2_some, ob_s, e2, ob2_some, if_pos rfl]
  exact ⟨s2, hj s2, e3⟩
theorem St_drawn {self : Int32 → Sg → Option Int32} {i : Nat} {s : Sg} {j : Sg → Option Int32} (hj : ∀ s, j s = self (nI (i + 7)) s) (h : REL s) (hi : i + 7 ≤ Ln) (hL : Ln ≤ 3584) : GoX7 self i ((xget sc Ln (nI i + nI 1)).bind fun (va1 : Int32) => (xget sc Ln (nI i + nI 2)).bind fun (va2 : Int32) => (xget sc Ln (nI i + nI 3)).bind fun (va3 : Int32) => ob2 (f_X7_drawn va1 va2 va3 s) fun (r1 : Int32) (s1 : Sg) => (xget sc Ln (nI i + nI 1)).bind fun (vb1 : Int32) => (xget sc Ln (nI i + nI 2)).bind fun (vb2 : Int32) => (xget sc Ln (nI i + nI 3)).bind fun (vb3 : Int32) => ob2 (f_X8_drawn vb1 vb2 vb3 s1) fun (r2 : Int32) (s2 : Sg) => if r1 = r2 then j s2 else some (nI 0)) := by
  obtain ⟨r, s1, s2, e1, e2, e3⟩ := OK_drawn h (sc (i + 1)) (sc (i + 2)) (sc (i + 3))
  rw [xg (k := 1) (by omega) hL, xg (k := 2) (by omega) hL, xg (k := 3) (by omega) hL, ob_s, ob_s, ob_s, e1, ob2_some, ob_s, ob_s, ob_s, e2, ob2_some, if_pos rfl]
  exact ⟨s2, hj s2, e3⟩
theorem St_image {self : Int32 → Sg → Option Int32} {i : Nat} {s : Sg} {j : Sg → Option Int32} (hj : ∀ s, j s = self (nI (i + 7)) s) (h : REL s) (hi : i + 7 ≤ Ln) (hL : Ln ≤ 3584) : GoX7 self i ((xget sc Ln (nI i + nI 1)).bind fun (va1 : Int32) => ob2 (f_X7_image va1 s) fun (r1 : Int32) (s1 : Sg) => (xget sc Ln (nI i + nI 1)).bind fun (vb1 : Int32) => ob2 (f_X8_image vb1 s1) fun (r2 : Int32) (s2 : Sg) => if r1 = r2 then j s2 else some (nI 0)) := by
  obtain ⟨r, s1, s2, e1, e2, e3⟩ := OK_image h (sc (i + 1))
  rw [xg (k := 1) (by omega) hL, ob_s, e1, ob2_some, ob_s, e2, ob2_some, if_pos rfl]
  exact ⟨s2, hj s2, e3⟩
theorem St_from {self : Int32 → Sg → Option Int32} {i : Nat} {s : Sg} {j : Sg → Option Int32} (hj : ∀ s, j s = self (nI (i + 7)) s) (h : REL s) (hi : i + 7 ≤ Ln) (hL : Ln ≤ 3584) : GoX7 self i ((xget sc Ln (nI i + nI 1)).bind fun (va1 : Int32) => ob2 (f_X7_from va1 s) fun (r1 : Int32) (s1 : Sg) => (xget sc Ln (nI i + nI 1)).bind fun (vb1 : Int32) => ob2 (f_X8_from vb1 s1) fun (r2 : Int32) (s2 : Sg) => if r1 = r2 then j s2 else some (nI 0)) := by
  obtain ⟨r, s1, s2, e1, e2, e3⟩ := OK_from h (sc (i + 1))
  rw [xg (k := 1) (by omega) hL, ob_s, e1, ob2_some, ob_s, e2, ob2_some, if_pos rfl]
  exact ⟨s2, hj s2, e3⟩
theorem St_status {self : Int32 → Sg → Option Int32} {i : Nat} {s : Sg} {j : Sg → Option Int32} (hj : ∀ s, j s = self (nI (i + 7)) s) (h : REL s) (hi : i + 7 ≤ Ln) (hL : Ln ≤ 3584) : GoX7 self i ((xget sc Ln (nI i + nI 1)).bind fun (va1 : Int32) => ob2 (f_X7_status va1 s) fun (r1 : Int32) (s1 : Sg) => (xget sc Ln (nI i + nI 1)).bind fun (vb1 : Int32) => ob2 (f_X8_status vb1 s1) fun (r2 : Int32) (s2 : Sg) => if r1 = r2 then j s2 else some (nI 0)) := by
  obtain ⟨r, s1, s2, e1, e2, e3⟩ := OK_status h (sc (i + 1))
  rw [xg (k := 1) (by omega) hL, ob_s, e1, ob2_some, ob_s, e2, ob2_some, if_pos rfl]
  exact ⟨s2, hj s2, e3⟩
theorem St_count {self : Int32 → Sg → Option Int32} {i : Nat} {s : Sg} {j : Sg → Option Int32} (hj : ∀ s, j s = self (nI (i + 7)) s) (h : REL s) (hi : i + 7 ≤ Ln) (hL : Ln ≤ 3584) : GoX7 self i ((xget sc Ln (nI i + nI 1)).bind fun (va1 : Int32) => ob2 (f_X7_count va1 s) fun (r1 : Int32) (s1 : Sg) => (xget sc Ln (nI i + nI 1)).bind fun (vb1 : Int32) => ob2 (f_X8_count vb1 s1) fun (r2 : Int32) (s2 : Sg) => if r1 = r2 then j s2 else some (nI 0)) := by
  obtain ⟨r, s1, s2, e1, e2, e3⟩ := OK_count h (sc (i + 1))
  rw [xg (k := 1) (by omega) hL, ob_s, e1, ob2_some, ob_s, e2, ob2_some, if_pos rfl]
  exact ⟨s2, hj s2, e3⟩
theorem St_digest {self : Int32 → Sg → Option Int32} {i : Nat} {s : Sg} {j : Sg → Option Int32} (hj : ∀ s, j s = self (nI (i + 7)) s) (h : REL s) : GoX7 self i ((f_X7_digest s).bind fun (v1 : Int64) => (f_X8_digest s).bind fun (v2 : Int64) => if (lg_cmp v1 v2) = 0 then j s else some (nI 0)) := by
  obtain ⟨r, e1, e2⟩ := OK_digest h
  rw [e1, ob_s, e2, ob_s, if_pos (cmp_same r)]
  exact ⟨s, hj s, h⟩
theorem law_step {self : Int32 → Sg → Option Int32} {i : Nat} {s : Sg} (h : REL s) (hi : i + 7 ≤ Ln) (hL : Ln ≤ 3584) : GoX7 self i (b_L_law_18 Ln sc self (nI i) s) := by
  have x0 : xget sc Ln (nI i) = some (sc i) := by
    unfold xget
    rw [if_neg (nI_in (show i < Ln by omega) (by omega)), nIc (by omega)]
  have hj : ∀ z, (fun (s5 : Sg) => self (nI i + nI 7) s5) z = self (nI (i + 7)) z := fun z => congrArg (fun y => self y z) (nadd i 7)
  unfold b_L_law_18
  rw [nsub (show 7 ≤ Ln by omega), ifl _ _ (by omega) (by omega), if_neg (by omega), x0, ob_s, nm_eq]
  exact GoX7.ite (St_town hj h hi hL) (GoX7.ite (St_street hj h hi hL) (GoX7.ite (St_event hj h hi hL) (GoX7.ite (St_back hj h hi hL) (GoX7.ite (St_law hj h hi hL) (GoX7.ite (St_undo hj h hi hL) (GoX7.ite (St_rent hj h hi hL) (GoX7.ite (St_type hj h hi hL) (GoX7.ite (St_clear hj h hi hL) (GoX7.ite (St_read hj h hi hL) (GoX7.ite (St_of hj h hi hL) (GoX7.ite (St_name hj h hi hL) (GoX7.ite (St_changes hj h hi hL) (GoX7.ite (St_which hj h hi hL) (GoX7.ite (St_letter hj h hi hL) (GoX7.ite (St_cab hj h hi hL) (GoX7.ite (St_find hj h hi hL) (GoX7.ite (St_stage hj h hi hL) (GoX7.ite (St_forbid hj h hi hL) (GoX7.ite (St_rents hj h hi hL) (GoX7.ite (St_landlords hj h hi hL) (GoX7.ite (St_round hj h hi hL) (GoX7.ite (St_reading hj h hi hL) (GoX7.ite (St_burn hj h hi hL) (GoX7.ite (St_truly hj h hi hL) (GoX7.ite (St_drawn hj h hi hL) (GoX7.ite (St_image hj h hi hL) (GoX7.ite (St_from hj h hi hL) (GoX7.ite (St_status hj h hi hL) (GoX7.ite (St_count hj h hi hL) (GoX7.ite (St_digest hj h) ⟨s, hj s, h⟩))))))))))))))))))))))))))))))
theorem short_in : ∀ L, L < 7 → nI L - nI 7 < nI 0 := by decide +kernel
end RUN
/-- all answers are alike, over the whole run -/
theorem pure_main (sc : Nat → Int32) (Ln : Nat) (hL : Ln ≤ 3584) : lp2_ (b_L_law_18 Ln sc) fu 0 sg0 = some 1 := by
  show lp2_ (b_L_law_18 Ln sc) fu (nI 0) sg0 = some (nI 1)
  refine lp2_po (fun o => o = some (nI 1)) (fun d (j : Int32) (s : Sg) => ∃ i, j = nI i ∧ i + d = Ln + 7 ∧ REL s ∧ (i = 0 ∨ 7 ≤ Ln)) ?_ fu (Ln + 7) _ _ (fu_ge (by omega)) ⟨0, rfl, by omega, REL_0, Or.inl rfl⟩
  rintro self d j s ⟨i, rfl, e1, h, e2⟩
  by_cases h7 : Ln < 7
  · left
    have : i = 0 := by omega
    subst this
    unfold b_L_law_18
    rw [if_pos (short_in Ln h7)]
  · by_cases hi : i + 7 ≤ Ln
    · right
      obtain ⟨s2, e3, e4⟩ := law_step (self := self) (sc := sc) h hi hL
      exact ⟨d - 7, _, _, by omega, e3, i + 7, rfl, by omega, e4, Or.inr (by omega)⟩
    · left
      unfold b_L_law_18
      rw [nsub (show 7 ≤ Ln by omega), ifl _ _ (by omega) (by omega), if_pos (by omega)]
