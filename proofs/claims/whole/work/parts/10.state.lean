/-! THE STATE of store, model and law as functions of places; the heap that it stands for -/
abbrev zEx : Type := Nat × (List (Option zkE) ⊕ (Option zkE × List (Option zkE) × List (Option zkE)))
abbrev zSt : Type := (Nat → Int32) × (Nat → Int64) × (Nat → Nat → Int32) × (Nat → Nat → Int64) × Nat × zEx
def gI (s : zSt) (k : Nat) : Int32 := s.1 k
def gJ (s : zSt) (k : Nat) : Int64 := s.2.1 k
def gA (s : zSt) (k : Nat) : Nat → Int32 := s.2.2.1 k
def gB (s : zSt) (k : Nat) : Nat → Int64 := s.2.2.2.1 k
def gN (s : zSt) : Nat := s.2.2.2.2.1
def gE (s : zSt) : zEx := s.2.2.2.2.2
def sI (s : zSt) (k : Nat) (v : Int32) : zSt := (fun j => bif Nat.beq j k then v else s.1 j, s.2)
def sJ (s : zSt) (k : Nat) (v : Int64) : zSt := (s.1, fun j => bif Nat.beq j k then v else s.2.1 j, s.2.2)
def sA (s : zSt) (k : Nat) (f : Nat → Int32) : zSt := (s.1, s.2.1, fun j => bif Nat.beq j k then f else s.2.2.1 j, s.2.2.2)
def sB (s : zSt) (k : Nat) (f : Nat → Int64) : zSt := (s.1, s.2.1, s.2.2.1, fun j => bif Nat.beq j k then f else s.2.2.2.1 j, s.2.2.2.2)
def sN (s : zSt) (n : Nat) : zSt := (s.1, s.2.1, s.2.2.1, s.2.2.2.1, n, s.2.2.2.2.2)
def sE (s : zSt) (e : zEx) : zSt := (s.1, s.2.1, s.2.2.1, s.2.2.2.1, s.2.2.2.2.1, e)
/-- an exception's cell, made and forgotten -/
def zpE (e : zEx) : zEx := match e with
  | (c, .inl E) => (c + 6, .inl (E ++ [none]))
  | (c, .inr (g, E1, E2)) => (c + 6, .inr (g, E1, E2 ++ [none]))
def zpush (s : zSt) : zSt := sE s (zpE (gE s))
abbrev zfX (s : zSt) : List Value := [.ref 2, .ref 3, .ref 6, .int (gI s 0), .long (gJ s 0), .int (gI s 1), .long (gJ s 1)]
abbrev zfO : List Value := [.ref 3]
abbrev zfM (s : zSt) (a : Nat) : List Value := [.ref 4, .ref a, .int (gI s 2), .int (gI s 3), .int (gI s 4), .int (gI s 5), .int (gI s 6)]
abbrev zfD (s : zSt) : List Value := [.int (gI s 7), .int (gI s 8), .int (gI s 9), .long (gJ s 2), .int (gI s 10), .int (gI s 11), .int (gI s 12)]
abbrev zfR (s : zSt) : List Value := [.int (gI s 13), .ref 8, .int (gI s 14), .ref 9, .ref 10, .ref 11, .int (gI s 15), .int (gI s 16), .ref 12, .ref 13, .ref 14, .ref 15, .ref 16, .ref 17, .ref 18, .ref 19, .int (gI s 17), .long (gJ s 3), .int (gI s 18), .long (gJ s 4)]
abbrev zcA (ty : FieldType) (n : Nat) (f : Nat → Int32) : zkE := .inl (ty, n, .inl f)
abbrev zcB (n : Nat) (f : Nat → Int64) : zkE := .inl (.long, n, .inr (.inl f))
def zmo (s : zSt) : List (Option zkE) := [some (.inr (4, zfR s)), some (zcA .int 24 (gA s 1)), some (zcA .int 4200 (gA s 2)), some (zcA .boolean 4200 (gA s 3)), some (zcA .boolean 4200 (gA s 4)), some (zcA .int 8400 (gA s 5)), some (zcB 8400 (gB s 1)), some (zcA .int 8400 (gA s 6)), some (zcA .int 8400 (gA s 7)), some (zcA .int 8400 (gA s 8)), some (zcB 8400 (gB s 2)), some (zcA .int 8400 (gA s 9)), some (zcA .int 8400 (gA s 10)), some (zcB 1 (gB s 3))]
def zHx (e : zEx) (s : zSt) : zkH := match e with
  | (c, .inl E) => (c, none :: some (.inr (3, zfX s)) :: some (.inr (2, zfO)) :: some (.inr (1, zfM s 5)) :: some (zcA .int 27 (gA s 0)) :: some (zcB (gN s) (gB s 0)) :: some (.inr (0, zfD s)) :: (zmo s ++ E))
  | (c, .inr (g, E1, E2)) => (c, none :: some (.inr (3, zfX s)) :: some (.inr (2, zfO)) :: some (.inr (1, zfM s (21 + E1.length))) :: some (zcA .int 27 (gA s 0)) :: g :: some (.inr (0, zfD s)) :: (zmo s ++ (E1 ++ some (zcB (gN s) (gB s 0)) :: E2)))
def zHp (s : zSt) : zkH := zHx (gE s) s
/-- the place of the words -/
def zwx (e : zEx) : Nat := match e with
  | (_, .inl _) => 5
  | (_, .inr (_, E1, _)) => 21 + E1.length
def zwp (s : zSt) : Nat := zwx (gE s)
theorem zH_cases (P : zSt → zEx → Prop) (h1 : ∀ s c E, P s (c, .inl E)) (h2 : ∀ s c g E1 E2, P s (c, .inr (g, E1, E2))) (s : zSt) : P s (gE s) := by
  generalize gE s = e
  rcases e with ⟨c, E | ⟨g, E1, E2⟩⟩
  · exact h1 s c E
  · exact h2 s c g E1 E2
theorem zh_X (s : zSt) : zk_cell (zHp s) 1 = some (.inr (3, zfX s)) := zH_cases (fun s e => zk_cell (zHx e s) 1 = some (.inr (3, zfX s))) (fun _ _ _ => rfl) (fun _ _ _ _ _ => rfl) s
theorem zh_O (s : zSt) : zk_cell (zHp s) 2 = some (.inr (2, zfO)) := zH_cases (fun s e => zk_cell (zHx e s) 2 = some (.inr (2, zfO))) (fun _ _ _ => rfl) (fun _ _ _ _ _ => rfl) s
theorem zh_M (s : zSt) : zk_cell (zHp s) 3 = some (.inr (1, zfM s (zwp s))) := zH_cases (fun s e => zk_cell (zHx e s) 3 = some (.inr (1, zfM s (zwx e)))) (fun _ _ _ => rfl) (fun _ _ _ _ _ => rfl) s
theorem zh_D (s : zSt) : zk_cell (zHp s) 6 = some (.inr (0, zfD s)) := zH_cases (fun s e => zk_cell (zHx e s) 6 = some (.inr (0, zfD s))) (fun _ _ _ => rfl) (fun _ _ _ _ _ => rfl) s
theorem zh_R (s : zSt) : zk_cell (zHp s) 7 = some (.inr (4, zfR s)) := zH_cases (fun s e => zk_cell (zHx e s) 7 = some (.inr (4, zfR s))) (fun _ _ _ => rfl) (fun _ _ _ _ _ => rfl) s
theorem zh_A0 (s : zSt) : zk_cell (zHp s) 4 = some (zcA .int 27 (gA s 0)) := zH_cases (fun s e => zk_cell (zHx e s) 4 = some (zcA .int 27 (gA s 0))) (fun _ _ _ => rfl) (fun _ _ _ _ _ => rfl) s
theorem zs_A0 (s : zSt) (f : Nat → Int32) : zk_set (zHp s) 4 (zcA .int 27 f) = zHp (sA s 0 f) := zH_cases (fun s e => zk_set (zHx e s) 4 (zcA .int 27 f) = zHx e (sA s 0 f)) (fun _ _ _ => rfl) (fun _ _ _ _ _ => rfl) s
theorem zr_A0 (X : zkX) (s : zSt) : zk_arr X (zHp s) 4 = some (zcA .int 27 (gA s 0)) := (show zk_arr X (zHp s) 4 = zk_cell (zHp s) 4 from rfl).trans (zh_A0 s)
theorem zh_A1 (s : zSt) : zk_cell (zHp s) 8 = some (zcA .int 24 (gA s 1)) := zH_cases (fun s e => zk_cell (zHx e s) 8 = some (zcA .int 24 (gA s 1))) (fun _ _ _ => rfl) (fun _ _ _ _ _ => rfl) s
theorem zs_A1 (s : zSt) (f : Nat → Int32) : zk_set (zHp s) 8 (zcA .int 24 f) = zHp (sA s 1 f) := zH_cases (fun s e => zk_set (zHx e s) 8 (zcA .int 24 f) = zHx e (sA s 1 f)) (fun _ _ _ => rfl) (fun _ _ _ _ _ => rfl) s
theorem zr_A1 (X : zkX) (s : zSt) : zk_arr X (zHp s) 8 = some (zcA .int 24 (gA s 1)) := (show zk_arr X (zHp s) 8 = zk_cell (zHp s) 8 from rfl).trans (zh_A1 s)
theorem zh_A2 (s : zSt) : zk_cell (zHp s) 9 = some (zcA .int 4200 (gA s 2)) := zH_cases (fun s e => zk_cell (zHx e s) 9 = some (zcA .int 4200 (gA s 2))) (fun _ _ _ => rfl) (fun _ _ _ _ _ => rfl) s
theorem zs_A2 (s : zSt) (f : Nat → Int32) : zk_set (zHp s) 9 (zcA .int 4200 f) = zHp (sA s 2 f) := zH_cases (fun s e => zk_set (zHx e s) 9 (zcA .int 4200 f) = zHx e (sA s 2 f)) (fun _ _ _ => rfl) (fun _ _ _ _ _ => rfl) s
theorem zr_A2 (X : zkX) (s : zSt) : zk_arr X (zHp s) 9 = some (zcA .int 4200 (gA s 2)) := (show zk_arr X (zHp s) 9 = zk_cell (zHp s) 9 from rfl).trans (zh_A2 s)
theorem zh_A3 (s : zSt) : zk_cell (zHp s) 10 = some (zcA .boolean 4200 (gA s 3)) := zH_cases (fun s e => zk_cell (zHx e s) 10 = some (zcA .boolean 4200 (gA s 3))) (fun _ _ _ => rfl) (fun _ _ _ _ _ => rfl) s
theorem zs_A3 (s : zSt) (f : Nat → Int32) : zk_set (zHp s) 10 (zcA .boolean 4200 f) = zHp (sA s 3 f) := zH_cases (fun s e => zk_set (zHx e s) 10 (zcA .boolean 4200 f) = zHx e (sA s 3 f)) (fun _ _ _ => rfl) (fun _ _ _ _ _ => rfl) s
theorem zh_A4 (s : zSt) : zk_cell (zHp s) 11 = some (zcA .boolean 4200 (gA s 4)) := zH_cases (fun s e => zk_cell (zHx e s) 11 = some (zcA .boolean 4200 (gA s 4))) (fun _ _ _ => rfl) (fun _ _ _ _ _ => rfl) s
theorem zs_A4 (s : zSt) (f : Nat → Int32) : zk_set (zHp s) 11 (zcA .boolean 4200 f) = zHp (sA s 4 f) := zH_cases (fun s e => zk_set (zHx e s) 11 (zcA .boolean 4200 f) = zHx e (sA s 4 f)) (fun _ _ _ => rfl) (fun _ _ _ _ _ => rfl) s
theorem zh_A5 (s : zSt) : zk_cell (zHp s) 12 = some (zcA .int 8400 (gA s 5)) := zH_cases (fun s e => zk_cell (zHx e s) 12 = some (zcA .int 8400 (gA s 5))) (fun _ _ _ => rfl) (fun _ _ _ _ _ => rfl) s
theorem zs_A5 (s : zSt) (f : Nat → Int32) : zk_set (zHp s) 12 (zcA .int 8400 f) = zHp (sA s 5 f) := zH_cases (fun s e => zk_set (zHx e s) 12 (zcA .int 8400 f) = zHx e (sA s 5 f)) (fun _ _ _ => rfl) (fun _ _ _ _ _ => rfl) s
theorem zr_A5 (X : zkX) (s : zSt) : zk_arr X (zHp s) 12 = some (zcA .int 8400 (gA s 5)) := (show zk_arr X (zHp s) 12 = zk_cell (zHp s) 12 from rfl).trans (zh_A5 s)
theorem zh_A6 (s : zSt) : zk_cell (zHp s) 14 = some (zcA .int 8400 (gA s 6)) := zH_cases (fun s e => zk_cell (zHx e s) 14 = some (zcA .int 8400 (gA s 6))) (fun _ _ _ => rfl) (fun _ _ _ _ _ => rfl) s
theorem zs_A6 (s : zSt) (f : Nat → Int32) : zk_set (zHp s) 14 (zcA .int 8400 f) = zHp (sA s 6 f) := zH_cases (fun s e => zk_set (zHx e s) 14 (zcA .int 8400 f) = zHx e (sA s 6 f)) (fun _ _ _ => rfl) (fun _ _ _ _ _ => rfl) s
theorem zr_A6 (X : zkX) (s : zSt) : zk_arr X (zHp s) 14 = some (zcA .int 8400 (gA s 6)) := (show zk_arr X (zHp s) 14 = zk_cell (zHp s) 14 from rfl).trans (zh_A6 s)
theorem zh_A7 (s : zSt) : zk_cell (zHp s) 15 = some (zcA .int 8400 (gA s 7)) := zH_cases (fun s e => zk_cell (zHx e s) 15 = some (zcA .int 8400 (gA s 7))) (fun _ _ _ => rfl) (fun _ _ _ _ _ => rfl) s
theorem zs_A7 (s : zSt) (f : Nat → Int32) : zk_set (zHp s) 15 (zcA .int 8400 f) = zHp (sA s 7 f) := zH_cases (fun s e => zk_set (zHx e s) 15 (zcA .int 8400 f) = zHx e (sA s 7 f)) (fun _ _ _ => rfl) (fun _ _ _ _ _ => rfl) s
theorem zr_A7 (X : zkX) (s : zSt) : zk_arr X (zHp s) 15 = some (zcA .int 8400 (gA s 7)) := (show zk_arr X (zHp s) 15 = zk_cell (zHp s) 15 from rfl).trans (zh_A7 s)
theorem zh_A8 (s : zSt) : zk_cell (zHp s) 16 = some (zcA .int 8400 (gA s 8)) := zH_cases (fun s e => zk_cell (zHx e s) 16 = some (zcA .int 8400 (gA s 8))) (fun _ _ _ => rfl) (fun _ _ _ _ _ => rfl) s
theorem zs_A8 (s : zSt) (f : Nat → Int32) : zk_set (zHp s) 16 (zcA .int 8400 f) = zHp (sA s 8 f) := zH_cases (fun s e => zk_set (zHx e s) 16 (zcA .int 8400 f) = zHx e (sA s 8 f)) (fun _ _ _ => rfl) (fun _ _ _ _ _ => rfl) s
theorem zr_A8 (X : zkX) (s : zSt) : zk_arr X (zHp s) 16 = some (zcA .int 8400 (gA s 8)) := (show zk_arr X (zHp s) 16 = zk_cell (zHp s) 16 from rfl).trans (zh_A8 s)
theorem zh_A9 (s : zSt) : zk_cell (zHp s) 18 = some (zcA .int 8400 (gA s 9)) := zH_cases (fun s e => zk_cell (zHx e s) 18 = some (zcA .int 8400 (gA s 9))) (fun _ _ _ => rfl) (fun _ _ _ _ _ => rfl) s
theorem zs_A9 (s : zSt) (f : Nat → Int32) : zk_set (zHp s) 18 (zcA .int 8400 f) = zHp (sA s 9 f) := zH_cases (fun s e => zk_set (zHx e s) 18 (zcA .int 8400 f) = zHx e (sA s 9 f)) (fun _ _ _ => rfl) (fun _ _ _ _ _ => rfl) s
theorem zr_A9 (X : zkX) (s : zSt) : zk_arr X (zHp s) 18 = some (zcA .int 8400 (gA s 9)) := (show zk_arr X (zHp s) 18 = zk_cell (zHp s) 18 from rfl).trans (zh_A9 s)
theorem zh_A10 (s : zSt) : zk_cell (zHp s) 19 = some (zcA .int 8400 (gA s 10)) := zH_cases (fun s e => zk_cell (zHx e s) 19 = some (zcA .int 8400 (gA s 10))) (fun _ _ _ => rfl) (fun _ _ _ _ _ => rfl) s
theorem zs_A10 (s : zSt) (f : Nat → Int32) : zk_set (zHp s) 19 (zcA .int 8400 f) = zHp (sA s 10 f) := zH_cases (fun s e => zk_set (zHx e s) 19 (zcA .int 8400 f) = zHx e (sA s 10 f)) (fun _ _ _ => rfl) (fun _ _ _ _ _ => rfl) s
theorem zr_A10 (X : zkX) (s : zSt) : zk_arr X (zHp s) 19 = some (zcA .int 8400 (gA s 10)) := (show zk_arr X (zHp s) 19 = zk_cell (zHp s) 19 from rfl).trans (zh_A10 s)
theorem zh_B1 (s : zSt) : zk_cell (zHp s) 13 = some (zcB 8400 (gB s 1)) := zH_cases (fun s e => zk_cell (zHx e s) 13 = some (zcB 8400 (gB s 1))) (fun _ _ _ => rfl) (fun _ _ _ _ _ => rfl) s
theorem zs_B1 (s : zSt) (f : Nat → Int64) : zk_set (zHp s) 13 (zcB 8400 f) = zHp (sB s 1 f) := zH_cases (fun s e => zk_set (zHx e s) 13 (zcB 8400 f) = zHx e (sB s 1 f)) (fun _ _ _ => rfl) (fun _ _ _ _ _ => rfl) s
theorem zh_B2 (s : zSt) : zk_cell (zHp s) 17 = some (zcB 8400 (gB s 2)) := zH_cases (fun s e => zk_cell (zHx e s) 17 = some (zcB 8400 (gB s 2))) (fun _ _ _ => rfl) (fun _ _ _ _ _ => rfl) s
theorem zs_B2 (s : zSt) (f : Nat → Int64) : zk_set (zHp s) 17 (zcB 8400 f) = zHp (sB s 2 f) := zH_cases (fun s e => zk_set (zHx e s) 17 (zcB 8400 f) = zHx e (sB s 2 f)) (fun _ _ _ => rfl) (fun _ _ _ _ _ => rfl) s
theorem zh_B3 (s : zSt) : zk_cell (zHp s) 20 = some (zcB 1 (gB s 3)) := zH_cases (fun s e => zk_cell (zHx e s) 20 = some (zcB 1 (gB s 3))) (fun _ _ _ => rfl) (fun _ _ _ _ _ => rfl) s
theorem zs_B3 (s : zSt) (f : Nat → Int64) : zk_set (zHp s) 20 (zcB 1 f) = zHp (sB s 3 f) := zH_cases (fun s e => zk_set (zHx e s) 20 (zcB 1 f) = zHx e (sB s 3 f)) (fun _ _ _ => rfl) (fun _ _ _ _ _ => rfl) s
theorem zs_I0 (s : zSt) (v : Int32) : zk_set (zHp s) 1 (.inr (3, (zfX s).set 3 (.int v))) = zHp (sI s 0 v) := zH_cases (fun s e => zk_set (zHx e s) 1 (.inr (3, (zfX s).set 3 (.int v))) = zHx e (sI s 0 v)) (fun _ _ _ => rfl) (fun _ _ _ _ _ => rfl) s
theorem zs_I1 (s : zSt) (v : Int32) : zk_set (zHp s) 1 (.inr (3, (zfX s).set 5 (.int v))) = zHp (sI s 1 v) := zH_cases (fun s e => zk_set (zHx e s) 1 (.inr (3, (zfX s).set 5 (.int v))) = zHx e (sI s 1 v)) (fun _ _ _ => rfl) (fun _ _ _ _ _ => rfl) s
theorem zs_J0 (s : zSt) (v : Int64) : zk_set (zHp s) 1 (.inr (3, (zfX s).set 4 (.long v))) = zHp (sJ s 0 v) := zH_cases (fun s e => zk_set (zHx e s) 1 (.inr (3, (zfX s).set 4 (.long v))) = zHx e (sJ s 0 v)) (fun _ _ _ => rfl) (fun _ _ _ _ _ => rfl) s
theorem zs_J1 (s : zSt) (v : Int64) : zk_set (zHp s) 1 (.inr (3, (zfX s).set 6 (.long v))) = zHp (sJ s 1 v) := zH_cases (fun s e => zk_set (zHx e s) 1 (.inr (3, (zfX s).set 6 (.long v))) = zHx e (sJ s 1 v)) (fun _ _ _ => rfl) (fun _ _ _ _ _ => rfl) s
theorem zs_I2 (s : zSt) (v : Int32) : zk_set (zHp s) 3 (.inr (1, (zfM s (zwp s)).set 2 (.int v))) = zHp (sI s 2 v) := zH_cases (fun s e => zk_set (zHx e s) 3 (.inr (1, (zfM s (zwx e)).set 2 (.int v))) = zHx e (sI s 2 v)) (fun _ _ _ => rfl) (fun _ _ _ _ _ => rfl) s
theorem zs_I3 (s : zSt) (v : Int32) : zk_set (zHp s) 3 (.inr (1, (zfM s (zwp s)).set 3 (.int v))) = zHp (sI s 3 v) := zH_cases (fun s e => zk_set (zHx e s) 3 (.inr (1, (zfM s (zwx e)).set 3 (.int v))) = zHx e (sI s 3 v)) (fun _ _ _ => rfl) (fun _ _ _ _ _ => rfl) s
theorem zs_I4 (s : zSt) (v : Int32) : zk_set (zHp s) 3 (.inr (1, (zfM s (zwp s)).set 4 (.int v))) = zHp (sI s 4 v) := zH_cases (fun s e => zk_set (zHx e s) 3 (.inr (1, (zfM s (zwx e)).set 4 (.int v))) = zHx e (sI s 4 v)) (fun _ _ _ => rfl) (fun _ _ _ _ _ => rfl) s
theorem zs_I5 (s : zSt) (v : Int32) : zk_set (zHp s) 3 (.inr (1, (zfM s (zwp s)).set 5 (.int v))) = zHp (sI s 5 v) := zH_cases (fun s e => zk_set (zHx e s) 3 (.inr (1, (zfM s (zwx e)).set 5 (.int v))) = zHx e (sI s 5 v)) (fun _ _ _ => rfl) (fun _ _ _ _ _ => rfl) s
theorem zs_I6 (s : zSt) (v : Int32) : zk_set (zHp s) 3 (.inr (1, (zfM s (zwp s)).set 6 (.int v))) = zHp (sI s 6 v) := zH_cases (fun s e => zk_set (zHx e s) 3 (.inr (1, (zfM s (zwx e)).set 6 (.int v))) = zHx e (sI s 6 v)) (fun _ _ _ => rfl) (fun _ _ _ _ _ => rfl) s
theorem zs_I7 (s : zSt) (v : Int32) : zk_set (zHp s) 6 (.inr (0, (zfD s).set 0 (.int v))) = zHp (sI s 7 v) := zH_cases (fun s e => zk_set (zHx e s) 6 (.inr (0, (zfD s).set 0 (.int v))) = zHx e (sI s 7 v)) (fun _ _ _ => rfl) (fun _ _ _ _ _ => rfl) s
theorem zs_I8 (s : zSt) (v : Int32) : zk_set (zHp s) 6 (.inr (0, (zfD s).set 1 (.int v))) = zHp (sI s 8 v) := zH_cases (fun s e => zk_set (zHx e s) 6 (.inr (0, (zfD s).set 1 (.int v))) = zHx e (sI s 8 v)) (fun _ _ _ => rfl) (fun _ _ _ _ _ => rfl) s
theorem zs_I9 (s : zSt) (v : Int32) : zk_set (zHp s) 6 (.inr (0, (zfD s).set 2 (.int v))) = zHp (sI s 9 v) := zH_cases (fun s e => zk_set (zHx e s) 6 (.inr (0, (zfD s).set 2 (.int v))) = zHx e (sI s 9 v)) (fun _ _ _ => rfl) (fun _ _ _ _ _ => rfl) s
theorem zs_J2 (s : zSt) (v : Int64) : zk_set (zHp s) 6 (.inr (0, (zfD s).set 3 (.long v))) = zHp (sJ s 2 v) := zH_cases (fun s e => zk_set (zHx e s) 6 (.inr (0, (zfD s).set 3 (.long v))) = zHx e (sJ s 2 v)) (fun _ _ _ => rfl) (fun _ _ _ _ _ => rfl) s
theorem zs_I10 (s : zSt) (v : Int32) : zk_set (zHp s) 6 (.inr (0, (zfD s).set 4 (.int v))) = zHp (sI s 10 v) := zH_cases (fun s e => zk_set (zHx e s) 6 (.inr (0, (zfD s).set 4 (.int v))) = zHx e (sI s 10 v)) (fun _ _ _ => rfl) (fun _ _ _ _ _ => rfl) s
theorem zs_I11 (s : zSt) (v : Int32) : zk_set (zHp s) 6 (.inr (0, (zfD s).set 5 (.int v))) = zHp (sI s 11 v) := zH_cases (fun s e => zk_set (zHx e s) 6 (.inr (0, (zfD s).set 5 (.int v))) = zHx e (sI s 11 v)) (fun _ _ _ => rfl) (fun _ _ _ _ _ => rfl) s
theorem zs_I12 (s : zSt) (v : Int32) : zk_set (zHp s) 6 (.inr (0, (zfD s).set 6 (.int v))) = zHp (sI s 12 v) := zH_cases (fun s e => zk_set (zHx e s) 6 (.inr (0, (zfD s).set 6 (.int v))) = zHx e (sI s 12 v)) (fun _ _ _ => rfl) (fun _ _ _ _ _ => rfl) s
theorem zs_I13 (s : zSt) (v : Int32) : zk_set (zHp s) 7 (.inr (4, (zfR s).set 0 (.int v))) = zHp (sI s 13 v) := zH_cases (fun s e => zk_set (zHx e s) 7 (.inr (4, (zfR s).set 0 (.int v))) = zHx e (sI s 13 v)) (fun _ _ _ => rfl) (fun _ _ _ _ _ => rfl) s
theorem zs_I14 (s : zSt) (v : Int32) : zk_set (zHp s) 7 (.inr (4, (zfR s).set 2 (.int v))) = zHp (sI s 14 v) := zH_cases (fun s e => zk_set (zHx e s) 7 (.inr (4, (zfR s).set 2 (.int v))) = zHx e (sI s 14 v)) (fun _ _ _ => rfl) (fun _ _ _ _ _ => rfl) s
theorem zs_I15 (s : zSt) (v : Int32) : zk_set (zHp s) 7 (.inr (4, (zfR s).set 6 (.int v))) = zHp (sI s 15 v) := zH_cases (fun s e => zk_set (zHx e s) 7 (.inr (4, (zfR s).set 6 (.int v))) = zHx e (sI s 15 v)) (fun _ _ _ => rfl) (fun _ _ _ _ _ => rfl) s
theorem zs_I16 (s : zSt) (v : Int32) : zk_set (zHp s) 7 (.inr (4, (zfR s).set 7 (.int v))) = zHp (sI s 16 v) := zH_cases (fun s e => zk_set (zHx e s) 7 (.inr (4, (zfR s).set 7 (.int v))) = zHx e (sI s 16 v)) (fun _ _ _ => rfl) (fun _ _ _ _ _ => rfl) s
theorem zs_I17 (s : zSt) (v : Int32) : zk_set (zHp s) 7 (.inr (4, (zfR s).set 16 (.int v))) = zHp (sI s 17 v) := zH_cases (fun s e => zk_set (zHx e s) 7 (.inr (4, (zfR s).set 16 (.int v))) = zHx e (sI s 17 v)) (fun _ _ _ => rfl) (fun _ _ _ _ _ => rfl) s
theorem zs_J3 (s : zSt) (v : Int64) : zk_set (zHp s) 7 (.inr (4, (zfR s).set 17 (.long v))) = zHp (sJ s 3 v) := zH_cases (fun s e => zk_set (zHx e s) 7 (.inr (4, (zfR s).set 17 (.long v))) = zHx e (sJ s 3 v)) (fun _ _ _ => rfl) (fun _ _ _ _ _ => rfl) s
theorem zs_I18 (s : zSt) (v : Int32) : zk_set (zHp s) 7 (.inr (4, (zfR s).set 18 (.int v))) = zHp (sI s 18 v) := zH_cases (fun s e => zk_set (zHx e s) 7 (.inr (4, (zfR s).set 18 (.int v))) = zHx e (sI s 18 v)) (fun _ _ _ => rfl) (fun _ _ _ _ _ => rfl) s
theorem zs_J4 (s : zSt) (v : Int64) : zk_set (zHp s) 7 (.inr (4, (zfR s).set 19 (.long v))) = zHp (sJ s 4 v) := zH_cases (fun s e => zk_set (zHx e s) 7 (.inr (4, (zfR s).set 19 (.long v))) = zHx e (sJ s 4 v)) (fun _ _ _ => rfl) (fun _ _ _ _ _ => rfl) s
theorem zh_W (s : zSt) : zk_cell (zHp s) (zwp s) = some (zcB (gN s) (gB s 0)) := zH_cases (fun s e => zk_cell (zHx e s) (zwx e) = some (zcB (gN s) (gB s 0))) (fun _ _ _ => rfl) (fun s c g E1 E2 => by
  have key : (zmo s ++ (E1 ++ some (zcB (gN s) (gB s 0)) :: E2))[14 + E1.length]? = some (some (zcB (gN s) (gB s 0))) := by
    rw [List.getElem?_append_right (by show 14 ≤ _; omega), List.getElem?_append_right (by show _ ≤ _ - 14; omega)]
    rw [show 14 + E1.length - (zmo s).length - E1.length = 0 by show 14 + E1.length - 14 - E1.length = 0; omega]
    rfl
  have h1 : zwx (c, .inr (g, E1, E2)) = (14 + E1.length) + 7 := by show 21 + E1.length = _; omega
  rw [h1]
  have h2 : (zHx (c, .inr (g, E1, E2)) s).2[14 + E1.length + 7]? = some (some (zcB (gN s) (gB s 0))) := key
  unfold zk_cell
  rw [h2]) s
theorem zs_W (s : zSt) (f : Nat → Int64) : zk_set (zHp s) (zwp s) (zcB (gN s) f) = zHp (sB s 0 f) := zH_cases (fun s e => zk_set (zHx e s) (zwx e) (zcB (gN s) f) = zHx e (sB s 0 f)) (fun _ _ _ => rfl) (fun s c g E1 E2 => by
  have key : (zmo s ++ (E1 ++ some (zcB (gN s) (gB s 0)) :: E2)).set (14 + E1.length) (some (zcB (gN s) f)) = zmo s ++ (E1 ++ some (zcB (gN s) f) :: E2) := by
    rw [List.set_append_right _ _ (by show 14 ≤ _; omega), List.set_append_right _ _ (by show _ ≤ _ - 14; omega)]
    rw [show 14 + E1.length - (zmo s).length - E1.length = 0 by show 14 + E1.length - 14 - E1.length = 0; omega]
    rfl
  have h1 : zwx (c, .inr (g, E1, E2)) = (14 + E1.length) + 7 := by show 21 + E1.length = _; omega
  rw [h1]
  show (c, none :: some (.inr (3, zfX s)) :: some (.inr (2, zfO)) :: some (.inr (1, zfM s (21 + E1.length))) :: some (zcA .int 27 (gA s 0)) :: g :: some (.inr (0, zfD s)) :: (zmo s ++ (E1 ++ some (zcB (gN s) (gB s 0)) :: E2)).set (14 + E1.length) (some (zcB (gN s) f))) = _
  rw [key]
  rfl) s
theorem zh_push (s : zSt) : zk_push (zHp s) 6 none = zHp (zpush s) := zH_cases (fun s e => zk_push (zHx e s) 6 none = zHx (zpE e) s) (fun s c E => by
  simp only [zk_push, zHx, zpE, List.cons_append, List.append_assoc]) (fun s c g E1 E2 => by
  simp only [zk_push, zHx, zpE, List.cons_append, List.append_assoc]) s
