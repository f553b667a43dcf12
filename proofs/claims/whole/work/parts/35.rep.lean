/-! what a store holds: objects and properties, and how blocks stand for them -/
/-- key, attributes, kind, number, object (of the value, or the getter), setter -/
abbrev zPr : Type := Int64 × Int32 × Int32 × Int64 × Nat × Nat
def kK (p : zPr) : Int64 := p.1
def kF (p : zPr) : Int32 := p.2.1
def kD (p : zPr) : Int32 := p.2.2.1
def kN (p : zPr) : Int64 := p.2.2.2.1
def kO (p : zPr) : Nat := p.2.2.2.2.1
def kS (p : zPr) : Nat := p.2.2.2.2.2
def zp0 : zPr := (0, 0, 0, 0, 0, 0)
/-- prototype, is it an array, is it extensible, its properties in order -/
abbrev zOb : Type := Nat × Bool × Bool × List zPr
def oP (x : zOb) : Nat := x.1
def oA (x : zOb) : Bool := x.2.1
def oE (x : zOb) : Bool := x.2.2.1
def oL (x : zOb) : List zPr := x.2.2.2
/-- how many objects (the next number), the objects, what the slots hold, the operand's kind and number, the result's -/
abbrev zSg : Type := Nat × (Nat → zOb) × (Nat → Nat) × Int32 × Int64 × Int32 × Int64
def gn (σ : zSg) : Nat := σ.1
def gO (σ : zSg) : Nat → zOb := σ.2.1
def gR (σ : zSg) : Nat → Nat := σ.2.2.1
def gPK (σ : zSg) : Int32 := σ.2.2.2.1
def gPN (σ : zSg) : Int64 := σ.2.2.2.2.1
def gRK (σ : zSg) : Int32 := σ.2.2.2.2.2.1
def gRN (σ : zSg) : Int64 := σ.2.2.2.2.2.2
/-- the property of a key -/
def zG (k : Int64) : List zPr → Option zPr
  | [] => none
  | p :: r => if kK p = k then some p else zG k r
/-- its block -/
def zBk (k : Int64) : List Nat → List zPr → Nat
  | b :: bs, p :: ps => if kK p = k then b else zBk k bs ps
  | _, _ => 0
/-- the property that is found from an object on -/
def zLu (σ : zSg) (k : Int64) : Nat → Nat → Option zPr
  | 0, _ => none
  | n + 1, o => if o = 0 then none else match zG k (oL (gO σ o)) with
    | some p => some p
    | none => zLu σ k n (oP (gO σ o))
/-- a property's words, but for the link to the next -/
def zPw1 (s : zSt) (β : Nat → Nat) (b : Nat) (p : zPr) : Prop := Wd s b 2 = nL (β (kO p)) ∧ Wd s b 3 = nL (β (kS p)) ∧ Wd s b 4 = kK p ∧ Wd s b 5 = (kF p).toInt64 ∧ Wd s b 6 = (kD p).toInt64 ∧ Wd s b 7 = kN p
def zPA (s : zSt) (β : Nat → Nat) : List Nat → List zPr → Prop
  | [], [] => True
  | b :: bs, p :: ps => Wd s b 1 = nL (bs.headD 0) ∧ zPw1 s β b p ∧ zPA s β bs ps
  | _, _ => False
def zOA (s : zSt) (β : Nat → Nat) (b : Nat) (bs : List Nat) (x : zOb) : Prop := Wd s b 1 = nL (β (oP x)) ∧ Wd s b 2 = nL (bs.headD 0) ∧ Wd s b 3 = nL (if oA x then zBk (-1) bs (oL x) else 0) ∧ Wd s b 4 = (if oE x then 1 else 0) ∧ zPA s β bs (oL x)
/-- the blocks in use -/
def zUs (lv : List Nat) (β : Nat → Nat) (π : Nat → List Nat) : List Nat := lv.flatMap (fun o => β o :: π o)
/-- blocks: how many, which are free, how many were made -/
def zMm (nb : Nat) (FL : List Nat) (mk : Nat) (s : zSt) : Prop := zPw nb ∧ zOk nb s ∧ gI s 2 = nI nb ∧ zFr nb FL s ∧ (∀ c, 1 ≤ c → c ≤ nb → Wd s c 0 = 0) ∧ nb ≤ mk + FL.length
def zCm (σ : zSg) (lv : List Nat) (β : Nat → Nat) (π : Nat → List Nat) (nb : Nat) (FL : List Nat) (mk : Nat) (s : zSt) : Prop :=
  zMm nb FL mk s ∧ (zUs lv β π).Nodup ∧ (∀ b ∈ zUs lv β π, (1 ≤ b ∧ b ≤ nb) ∧ b ∉ FL) ∧ β 0 = 0 ∧ 0 ∉ lv ∧ (∀ o ∈ lv, zOA s β (β o) (π o) (gO σ o)) ∧
  (∀ o ∈ lv, (oP (gO σ o) = 0 ∨ oP (gO σ o) ∈ lv) ∧ ∀ p ∈ oL (gO σ o), (kO p = 0 ∨ kO p ∈ lv) ∧ (kS p = 0 ∨ kS p ∈ lv)) ∧
  ∀ i, i < 27 → gA s 0 i = nI (β (gR σ i)) ∧ (gR σ i = 0 ∨ gR σ i ∈ lv)
theorem zPA_len {s : zSt} {β : Nat → Nat} {bs : List Nat} {ps : List zPr} (h : zPA s β bs ps) : bs.length = ps.length := by
  induction bs generalizing ps with
  | nil => cases ps with
    | nil => rfl
    | cons p ps => exact h.elim
  | cons b bs ih => cases ps with
    | nil => exact h.elim
    | cons p ps => rw [List.length_cons, List.length_cons, ih h.2.2]
theorem zPA_kept {s t : zSt} {β β2 : Nat → Nat} {bs : List Nat} {ps : List zPr} (hW : ∀ b ∈ bs, ∀ f, f < 8 → Wd t b f = Wd s b f) (hβ : ∀ p ∈ ps, β2 (kO p) = β (kO p) ∧ β2 (kS p) = β (kS p)) (h : zPA s β bs ps) : zPA t β2 bs ps := by
  induction bs generalizing ps with
  | nil => cases ps with
    | nil => trivial
    | cons p ps => exact h.elim
  | cons b bs ih => cases ps with
    | nil => exact h.elim
    | cons p ps =>
      obtain ⟨h1, ⟨h2, h3, h4, h5, h6, h7⟩, h8⟩ := h
      have hb := hW b List.mem_cons_self
      obtain ⟨q1, q2⟩ := hβ p List.mem_cons_self
      exact ⟨(hb 1 (by decide)).trans h1, ⟨(hb 2 (by decide)).trans (by rw [q1]; exact h2), (hb 3 (by decide)).trans (by rw [q2]; exact h3), (hb 4 (by decide)).trans h4, (hb 5 (by decide)).trans h5, (hb 6 (by decide)).trans h6, (hb 7 (by decide)).trans h7⟩, ih (fun c hc => hW c (List.mem_cons_of_mem _ hc)) (fun p hp => hβ p (List.mem_cons_of_mem _ hp)) h8⟩
theorem zPw1_zero {s : zSt} {β : Nat → Nat} (h0 : β 0 = 0) : zPw1 s β 0 zp0 := by
  refine ⟨?_, ?_, ?_, ?_, ?_, ?_⟩ <;> simp [Wd_zero, zp0, kO, kS, kK, kF, kD, kN, h0] <;> rfl
/-- a list of blocks within the memory -/
def zIn (nb : Nat) (bs : List Nat) : Prop := (∀ b ∈ bs, 1 ≤ b ∧ b ≤ nb) ∧ bs.length < 1024
theorem zIn.tl {nb b : Nat} {bs : List Nat} (h : zIn nb (b :: bs)) : zIn nb bs := ⟨fun c hc => h.1 c (List.mem_cons_of_mem _ hc), by have := h.2; rw [List.length_cons] at this; omega⟩
theorem zIn.hd {nb : Nat} {bs : List Nat} (h : zIn nb bs) : bs.headD 0 ≤ nb := by
  cases bs with
  | nil => exact Nat.zero_le _
  | cons b r => exact (h.1 b List.mem_cons_self).2
theorem zUs_mem {lv : List Nat} {β : Nat → Nat} {π : Nat → List Nat} {o : Nat} (ho : o ∈ lv) : β o ∈ zUs lv β π ∧ ∀ b ∈ π o, b ∈ zUs lv β π := ⟨List.mem_flatMap.mpr ⟨o, ho, List.mem_cons_self⟩, fun b hb => List.mem_flatMap.mpr ⟨o, ho, List.mem_cons_of_mem _ hb⟩⟩
theorem zUs_sub {lv : List Nat} {β : Nat → Nat} {π : Nat → List Nat} {o : Nat} (ho : o ∈ lv) : List.Sublist (β o :: π o) (zUs lv β π) := by
  induction lv with
  | nil => cases ho
  | cons a r ih =>
    unfold zUs
    rw [List.flatMap_cons]
    rcases List.mem_cons.mp ho with e | e
    · rw [e]; exact List.sublist_append_left _ _
    · exact (ih e).trans (List.sublist_append_right _ _)
theorem zUs_cons (a : Nat) (r : List Nat) (β : Nat → Nat) (π : Nat → List Nat) : zUs (a :: r) β π = (β a :: π a) ++ zUs r β π := by unfold zUs; rw [List.flatMap_cons]
theorem zUs_inj {lv : List Nat} {β : Nat → Nat} {π : Nat → List Nat} (h : (zUs lv β π).Nodup) {a b : Nat} (ha : a ∈ lv) (hb : b ∈ lv) (e : β a = β b) : a = b := by
  induction lv with
  | nil => cases ha
  | cons c r ih =>
    rw [zUs_cons, List.nodup_append] at h
    rcases List.mem_cons.mp ha with ha | ha
    · rcases List.mem_cons.mp hb with hb | hb
      · rw [ha, hb]
      · exact absurd e (by rw [ha]; exact h.2.2 (β c) List.mem_cons_self (β b) (zUs_mem hb).1)
    · rcases List.mem_cons.mp hb with hb | hb
      · exact absurd e.symm (by rw [hb]; exact h.2.2 (β c) List.mem_cons_self (β a) (zUs_mem ha).1)
      · exact ih h.2.1 ha hb
section ZC
variable {σ : zSg} {lv : List Nat} {β : Nat → Nat} {π : Nat → List Nat} {nb : Nat} {FL : List Nat} {mk : Nat} {s : zSt}
theorem zCm.chain (h : zCm σ lv β π nb FL mk s) {o : Nat} (ho : o ∈ lv) : zIn nb (π o) ∧ 1 ≤ β o ∧ β o ≤ nb ∧ β o ∉ π o ∧ (π o).Nodup := by
  obtain ⟨h1, h2, h3, -⟩ := h
  have hnd := List.Nodup.sublist (zUs_sub ho) h2
  have hb := h3 _ (zUs_mem ho).1
  have hlen := zl_bound hnd (nb := nb) (fun x hx => (h3 x ((zUs_sub ho).subset hx)).1)
  have hnb := h1.2.1.2
  rw [List.length_cons] at hlen
  rw [List.nodup_cons] at hnd
  exact ⟨⟨fun b hb => (h3 b ((zUs_mem ho).2 b hb)).1, by omega⟩, hb.1.1, hb.1.2, hnd.1, hnd.2⟩
theorem zCm.ok (h : zCm σ lv β π nb FL mk s) : zOk nb s := h.1.2.1
theorem zCm.live (h : zCm σ lv β π nb FL mk s) {o : Nat} (ho : o = 0 ∨ o ∈ lv) : β o ≤ nb := by
  rcases ho with e | e
  · rw [e, h.2.2.2.1]; exact Nat.zero_le _
  · exact (h.chain e).2.2.1
/-- objects are told apart by their blocks -/
theorem zCm.inj (h : zCm σ lv β π nb FL mk s) {a b : Nat} (ha : a = 0 ∨ a ∈ lv) (hb : b = 0 ∨ b ∈ lv) (e : β a = β b) : a = b := by
  have h0 := h.2.2.2.1
  rcases ha with ha | ha
  · rcases hb with hb | hb
    · rw [ha, hb]
    · have := (h.chain hb).2.1
      rw [ha, h0] at e; omega
  · rcases hb with hb | hb
    · have := (h.chain ha).2.1
      rw [hb, h0] at e; omega
    · obtain ⟨-, h2, -⟩ := h
      exact zUs_inj h2 ha hb e
end ZC
