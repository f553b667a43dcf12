/-! descriptions, and what they make of a property -/
abbrev zDs : Type := Int32 × Int32 × Int32 × Int64 × Nat × Nat × Nat
def dT (d : zDs) : Int32 := d.1
def dF (d : zDs) : Int32 := d.2.1
def dK (d : zDs) : Int32 := d.2.2.1
def dN (d : zDs) : Int64 := d.2.2.2.1
def dO (d : zDs) : Nat := d.2.2.2.2.1
def dG (d : zDs) : Nat := d.2.2.2.2.2.1
def dS (d : zDs) : Nat := d.2.2.2.2.2.2
def zTurn (p : zPr) : zPr := (kK p, if kF p &&& 64 = 0 then (kF p &&& 48) ||| 64 else kF p &&& 48, 0, 0, 0, 0)
def zB1 (d : zDs) (p : zPr) : zPr := if dT d &&& (if kF p &&& 64 = 0 then 12 else 3) = 0 then p else zTurn p
def zB2 (d : zDs) (p : zPr) : zPr := (kK p, (kF p &&& ((dT d &&& 50) ^^^ (-1))) ||| dF d, kD p, kN p, kO p, kS p)
def zB3 (d : zDs) (p : zPr) : zPr := if dT d &&& 1 = 0 then p else (kK p, kF p, dK d, dN d, dO d, kS p)
def zB4 (d : zDs) (p : zPr) : zPr := if dT d &&& 4 = 0 then p else (kK p, kF p, if dG d = 0 then 0 else 5, 0, dG d, kS p)
def zB5 (d : zDs) (p : zPr) : zPr := if dT d &&& 8 = 0 then p else (kK p, kF p, kD p, kN p, kO p, dS d)
def zBec (d : zDs) (p : zPr) : zPr := zB5 d (zB4 d (zB3 d (zB2 d (zB1 d p))))
abbrev zSv (d : zDs) (p : zPr) : Prop := kD p = dK d ∧ kN p = dN d ∧ kO p = dO d

def zFix (d : zDs) (p : zPr) : Bool :=
  if dF d &&& 32 ≠ 0 then true
  else if dT d &&& 16 ≠ 0 ∧ ¬ (bI (dF d &&& 16 ≠ 0) = bI (kF p &&& 16 ≠ 0)) then true
  else if kF p &&& 64 ≠ 0 then decide (dT d &&& 3 ≠ 0 ∨ (dT d &&& 4 ≠ 0 ∧ dG d ≠ kO p) ∨ (dT d &&& 8 ≠ 0 ∧ dS d ≠ kS p))
  else if dT d &&& 12 ≠ 0 then true
  else decide (kF p &&& 2 = 0 ∧ (dF d &&& 2 ≠ 0 ∨ (dT d &&& 1 ≠ 0 ∧ ¬ zSv d p)))
def zChg (d : zDs) (p : zPr) : Bool := decide (kF p &&& 32 = 0) && zFix d p
/-- the description in the store -/
def zDr (d : zDs) (β : Nat → Nat) (lv : List Nat) (s : zSt) : Prop := gI s 7 = dT d ∧ gI s 8 = dF d ∧ gI s 9 = dK d ∧ gJ s 2 = dN d ∧ gI s 10 = nI (β (dO d)) ∧ (dT d &&& 4 ≠ 0 → gI s 11 = nI (β (dG d))) ∧ (dT d &&& 8 ≠ 0 → gI s 12 = nI (β (dS d))) ∧ (dO d = 0 ∨ dO d ∈ lv) ∧ (dG d = 0 ∨ dG d ∈ lv) ∧ (dS d = 0 ∨ dS d ∈ lv)
/-- only the block b changes, behind its first two words -/
def zBu (b : Nat) (s t : zSt) : Prop := gN t = gN s ∧ zSame s t ∧ gE t = gE s ∧ (∀ k, gI t k = gI s k) ∧ ∀ c f, f < 8 → (c ≠ b ∨ f < 2) → Wd t c f = Wd s c f
theorem zBu.rf (b : Nat) (s : zSt) : zBu b s s := ⟨rfl, zSame.rf s, rfl, fun _ => rfl, fun _ _ _ _ => rfl⟩
theorem zBu.tr {b : Nat} {s t u : zSt} (h1 : zBu b s t) (h2 : zBu b t u) : zBu b s u := ⟨h2.1.trans h1.1, h1.2.1.tr h2.2.1, h2.2.2.1.trans h1.2.2.1, fun k => (h2.2.2.2.1 k).trans (h1.2.2.2.1 k), fun c f hf hc => (h2.2.2.2.2 c f hf hc).trans (h1.2.2.2.2 c f hf hc)⟩
theorem zBu.sW {b f : Nat} (s : zSt) (v : Int64) (hb : b ≠ 0) (hf : 2 ≤ f ∧ f < 8) : zBu b s (sW s b f v) := ⟨sW_N _ _ _ _, zSame.sW _ _ _ _, sW_E _ _ _ _, sW_I _ _ _ _, fun c g hg hc => by rw [Wd_sW hb hf.2 hg, if_neg (by omega)]⟩
theorem zBu.ok {b nb : Nat} {s t : zSt} (h : zBu b s t) (hok : zOk nb s) : zOk nb t := ⟨h.1.trans hok.1, hok.2⟩
section ZP
variable {nb b : Nat} {s : zSt} {β : Nat → Nat} {p : zPr} {d : zDs} {lv : List Nat}
theorem zDr.bu {t : zSt} (h : zDr d β lv s) (hb : zBu b s t) : zDr d β lv t := by
  obtain ⟨h1, h2, h3, h4, h5, h6, h7, h8⟩ := h
  obtain ⟨-, g2, -, g4, -⟩ := hb
  exact ⟨(g4 _).trans h1, (g4 _).trans h2, (g4 _).trans h3, (g2.2.1 _).trans h4, (g4 _).trans h5, fun q => (g4 _).trans (h6 q), fun q => (g4 _).trans (h7 q), h8⟩
theorem d_tells (m : Int32) (s : zSt) : F_D_tells m s = some (bI (gI s 7 &&& m ≠ 0), s) := by
  unfold F_D_tells F_D_tells_14
  by_cases h : gI s 7 &&& m = 0
  · rw [if_pos h, if_pos z_nar0, bI_f (fun q => q h)]
  · rw [if_neg h, if_pos z_nar1, bI_t h]
theorem d_true (m : Int32) (s : zSt) : F_D_tellsTrue m s = some (bI (gI s 8 &&& m ≠ 0), s) := by
  unfold F_D_tellsTrue F_D_tellsTrue_14
  by_cases h : gI s 8 &&& m = 0
  · rw [if_pos h, if_pos z_nar0, bI_f (fun q => q h)]
  · rw [if_neg h, if_pos z_nar1, bI_t h]
theorem bI_eq0 {c : Prop} [Decidable c] : bI c = 0 ↔ ¬ c := by
  by_cases h : c
  · rw [bI_t h]; exact ⟨fun q => absurd q (by decide), fun q => absurd h q⟩
  · rw [bI_f h]; exact ⟨fun _ => h, fun _ => rfl⟩
theorem z_wv (hok : zOk nb s) (hb1 : 1 ≤ b) (hb : b ≤ nb) (kd : Int32) (n : Int64) {c : Nat} (hc : c < 2 ^ 31) : ∃ t, F_O_writeValue (nI b) kd n (nI c) s = some ((), t) ∧ zBu b s t ∧ Wd t b 2 = nL c ∧ Wd t b 3 = Wd s b 3 ∧ Wd t b 4 = Wd s b 4 ∧ Wd t b 5 = Wd s b 5 ∧ Wd t b 6 = kd.toInt64 ∧ Wd t b 7 = n := by
  have h0 : b ≠ 0 := by omega
  unfold F_O_writeValue
  rw [zsw6 hok hb, zb_some, zsw7 (zOk_sW hok _ _ _) hb, zb_some, zsw2 (zOk_sW (zOk_sW hok _ _ _) _ _ _) hb, zb_some, qI_long hc]
  refine ⟨_, rfl, ((zBu.sW s _ h0 (by decide)).tr (zBu.sW _ _ h0 (by decide))).tr (zBu.sW _ _ h0 (by decide)), ?_, ?_, ?_, ?_, ?_, ?_⟩
  all_goals (rw [Wd_sW h0 (by decide) (by decide)])
  · rw [if_pos ⟨rfl, rfl⟩]
  · rw [if_neg (by omega), Wd_sW h0 (by decide) (by decide), if_neg (by omega), Wd_sW h0 (by decide) (by decide), if_neg (by omega)]
  · rw [if_neg (by omega), Wd_sW h0 (by decide) (by decide), if_neg (by omega), Wd_sW h0 (by decide) (by decide), if_neg (by omega)]
  · rw [if_neg (by omega), Wd_sW h0 (by decide) (by decide), if_neg (by omega), Wd_sW h0 (by decide) (by decide), if_neg (by omega)]
  · rw [if_neg (by omega), Wd_sW h0 (by decide) (by decide), if_neg (by omega), Wd_sW h0 (by decide) (by decide), if_pos ⟨rfl, rfl⟩]
  · rw [if_neg (by omega), Wd_sW h0 (by decide) (by decide), if_pos ⟨rfl, rfl⟩]
theorem z_turn (hok : zOk nb s) (hb1 : 1 ≤ b) (hb : b ≤ nb) (h0 : β 0 = 0) (hp : zPw1 s β b p) : ∃ t, F_O_turnOver (nI b) s = some ((), t) ∧ zBu b s t ∧ zPw1 t β b (zTurn p) := by
  have hb0 : b ≠ 0 := by omega
  unfold F_O_turnOver
  rw [r_att hok hb hp, zb_some, r_acc hok hb hp, zb_some]
  have main : ∀ f : Int32, ∃ t, F_O_turnOver_25 (nI b) f s = some ((), t) ∧ zBu b s t ∧ zPw1 t β b (kK p, f, 0, 0, 0, 0) := by
    intro f
    unfold F_O_turnOver_25
    rw [zsw5 hok hb, zb_some, zsw3 (zOk_sW hok _ _ _) hb, zb_some]
    obtain ⟨t, g1, g2, g3, g4, g5, g6, g7, g8⟩ := z_wv (s := sW (sW s b 5 f.toInt64) b 3 0) (zOk_sW (zOk_sW hok _ _ _) _ _ _) hb1 hb 0 0 (c := 0) (by decide)
    have g1 : F_O_writeValue (nI b) 0 0 0 (sW (sW s b 5 f.toInt64) b 3 0) = some ((), t) := g1
    rw [g1, zb_some]
    refine ⟨t, rfl, ((zBu.sW s _ hb0 (by decide)).tr (zBu.sW _ _ hb0 (by decide))).tr g2, ?_⟩
    rw [Wd_sW hb0 (by decide) (by decide), if_pos ⟨rfl, rfl⟩] at g4
    rw [Wd_sW hb0 (by decide) (by decide), if_neg (by omega), Wd_sW hb0 (by decide) (by decide), if_neg (by omega)] at g5
    rw [Wd_sW hb0 (by decide) (by decide), if_neg (by omega), Wd_sW hb0 (by decide) (by decide), if_pos ⟨rfl, rfl⟩] at g6
    exact ⟨by rw [g3]; show nL 0 = nL (β 0); rw [h0], by rw [g4]; show 0 = nL (β 0); rw [h0]; rfl, g5.trans hp.2.2.1, g6, g7, g8⟩
  by_cases ha : kF p &&& 64 = 0
  · rw [bI_f (show ¬ (kF p &&& 64 ≠ 0) from fun q => q ha), if_pos rfl]
    unfold zTurn
    rw [if_pos ha]
    exact main _
  · rw [bI_t (show kF p &&& 64 ≠ 0 from ha), if_neg (by decide)]
    unfold zTurn
    rw [if_neg ha]
    exact main _
end ZP
