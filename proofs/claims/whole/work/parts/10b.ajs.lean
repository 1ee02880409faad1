/-- case 0: state -/
def aj_S0 (F : Nat) (Rel : am_SS → am_SS → Prop) : Prop := ∀ (y0 : Int32) (σ τ : am_SS), Rel σ τ → ∃ (qC : Int32 × am_SS) (qM : Int32 × am_SS), C_state y0 σ = qC ∧ M_state y0 τ = some qM ∧ qC.1 = qM.1 ∧ Rel qC.2 qM.2
/-- case 1: officer -/
def aj_S1 (F : Nat) (Rel : am_SS → am_SS → Prop) : Prop := ∀ (y0 : Int32) (y1 : Int32) (σ τ : am_SS), Rel σ τ → ∃ (qC : Int32 × am_SS) (qM : Int32 × am_SS), C_officer y0 y1 σ = some qC ∧ M_officer F y0 y1 τ = some qM ∧ qC.1 = qM.1 ∧ Rel qC.2 qM.2
/-- case 2: batman -/
def aj_S2 (F : Nat) (Rel : am_SS → am_SS → Prop) : Prop := ∀ (y0 : Int32) (y1 : Int32) (σ τ : am_SS), Rel σ τ → ∃ (qC : Int32 × am_SS) (qM : Int32 × am_SS), C_batman y0 y1 σ = some qC ∧ M_batman y0 y1 τ = some qM ∧ qC.1 = qM.1 ∧ Rel qC.2 qM.2
/-- case 3: set -/
def aj_S3 (F : Nat) (Rel : am_SS → am_SS → Prop) : Prop := ∀ (y0 : Int32) (y1 : Int32) (y2 : Int32) (σ τ : am_SS), Rel σ τ → ∃ (qC : Bool × am_SS) (qM : Bool × am_SS), C_set y0 y1 y2 σ = some qC ∧ M_set y0 y1 y2 τ = some qM ∧ qC.1 = qM.1 ∧ Rel qC.2 qM.2
/-- case 4: act -/
def aj_S4 (F : Nat) (Rel : am_SS → am_SS → Prop) : Prop := ∀ (y0 : Int32) (y1 : Int32) (y2 : Int32) (σ τ : am_SS), Rel σ τ → ∃ (qC : Bool × am_SS) (qM : Bool × am_SS), C_act F y0 y1 y2 σ = some qC ∧ M_act F y0 y1 y2 τ = some qM ∧ qC.1 = qM.1 ∧ Rel qC.2 qM.2
/-- case 5: days -/
def aj_S5 (F : Nat) (Rel : am_SS → am_SS → Prop) : Prop := ∀ (y0 : Int32) (σ τ : am_SS), Rel σ τ → ∃ (qC : Int32 × am_SS) (qM : Int32 × am_SS), C_days F y0 σ = some qC ∧ M_days F y0 τ = some qM ∧ qC.1 = qM.1 ∧ Rel qC.2 qM.2
/-- case 6: feed -/
def aj_S6 (F : Nat) (Rel : am_SS → am_SS → Prop) : Prop := ∀ (y0 : Int32) (y1 : Int32) (y2 : Int32) (y3 : Int32) (y4 : Int32) (σ τ : am_SS), Rel σ τ → ∃ (qC : Int32 × am_SS) (qM : Int32 × am_SS), C_feed F y0 y1 y2 y3 y4 σ = some qC ∧ M_feed F y0 y1 y2 y3 y4 τ = some qM ∧ qC.1 = qM.1 ∧ Rel qC.2 qM.2
/-- case 7: end -/
def aj_S7 (F : Nat) (Rel : am_SS → am_SS → Prop) : Prop := ∀ (y0 : Int32) (σ τ : am_SS), Rel σ τ → ∃ (qC : Bool × am_SS) (qM : Bool × am_SS), C_end y0 σ = qC ∧ M_end y0 τ = qM ∧ qC.1 = qM.1 ∧ Rel qC.2 qM.2
/-- case 8: text -/
def aj_S8 (F : Nat) (Rel : am_SS → am_SS → Prop) : Prop := ∀ (y0 : Int32) (σ τ : am_SS), Rel σ τ → ∃ (qC : Int32 × am_SS) (qM : Int32 × am_SS), C_text F y0 σ = some qC ∧ M_text F y0 τ = some qM ∧ qC.1 = qM.1 ∧ Rel qC.2 qM.2
/-- case 9: fault -/
def aj_S9 (F : Nat) (Rel : am_SS → am_SS → Prop) : Prop := ∀ (y0 : Int32) (σ τ : am_SS), Rel σ τ → ∃ (qC : Int32) (qM : Int32 × am_SS), C_fault y0 σ = qC ∧ M_fault y0 τ = qM ∧ qC = qM.1 ∧ Rel σ qM.2
/-- case 10: of -/
def aj_S10 (F : Nat) (Rel : am_SS → am_SS → Prop) : Prop := ∀ (y0 : Int32) (y1 : Int32) (σ τ : am_SS), Rel σ τ → ∃ (qC : Int32 × am_SS) (qM : Int32 × am_SS), C_of F y0 y1 σ = some qC ∧ M_of F y0 y1 τ = some qM ∧ qC.1 = qM.1 ∧ Rel qC.2 qM.2
/-- case 11: who -/
def aj_S11 (F : Nat) (Rel : am_SS → am_SS → Prop) : Prop := ∀ (y0 : Int32) (y1 : Int32) (σ τ : am_SS), Rel σ τ → ∃ (qC : Int32) (qM : Int32 × am_SS), C_who F y0 y1 σ = some qC ∧ M_who F y0 y1 τ = some qM ∧ qC = qM.1 ∧ Rel σ qM.2
/-- case 12: book -/
def aj_S12 (F : Nat) (Rel : am_SS → am_SS → Prop) : Prop := ∀ (y0 : Int32) (y1 : Int32) (σ τ : am_SS), Rel σ τ → ∃ (qC : Int32) (qM : Int32 × am_SS), C_book y0 y1 σ = some qC ∧ M_book y0 y1 τ = some qM ∧ qC = qM.1 ∧ Rel σ qM.2
/-- case 13: goes -/
def aj_S13 (F : Nat) (Rel : am_SS → am_SS → Prop) : Prop := ∀ (y0 : Int32) (y1 : Int32) (σ τ : am_SS), Rel σ τ → ∃ (qC : Int32 × am_SS) (qM : Int32 × am_SS), C_goes F y0 y1 σ = some qC ∧ M_goes F y0 y1 τ = some qM ∧ qC.1 = qM.1 ∧ Rel qC.2 qM.2
/-- case 14: peace -/
def aj_S14 (F : Nat) (Rel : am_SS → am_SS → Prop) : Prop := ∀  (σ τ : am_SS), Rel σ τ → ∃ (qC : Int32 × am_SS) (qM : Int32 × am_SS), C_peace F  σ = some qC ∧ M_peace F  τ = some qM ∧ qC.1 = qM.1 ∧ Rel qC.2 qM.2
/-- case 15: guess -/
def aj_S15 (F : Nat) (Rel : am_SS → am_SS → Prop) : Prop := ∀ (y0 : Int32) (y1 : Int32) (y2 : Int32) (σ τ : am_SS), Rel σ τ → ∃ (qC : Int32 × am_SS) (qM : Int32 × am_SS), C_guess F y0 y1 y2 σ = some qC ∧ M_guess F y0 y1 y2 τ = some qM ∧ qC.1 = qM.1 ∧ Rel qC.2 qM.2
/-- case 16: words -/
def aj_S16 (F : Nat) (Rel : am_SS → am_SS → Prop) : Prop := ∀ (y0 : Int32) (σ τ : am_SS), Rel σ τ → ∃ (qC : Int32) (qM : Int32 × am_SS), C_words F y0 σ = some qC ∧ M_words F y0 τ = some qM ∧ qC = qM.1 ∧ Rel σ qM.2
/-- case 17: boots -/
def aj_S17 (F : Nat) (Rel : am_SS → am_SS → Prop) : Prop := ∀ (y0 : Int32) (y1 : Int32) (y2 : Int32) (σ τ : am_SS), Rel σ τ → ∃ (qC : Int32) (qM : Int32 × am_SS), C_boots F y0 y1 y2 = some qC ∧ M_boots F y0 y1 y2 τ = some qM ∧ qC = qM.1 ∧ Rel σ qM.2
/-- case 18: moves -/
def aj_S18 (F : Nat) (Rel : am_SS → am_SS → Prop) : Prop := ∀ (y0 : Int32) (σ τ : am_SS), Rel σ τ → ∃ (qC : Int32) (qM : Int32 × am_SS), C_moves F y0 = some qC ∧ M_moves F y0 τ = some qM ∧ qC = qM.1 ∧ Rel σ qM.2
/-- case 19: billets -/
def aj_S19 (F : Nat) (Rel : am_SS → am_SS → Prop) : Prop := ∀ (y0 : Int32) (y1 : Int32) (σ τ : am_SS), Rel σ τ → ∃ (qC : Int32) (qM : Int32 × am_SS), C_billets F y0 y1 = some qC ∧ M_billets F y0 y1 τ = some qM ∧ qC = qM.1 ∧ Rel σ qM.2
/-- case 20: pairs -/
def aj_S20 (F : Nat) (Rel : am_SS → am_SS → Prop) : Prop := ∀ (y0 : Int32) (y1 : Int32) (σ τ : am_SS), Rel σ τ → ∃ (qC : Int32) (qM : Int32 × am_SS), C_pairs F y0 y1 = some qC ∧ M_pairs F y0 y1 τ = some qM ∧ qC = qM.1 ∧ Rel σ qM.2
/-- case 21: ahead -/
def aj_S21 (F : Nat) (Rel : am_SS → am_SS → Prop) : Prop := ∀ (y0 : Int32) (y1 : Int32) (y2 : Int32) (σ τ : am_SS), Rel σ τ → ∃ (qC : Int32) (qM : Int32 × am_SS), C_ahead F y0 y1 y2 = some qC ∧ M_ahead F y0 y1 y2 τ = some qM ∧ qC = qM.1 ∧ Rel σ qM.2
/-- case 22: feast -/
def aj_S22 (F : Nat) (Rel : am_SS → am_SS → Prop) : Prop := ∀ (y0 : Int32) (y1 : Int32) (σ τ : am_SS), Rel σ τ → ∃ (qC : Int32) (qM : Int32 × am_SS), C_feast y0 y1 = qC ∧ M_feast y0 y1 τ = qM ∧ qC = qM.1 ∧ Rel σ qM.2
/-- case 23: happy -/
def aj_S23 (F : Nat) (Rel : am_SS → am_SS → Prop) : Prop := ∀ (y0 : Int32) (y1 : Int32) (σ τ : am_SS), Rel σ τ → ∃ (qC : Int32) (qM : Int32 × am_SS), C_happy F y0 y1 = some qC ∧ M_happy F y0 y1 τ = some qM ∧ qC = qM.1 ∧ Rel σ qM.2
/-- case 24: letter -/
def aj_S24 (F : Nat) (Rel : am_SS → am_SS → Prop) : Prop := ∀ (y0 : Int32) (y1 : Int32) (σ τ : am_SS), Rel σ τ → ∃ (qC : Int32 × am_SS) (qM : Int32 × am_SS), C_letter F y0 y1 σ = some qC ∧ M_letter y0 y1 τ = some qM ∧ qC.1 = qM.1 ∧ Rel qC.2 qM.2
/-- case 25: message -/
def aj_S25 (F : Nat) (Rel : am_SS → am_SS → Prop) : Prop := ∀ (y0 : Int32) (y1 : Int32) (σ τ : am_SS), Rel σ τ → ∃ (qC : Int32) (qM : Int32 × am_SS), C_message F y0 y1 σ = some qC ∧ M_message F y0 y1 τ = some qM ∧ qC = qM.1 ∧ Rel σ qM.2
/-- case 26: bit -/
def aj_S26 (F : Nat) (Rel : am_SS → am_SS → Prop) : Prop := ∀ (y0 : Int32) (σ τ : am_SS), Rel σ τ → ∃ (qC : Int32 × am_SS) (qM : Int32 × am_SS), C_bit F y0 σ = some qC ∧ M_bit y0 τ = some qM ∧ qC.1 = qM.1 ∧ Rel qC.2 qM.2
/-- case 27: anew -/
def aj_S27 (F : Nat) (Rel : am_SS → am_SS → Prop) : Prop := ∀ (y0 : Int32) (σ τ : am_SS), Rel σ τ → ∃ (qC : Int32) (qM : Int32 × am_SS), C_anew F y0 σ = some qC ∧ M_anew F y0 τ = some qM ∧ qC = qM.1 ∧ Rel σ qM.2
/-- case 28: queen -/
def aj_S28 (F : Nat) (Rel : am_SS → am_SS → Prop) : Prop := ∀ (y0 : Int32) (y1 : Int32) (σ τ : am_SS), Rel σ τ → ∃ (qC : Int32 × am_SS) (qM : Int32 × am_SS), C_queen F y0 y1 σ = some qC ∧ M_queen F y0 y1 τ = some qM ∧ qC.1 = qM.1 ∧ Rel qC.2 qM.2
/-- case 29: queens -/
def aj_S29 (F : Nat) (Rel : am_SS → am_SS → Prop) : Prop := ∀ (y0 : Int32) (σ τ : am_SS), Rel σ τ → ∃ (qC : Int32) (qM : Int32 × am_SS), C_queens F y0 σ = some qC ∧ M_queens F y0 τ = some qM ∧ qC = qM.1 ∧ Rel σ qM.2
/-- case 30: corner -/
def aj_S30 (F : Nat) (Rel : am_SS → am_SS → Prop) : Prop := ∀ (y0 : Int32) (y1 : Int32) (σ τ : am_SS), Rel σ τ → ∃ (qC : Int32 × am_SS) (qM : Int32 × am_SS), C_corner F y0 y1 σ = some qC ∧ M_corner y0 y1 τ = some qM ∧ qC.1 = qM.1 ∧ Rel qC.2 qM.2
/-- case 31: within -/
def aj_S31 (F : Nat) (Rel : am_SS → am_SS → Prop) : Prop := ∀ (y0 : Int32) (y1 : Int32) (σ τ : am_SS), Rel σ τ → ∃ (qC : Int32) (qM : Int32 × am_SS), C_within F y0 y1 σ = some qC ∧ M_within F y0 y1 τ = some qM ∧ qC = qM.1 ∧ Rel σ qM.2
/-- case 32: area -/
def aj_S32 (F : Nat) (Rel : am_SS → am_SS → Prop) : Prop := ∀  (σ τ : am_SS), Rel σ τ → ∃ (qC : Int32) (qM : Int32 × am_SS), C_area F  σ = some qC ∧ M_area F  τ = some qM ∧ qC = qM.1 ∧ Rel σ qM.2
/-- case 33: parts -/
def aj_S33 (F : Nat) (Rel : am_SS → am_SS → Prop) : Prop := ∀ (y0 : Int32) (y1 : Int32) (σ τ : am_SS), Rel σ τ → ∃ (qC : Int32) (qM : Int32 × am_SS), C_parts F y0 y1 = some qC ∧ M_parts F y0 y1 τ = some qM ∧ qC = qM.1 ∧ Rel σ qM.2
/-- case 34: brackets -/
def aj_S34 (F : Nat) (Rel : am_SS → am_SS → Prop) : Prop := ∀ (y0 : Int32) (y1 : Int32) (y2 : Int32) (σ τ : am_SS), Rel σ τ → ∃ (qC : Int32) (qM : Int32 × am_SS), C_brackets F y0 y1 y2 = some qC ∧ M_brackets F y0 y1 y2 τ = some qM ∧ qC = qM.1 ∧ Rel σ qM.2
/-- case 35: game -/
def aj_S35 (F : Nat) (Rel : am_SS → am_SS → Prop) : Prop := ∀ (y0 : Int32) (y1 : Int32) (σ τ : am_SS), Rel σ τ → ∃ (qC : Int32) (qM : Int32 × am_SS), C_game F y0 y1 = some qC ∧ M_game F y0 y1 τ = some qM ∧ qC = qM.1 ∧ Rel σ qM.2
/-- case 36: undo -/
def aj_S36 (F : Nat) (Rel : am_SS → am_SS → Prop) : Prop := ∀  (σ τ : am_SS), Rel σ τ → ∃ (qC : Bool × am_SS) (qM : Bool × am_SS), C_undo F  σ = some qC ∧ M_undo F  τ = some qM ∧ qC.1 = qM.1 ∧ Rel qC.2 qM.2
/-- case 37: image -/
def aj_S37 (F : Nat) (Rel : am_SS → am_SS → Prop) : Prop := ∀ (y0 : Bool) (σ τ : am_SS), Rel σ τ → ∃ (qC : Bool × am_SS) (qM : Bool × am_SS), C_image F y0 σ = some qC ∧ M_image F y0 τ = some qM ∧ qC.1 = qM.1 ∧ Rel qC.2 qM.2
/-- case 38: look -/
def aj_S38 (F : Nat) (Rel : am_SS → am_SS → Prop) : Prop := ∀ (y0 : Int32) (σ τ : am_SS), Rel σ τ → ∃ (qC : Int32) (qM : Int32 × am_SS), C_look F y0 σ = some qC ∧ M_look F y0 τ = some qM ∧ qC = qM.1 ∧ Rel σ qM.2
