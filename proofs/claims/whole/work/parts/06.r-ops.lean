/-! what the law asks of a relation R between the two states: every call answers alike and keeps R -/
def op_row (R : pS → pS → Prop) : Prop := ∀ (σ τ : pS) (a1 : Int32) (a2 : Int32), R σ τ → ∃ (r : Int32) (ux : pS) (um : pS), fX4_row σ a1 a2 = some (r, ux) ∧ fX5_row τ a1 a2 = some (r, um) ∧ R ux um
def op_lay (R : pS → pS → Prop) : Prop := ∀ (σ τ : pS) (a1 : Int32) (a2 : Int32) (a3 : Int32), R σ τ → ∃ (r : Int32) (ux : pS) (um : pS), fX4_lay σ a1 a2 a3 = some (r, ux) ∧ fX5_lay τ a1 a2 a3 = some (r, um) ∧ R ux um
def op_at (R : pS → pS → Prop) : Prop := ∀ (σ τ : pS) (a1 : Int32) (a2 : Int32), R σ τ → ∃ (r : Int32) (ux : pS) (um : pS), fX4_at σ a1 a2 = some (r, ux) ∧ fX5_at τ a1 a2 = some (r, um) ∧ R ux um
def op_tear (R : pS → pS → Prop) : Prop := ∀ (σ τ : pS) (a1 : Int32), R σ τ → ∃ (r : Int32) (ux : pS) (um : pS), fX4_tear σ a1 = some (r, ux) ∧ fX5_tear τ a1 = some (r, um) ∧ R ux um
def op_copy (R : pS → pS → Prop) : Prop := ∀ (σ τ : pS) (a1 : Int32) (a2 : Int32) (a3 : Int32) (a4 : Int32) (a5 : Int32), R σ τ → ∃ (r : Int32) (ux : pS) (um : pS), fX4_copy σ a1 a2 a3 a4 a5 = some (r, ux) ∧ fX5_copy τ a1 a2 a3 a4 a5 = some (r, um) ∧ R ux um
def op_mean (R : pS → pS → Prop) : Prop := ∀ (σ τ : pS) (a1 : Int32), R σ τ → ∃ (r : Int32) (ux : pS) (um : pS), fX4_mean σ a1 = some (r, ux) ∧ fX5_mean τ a1 = some (r, um) ∧ R ux um
def op_text (R : pS → pS → Prop) : Prop := ∀ (σ τ : pS) (a1 : Int32) (a2 : Int32), R σ τ → ∃ (r : Int32) (ux : pS) (um : pS), fX4_text σ a1 a2 = some (r, ux) ∧ fX5_text τ a1 a2 = some (r, um) ∧ R ux um
def op_put (R : pS → pS → Prop) : Prop := ∀ (σ τ : pS) (a1 : Int32) (a2 : Int32) (a3 : Int32), R σ τ → ∃ (r : Int32) (ux : pS) (um : pS), fX4_put σ a1 a2 a3 = some (r, ux) ∧ fX5_put τ a1 a2 a3 = some (r, um) ∧ R ux um
def op_fault (R : pS → pS → Prop) : Prop := ∀ (σ τ : pS) (a1 : Int32), R σ τ → ∃ (r : Int32) (ux : pS) (um : pS), fX4_fault σ a1 = some (r, ux) ∧ fX5_fault τ a1 = some (r, um) ∧ R ux um
def op_village (R : pS → pS → Prop) : Prop := ∀ (σ τ : pS) (a1 : Int32), R σ τ → ∃ (r : Int32) (ux : pS) (um : pS), fX4_village σ a1 = some (r, ux) ∧ fX5_village τ a1 = some (r, um) ∧ R ux um
def op_one (R : pS → pS → Prop) : Prop := ∀ (σ τ : pS) (a1 : Int32) (a2 : Int32), R σ τ → ∃ (r : Int32) (ux : pS) (um : pS), fX4_one σ a1 a2 = some (r, ux) ∧ fX5_one τ a1 a2 = some (r, um) ∧ R ux um
def op_mark (R : pS → pS → Prop) : Prop := ∀ (σ τ : pS) (a1 : Int32) (a2 : Int32), R σ τ → ∃ (r : Int32) (ux : pS) (um : pS), fX4_mark σ a1 a2 = some (r, ux) ∧ fX5_mark τ a1 a2 = some (r, um) ∧ R ux um
def op_debt (R : pS → pS → Prop) : Prop := ∀ (σ τ : pS) (a1 : Int32) (a2 : Int32), R σ τ → ∃ (r : Int32) (ux : pS) (um : pS), fX4_debt σ a1 a2 = some (r, ux) ∧ fX5_debt τ a1 a2 = some (r, um) ∧ R ux um
def op_law (R : pS → pS → Prop) : Prop := ∀ (σ τ : pS) (a1 : Int32), R σ τ → ∃ (r : Int32) (ux : pS) (um : pS), fX4_law σ a1 = some (r, ux) ∧ fX5_law τ a1 = some (r, um) ∧ R ux um
def op_cards (R : pS → pS → Prop) : Prop := ∀ (σ τ : pS) (a1 : Int32) (a2 : Int32), R σ τ → ∃ (r : Int32) (ux : pS) (um : pS), fX4_cards σ a1 a2 = some (r, ux) ∧ fX5_cards τ a1 a2 = some (r, um) ∧ R ux um
def op_habit (R : pS → pS → Prop) : Prop := ∀ (σ τ : pS) (a1 : Int32) (a2 : Int32) (a3 : Int32), R σ τ → ∃ (r : Int32) (ux : pS) (um : pS), fX4_habit σ a1 a2 a3 = some (r, ux) ∧ fX5_habit τ a1 a2 a3 = some (r, um) ∧ R ux um
def op_empty (R : pS → pS → Prop) : Prop := ∀ (σ τ : pS) (a1 : Int32), R σ τ → ∃ (r : Int32), fX4_empty σ a1 = some r ∧ fX5_empty τ a1 = some r ∧ R σ τ
def op_when (R : pS → pS → Prop) : Prop := ∀ (σ τ : pS) (a1 : Int32), R σ τ → ∃ (r : Int32), fX4_when σ a1 = some r ∧ fX5_when τ a1 = some r ∧ R σ τ
def op_hour (R : pS → pS → Prop) : Prop := ∀ (σ τ : pS) (a1 : Int32), R σ τ → ∃ (r : Int32) (ux : pS) (um : pS), fX4_hour σ a1 = some (r, ux) ∧ fX5_hour τ a1 = some (r, um) ∧ R ux um
def op_judge (R : pS → pS → Prop) : Prop := ∀ (σ τ : pS) (a1 : Int32), R σ τ → ∃ (r : Int32) (ux : pS) (um : pS), fX4_judge σ a1 = some (r, ux) ∧ fX5_judge τ a1 = some (r, um) ∧ R ux um
def op_worth (R : pS → pS → Prop) : Prop := ∀ (σ τ : pS) (a1 : Int32), R σ τ → ∃ (r : Int32) (ux : pS) (um : pS), fX4_worth σ a1 = some (r, ux) ∧ fX5_worth τ a1 = some (r, um) ∧ R ux um
def op_best (R : pS → pS → Prop) : Prop := ∀ (σ τ : pS) (a1 : Int32), R σ τ → ∃ (r : Int32) (ux : pS) (um : pS), fX4_best σ a1 = some (r, ux) ∧ fX5_best τ a1 = some (r, um) ∧ R ux um
def op_ways (R : pS → pS → Prop) : Prop := ∀ (σ τ : pS), R σ τ → ∃ (r : Int32) (ux : pS) (um : pS), fX4_ways σ = some (r, ux) ∧ fX5_ways τ = some (r, um) ∧ R ux um
def op_soonest (R : pS → pS → Prop) : Prop := ∀ (σ τ : pS), R σ τ → ∃ (r : Int32) (ux : pS) (um : pS), fX4_soonest σ = some (r, ux) ∧ fX5_soonest τ = some (r, um) ∧ R ux um
def op_rings (R : pS → pS → Prop) : Prop := ∀ (σ τ : pS), R σ τ → ∃ (r : Int32) (ux : pS) (um : pS), fX4_rings σ = some (r, ux) ∧ fX5_rings τ = some (r, um) ∧ R ux um
def op_few (R : pS → pS → Prop) : Prop := ∀ (σ τ : pS) (a1 : Int32) (a2 : Int32), R σ τ → ∃ (r : Int32) (ux : pS) (um : pS), fX4_few σ a1 a2 = some (r, ux) ∧ fX5_few τ a1 a2 = some (r, um) ∧ R ux um
def op_call (R : pS → pS → Prop) : Prop := ∀ (σ τ : pS), R σ τ → ∃ (r : Int32) (ux : pS) (um : pS), fX4_call σ = some (r, ux) ∧ fX5_call τ = some (r, um) ∧ R ux um
def op_stay (R : pS → pS → Prop) : Prop := ∀ (σ τ : pS) (a1 : Int32), R σ τ → ∃ (r : Int32) (ux : pS) (um : pS), fX4_stay σ a1 = some (r, ux) ∧ fX5_stay τ a1 = some (r, um) ∧ R ux um
def op_against (R : pS → pS → Prop) : Prop := ∀ (σ τ : pS) (a1 : Int32) (a2 : Int32), R σ τ → ∃ (r : Int32) (ux : pS) (um : pS), fX4_against σ a1 a2 = some (r, ux) ∧ fX5_against τ a1 a2 = some (r, um) ∧ R ux um
def op_family (R : pS → pS → Prop) : Prop := ∀ (σ τ : pS) (a1 : Int32), R σ τ → ∃ (r : Int32) (ux : pS) (um : pS), fX4_family σ a1 = some (r, ux) ∧ fX5_family τ a1 = some (r, um) ∧ R ux um
def op_pay (R : pS → pS → Prop) : Prop := ∀ (σ τ : pS) (a1 : Int32) (a2 : Int32), R σ τ → ∃ (r : Int32) (ux : pS) (um : pS), fX4_pay σ a1 a2 = some (r, ux) ∧ fX5_pay τ a1 a2 = some (r, um) ∧ R ux um
def op_unpay (R : pS → pS → Prop) : Prop := ∀ (σ τ : pS) (a1 : Int32), R σ τ → ∃ (r : Int32) (ux : pS) (um : pS), fX4_unpay σ a1 = some (r, ux) ∧ fX5_unpay τ a1 = some (r, um) ∧ R ux um
def op_paid (R : pS → pS → Prop) : Prop := ∀ (σ τ : pS), R σ τ → ∃ (r : Int32) (ux : pS) (um : pS), fX4_paid σ = some (r, ux) ∧ fX5_paid τ = some (r, um) ∧ R ux um
def op_keep (R : pS → pS → Prop) : Prop := ∀ (σ τ : pS) (a1 : Int32), R σ τ → ∃ (r : Int32) (ux : pS) (um : pS), fX4_keep σ a1 = some (r, ux) ∧ fX5_keep τ a1 = some (r, um) ∧ R ux um
def op_on (R : pS → pS → Prop) : Prop := ∀ (σ τ : pS) (a1 : Int32), R σ τ → ∃ (r : Int32) (ux : pS) (um : pS), fX4_on σ a1 = some (r, ux) ∧ fX5_on τ a1 = some (r, um) ∧ R ux um
def op_must (R : pS → pS → Prop) : Prop := ∀ (σ τ : pS) (a1 : Int32) (a2 : Int32), R σ τ → ∃ (r : Int32) (ux : pS) (um : pS), fX4_must σ a1 a2 = some (r, ux) ∧ fX5_must τ a1 a2 = some (r, um) ∧ R ux um
def op_liars (R : pS → pS → Prop) : Prop := ∀ (σ τ : pS) (a1 : Int32), R σ τ → ∃ (r : Int32) (ux : pS) (um : pS), fX4_liars σ a1 = some (r, ux) ∧ fX5_liars τ a1 = some (r, um) ∧ R ux um
def op_asked (R : pS → pS → Prop) : Prop := ∀ (σ τ : pS), R σ τ → ∃ (r : Int32), fX4_asked σ = some r ∧ fX5_asked τ = some r ∧ R σ τ
def op_upper (R : pS → pS → Prop) : Prop := ∀ (σ τ : pS), R σ τ → ∃ (r : Int64), fX4_upper σ = some r ∧ fX5_upper τ = some r ∧ R σ τ
def op_lower (R : pS → pS → Prop) : Prop := ∀ (σ τ : pS), R σ τ → ∃ (r : Int64), fX4_lower σ = some r ∧ fX5_lower τ = some r ∧ R σ τ
def op_count (R : pS → pS → Prop) : Prop := ∀ (σ τ : pS) (a1 : Int32), R σ τ → ∃ (r : Int32), fX4_count σ a1 = some r ∧ fX5_count τ a1 = some r ∧ R σ τ
def op_finding (R : pS → pS → Prop) : Prop := ∀ (σ τ : pS), R σ τ → ∃ (r : Int32), fX4_finding σ = some r ∧ fX5_finding τ = some r ∧ R σ τ
def op_findings (R : pS → pS → Prop) : Prop := ∀ (σ τ : pS) (a1 : Int32), R σ τ → ∃ (r : Int32), fX4_findings σ a1 = some r ∧ fX5_findings τ a1 = some r ∧ R σ τ
def op_digest (R : pS → pS → Prop) : Prop := ∀ (σ τ : pS), R σ τ → ∃ (r : Int64) (um : pS), fX4_digest σ = some r ∧ fX5_digest τ = some (r, um) ∧ R σ um
def Ops (R : pS → pS → Prop) : Prop := op_row R ∧ op_lay R ∧ op_at R ∧ op_tear R ∧ op_copy R ∧ op_mean R ∧ op_text R ∧ op_put R ∧ op_fault R ∧ op_village R ∧ op_one R ∧ op_mark R ∧ op_debt R ∧ op_law R ∧ op_cards R ∧ op_habit R ∧ op_empty R ∧ op_when R ∧ op_hour R ∧ op_judge R ∧ op_worth R ∧ op_best R ∧ op_ways R ∧ op_soonest R ∧ op_rings R ∧ op_few R ∧ op_call R ∧ op_stay R ∧ op_against R ∧ op_family R ∧ op_pay R ∧ op_unpay R ∧ op_paid R ∧ op_keep R ∧ op_on R ∧ op_must R ∧ op_liars R ∧ op_asked R ∧ op_upper R ∧ op_lower R ∧ op_count R ∧ op_finding R ∧ op_findings R ∧ op_digest R
