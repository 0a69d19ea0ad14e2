def St_row (Rel : GS → Prop) : Prop := ∀ σ : GS, Rel σ → ∀ a1 a2 : Int32, ∃ (r : Int32) (σ1 : GS) (σ2 : GS), F_X_row a1 a2 σ = some (r, σ1) ∧ F_M_row a1 a2 σ1 = some (r, σ2) ∧ Rel σ2
def St_lay (Rel : GS → Prop) : Prop := ∀ σ : GS, Rel σ → ∀ a1 a2 a3 : Int32, ∃ (r : Int32) (σ1 : GS) (σ2 : GS), F_X_lay a1 a2 a3 σ = some (r, σ1) ∧ F_M_lay a1 a2 a3 σ1 = some (r, σ2) ∧ Rel σ2
def St_at (Rel : GS → Prop) : Prop := ∀ σ : GS, Rel σ → ∀ a1 a2 : Int32, ∃ (r : Int32) (σ1 : GS) (σ2 : GS), F_X_at a1 a2 σ = some (r, σ1) ∧ F_M_at a1 a2 σ1 = some (r, σ2) ∧ Rel σ2
def St_tear (Rel : GS → Prop) : Prop := ∀ σ : GS, Rel σ → ∀ a1 : Int32, ∃ (r : Int32) (σ1 : GS) (σ2 : GS), F_X_tear a1 σ = some (r, σ1) ∧ F_M_tear a1 σ1 = some (r, σ2) ∧ Rel σ2
def St_copy (Rel : GS → Prop) : Prop := ∀ σ : GS, Rel σ → ∀ a1 a2 a3 a4 a5 : Int32, ∃ (r : Int32) (σ1 : GS) (σ2 : GS), F_X_copy a1 a2 a3 a4 a5 σ = some (r, σ1) ∧ F_M_copy a1 a2 a3 a4 a5 σ1 = some (r, σ2) ∧ Rel σ2
def St_mean (Rel : GS → Prop) : Prop := ∀ σ : GS, Rel σ → ∀ a1 : Int32, ∃ (r : Int32) (σ1 : GS) (σ2 : GS), F_X_mean a1 σ = some (r, σ1) ∧ F_M_mean a1 σ1 = some (r, σ2) ∧ Rel σ2
def St_text (Rel : GS → Prop) : Prop := ∀ σ : GS, Rel σ → ∀ a1 a2 : Int32, ∃ (r : Int32) (σ1 : GS) (σ2 : GS), F_X_text a1 a2 σ = some (r, σ1) ∧ F_M_text a1 a2 σ1 = some (r, σ2) ∧ Rel σ2
def St_put (Rel : GS → Prop) : Prop := ∀ σ : GS, Rel σ → ∀ a1 a2 a3 : Int32, ∃ (r : Int32) (σ1 : GS) (σ2 : GS), F_X_put a1 a2 a3 σ = some (r, σ1) ∧ F_M_put a1 a2 a3 σ1 = some (r, σ2) ∧ Rel σ2
def St_fault (Rel : GS → Prop) : Prop := ∀ σ : GS, Rel σ → ∀ a1 : Int32, ∃ (r : Int32) (σ1 : GS) (σ2 : GS), F_X_fault a1 σ = some (r, σ1) ∧ F_M_fault a1 σ1 = some (r, σ2) ∧ Rel σ2
def St_town (Rel : GS → Prop) : Prop := ∀ σ : GS, Rel σ → ∀ a1 : Int32, ∃ (r : Int32) (σ1 : GS) (σ2 : GS), F_X_town a1 σ = some (r, σ1) ∧ F_M_town a1 σ1 = some (r, σ2) ∧ Rel σ2
def St_walker (Rel : GS → Prop) : Prop := ∀ σ : GS, Rel σ → ∀ a1 a2 : Int32, ∃ (r : Int32) (σ1 : GS) (σ2 : GS), F_X_walker a1 a2 σ = some (r, σ1) ∧ F_M_walker a1 a2 σ1 = some (r, σ2) ∧ Rel σ2
def St_mark (Rel : GS → Prop) : Prop := ∀ σ : GS, Rel σ → ∀ a1 a2 : Int32, ∃ (r : Int32) (σ1 : GS) (σ2 : GS), F_X_mark a1 a2 σ = some (r, σ1) ∧ F_M_mark a1 a2 σ1 = some (r, σ2) ∧ Rel σ2
def St_stand (Rel : GS → Prop) : Prop := ∀ σ : GS, Rel σ → ∀ a1 a2 : Int32, ∃ (r : Int32) (σ1 : GS) (σ2 : GS), F_X_stand a1 a2 σ = some (r, σ1) ∧ F_M_stand a1 a2 σ1 = some (r, σ2) ∧ Rel σ2
def St_head (Rel : GS → Prop) : Prop := ∀ σ : GS, Rel σ → ∀ a1 a2 : Int32, ∃ (r : Int32) (σ1 : GS) (σ2 : GS), F_X_head a1 a2 σ = some (r, σ1) ∧ F_M_head a1 a2 σ1 = some (r, σ2) ∧ Rel σ2
def St_hours (Rel : GS → Prop) : Prop := ∀ σ : GS, Rel σ → ∀ a1 : Int32, ∃ (r : Int32) (σ1 : GS) (σ2 : GS), F_X_hours a1 σ = some (r, σ1) ∧ F_M_hours a1 σ1 = some (r, σ2) ∧ Rel σ2
def St_undo (Rel : GS → Prop) : Prop := ∀ σ : GS, Rel σ → ∀ a1 : Int32, ∃ (r : Int32) (σ1 : GS) (σ2 : GS), F_X_undo a1 σ = some (r, σ1) ∧ F_M_undo a1 σ1 = some (r, σ2) ∧ Rel σ2
def St_keep (Rel : GS → Prop) : Prop := ∀ σ : GS, Rel σ → ∀ a1 : Int32, ∃ (r : Int32) (σ1 : GS) (σ2 : GS), F_X_keep a1 σ = some (r, σ1) ∧ F_M_keep a1 σ1 = some (r, σ2) ∧ Rel σ2
def St_on (Rel : GS → Prop) : Prop := ∀ σ : GS, Rel σ → ∀ a1 : Int32, ∃ (r : Int32) (σ1 : GS) (σ2 : GS), F_X_on a1 σ = some (r, σ1) ∧ F_M_on a1 σ1 = some (r, σ2) ∧ Rel σ2
def St_plain (Rel : GS → Prop) : Prop := ∀ σ : GS, Rel σ → ∀ a1 : Int32, ∃ (r : Int32) (σ1 : GS) (σ2 : GS), F_X_plain a1 σ = some (r, σ1) ∧ F_M_plain a1 σ1 = some (r, σ2) ∧ Rel σ2
def St_join (Rel : GS → Prop) : Prop := ∀ σ : GS, Rel σ → ∀ a1 a2 : Int32, ∃ (r : Int32) (σ1 : GS) (σ2 : GS), F_X_join a1 a2 σ = some (r, σ1) ∧ F_M_join a1 a2 σ1 = some (r, σ2) ∧ Rel σ2
def St_back (Rel : GS → Prop) : Prop := ∀ σ : GS, Rel σ → ∀ a1 : Int32, ∃ (r : Int32) (σ1 : GS) (σ2 : GS), F_X_back a1 σ = some (r, σ1) ∧ F_M_back a1 σ1 = some (r, σ2) ∧ Rel σ2
def St_far (Rel : GS → Prop) : Prop := ∀ σ : GS, Rel σ → ∀ a1 a2 : Int32, ∃ (r : Int32) (σ1 : GS) (σ2 : GS), F_X_far a1 a2 σ = some (r, σ1) ∧ F_M_far a1 a2 σ1 = some (r, σ2) ∧ Rel σ2
def St_ends (Rel : GS → Prop) : Prop := ∀ σ : GS, Rel σ → ∀ a1 : Int32, ∃ (r : Int32) (σ1 : GS) (σ2 : GS), F_X_ends a1 σ = some (r, σ1) ∧ F_M_ends a1 σ1 = some (r, σ2) ∧ Rel σ2
def St_begins (Rel : GS → Prop) : Prop := ∀ σ : GS, Rel σ → ∀ a1 : Int32, ∃ (r : Int32) (σ1 : GS) (σ2 : GS), F_X_begins a1 σ = some (r, σ1) ∧ F_M_begins a1 σ1 = some (r, σ2) ∧ Rel σ2
def St_ways (Rel : GS → Prop) : Prop := ∀ σ : GS, Rel σ → ∀ a1 a2 : Int32, ∃ (r : Int32) (σ1 : GS) (σ2 : GS), F_X_ways a1 a2 σ = some (r, σ1) ∧ F_M_ways a1 a2 σ1 = some (r, σ2) ∧ Rel σ2
def St_between (Rel : GS → Prop) : Prop := ∀ σ : GS, Rel σ → ∀ a1 a2 : Int32, ∃ (r : Int32) (σ1 : GS) (σ2 : GS), F_X_between a1 a2 σ = some (r, σ1) ∧ F_M_between a1 a2 σ1 = some (r, σ2) ∧ Rel σ2
def St_lies (Rel : GS → Prop) : Prop := ∀ σ : GS, Rel σ → ∀ a1 a2 a3 : Int32, ∃ (r : Int32) (σ1 : GS) (σ2 : GS), F_X_lies a1 a2 a3 σ = some (r, σ1) ∧ F_M_lies a1 a2 a3 σ1 = some (r, σ2) ∧ Rel σ2
def St_path (Rel : GS → Prop) : Prop := ∀ σ : GS, Rel σ → ∀ a1 a2 a3 : Int32, ∃ (r : Int32) (σ1 : GS) (σ2 : GS), F_X_path a1 a2 a3 σ = some (r, σ1) ∧ F_M_path a1 a2 a3 σ1 = some (r, σ2) ∧ Rel σ2
def St_thin (Rel : GS → Prop) : Prop := ∀ σ : GS, Rel σ → ∀ a1 a2 a3 : Int32, ∃ (r : Int32) (σ1 : GS) (σ2 : GS), F_X_thin a1 a2 a3 σ = some (r, σ1) ∧ F_M_thin a1 a2 a3 σ1 = some (r, σ2) ∧ Rel σ2
def St_ring (Rel : GS → Prop) : Prop := ∀ σ : GS, Rel σ → ∀ a1 : Int32, ∃ (r : Int32) (σ1 : GS) (σ2 : GS), F_X_ring a1 σ = some (r, σ1) ∧ F_M_ring a1 σ1 = some (r, σ2) ∧ Rel σ2
def St_within (Rel : GS → Prop) : Prop := ∀ σ : GS, Rel σ → ∀ a1 : Int32, ∃ (r : Int32) (σ1 : GS) (σ2 : GS), F_X_within a1 σ = some (r, σ1) ∧ F_M_within a1 σ1 = some (r, σ2) ∧ Rel σ2
def St_edge (Rel : GS → Prop) : Prop := ∀ σ : GS, Rel σ → ∀ a1 : Int32, ∃ (r : Int32) (σ1 : GS) (σ2 : GS), F_X_edge a1 σ = some (r, σ1) ∧ F_M_edge a1 σ1 = some (r, σ2) ∧ Rel σ2
def St_beyond (Rel : GS → Prop) : Prop := ∀ σ : GS, Rel σ → ∀ a1 a2 : Int32, ∃ (r : Int32) (σ1 : GS) (σ2 : GS), F_X_beyond a1 a2 σ = some (r, σ1) ∧ F_M_beyond a1 a2 σ1 = some (r, σ2) ∧ Rel σ2
def St_houses (Rel : GS → Prop) : Prop := ∀ σ : GS, Rel σ → ∀ a1 : Int32, ∃ (r : Int32) (σ1 : GS) (σ2 : GS), F_X_houses a1 σ = some (r, σ1) ∧ F_M_houses a1 σ1 = some (r, σ2) ∧ Rel σ2
def St_walk (Rel : GS → Prop) : Prop := ∀ σ : GS, Rel σ → ∀ a1 : Int32, ∃ (r : Int32) (σ1 : GS) (σ2 : GS), F_X_walk a1 σ = some (r, σ1) ∧ F_M_walk a1 σ1 = some (r, σ2) ∧ Rel σ2
def St_reaches (Rel : GS → Prop) : Prop := ∀ σ : GS, Rel σ → ∀ a1 : Int32, ∃ (r : Int32) (σ1 : GS) (σ2 : GS), F_X_reaches a1 σ = some (r, σ1) ∧ F_M_reaches a1 σ1 = some (r, σ2) ∧ Rel σ2
def St_sees (Rel : GS → Prop) : Prop := ∀ σ : GS, Rel σ → ∀ a1 : Int32, ∃ (r : Int32) (σ1 : GS) (σ2 : GS), F_X_sees a1 σ = some (r, σ1) ∧ F_M_sees a1 σ1 = some (r, σ2) ∧ Rel σ2
def St_round (Rel : GS → Prop) : Prop := ∀ σ : GS, Rel σ → ∀ a1 a2 : Int32, ∃ (r : Int32) (σ1 : GS) (σ2 : GS), F_X_round a1 a2 σ = some (r, σ1) ∧ F_M_round a1 a2 σ1 = some (r, σ2) ∧ Rel σ2
def St_post (Rel : GS → Prop) : Prop := ∀ σ : GS, Rel σ → ∀ a1 : Int32, ∃ (r : Int32) (σ1 : GS) (σ2 : GS), F_X_post a1 σ = some (r, σ1) ∧ F_M_post a1 σ1 = some (r, σ2) ∧ Rel σ2
def St_burns (Rel : GS → Prop) : Prop := ∀ σ : GS, Rel σ → ∀ a1 a2 : Int32, ∃ (r : Int32) (σ1 : GS) (σ2 : GS), F_X_burns a1 a2 σ = some (r, σ1) ∧ F_M_burns a1 a2 σ1 = some (r, σ2) ∧ Rel σ2
def St_held (Rel : GS → Prop) : Prop := ∀ σ : GS, Rel σ → ∀ a1 : Int32, ∃ (r : Int32) (σ1 : GS) (σ2 : GS), F_X_held a1 σ = some (r, σ1) ∧ F_M_held a1 σ1 = some (r, σ2) ∧ Rel σ2
def St_idle (Rel : GS → Prop) : Prop := ∀ σ : GS, Rel σ → ∀ a1 : Int32, ∃ (r : Int32) (σ1 : GS) (σ2 : GS), F_X_idle a1 σ = some (r, σ1) ∧ F_M_idle a1 σ1 = some (r, σ2) ∧ Rel σ2
def St_meet (Rel : GS → Prop) : Prop := ∀ σ : GS, Rel σ → ∀ a1 a2 : Int32, ∃ (r : Int32) (σ1 : GS) (σ2 : GS), F_X_meet a1 a2 σ = some (r, σ1) ∧ F_M_meet a1 a2 σ1 = some (r, σ2) ∧ Rel σ2
def St_part (Rel : GS → Prop) : Prop := ∀ σ : GS, Rel σ → ∀ a1 a2 a3 : Int32, ∃ (r : Int32) (σ1 : GS) (σ2 : GS), F_X_part a1 a2 a3 σ = some (r, σ1) ∧ F_M_part a1 a2 a3 σ1 = some (r, σ2) ∧ Rel σ2
def St_drunk (Rel : GS → Prop) : Prop := ∀ σ : GS, Rel σ → ∀ a1 a2 : Int32, ∃ (r : Int32) (σ1 : GS) (σ2 : GS), F_X_drunk a1 a2 σ = some (r, σ1) ∧ F_M_drunk a1 a2 σ1 = some (r, σ2) ∧ Rel σ2
def St_asked (Rel : GS → Prop) : Prop := ∀ σ : GS, Rel σ → ∃ (r : Int32), F_X_asked  σ = some r ∧ F_M_asked  σ = some r ∧ Rel σ
def St_upper (Rel : GS → Prop) : Prop := ∀ σ : GS, Rel σ → ∃ (r : Int64), F_X_upper  σ = some r ∧ F_M_upper  σ = some r ∧ Rel σ
def St_lower (Rel : GS → Prop) : Prop := ∀ σ : GS, Rel σ → ∃ (r : Int64), F_X_lower  σ = some r ∧ F_M_lower  σ = some r ∧ Rel σ
def St_count (Rel : GS → Prop) : Prop := ∀ σ : GS, Rel σ → ∀ a1 : Int32, ∃ (r : Int32), F_X_count a1 σ = some r ∧ F_M_count a1 σ = some r ∧ Rel σ
def St_finding (Rel : GS → Prop) : Prop := ∀ σ : GS, Rel σ → ∃ (r : Int32), F_X_finding  σ = some r ∧ F_M_finding  σ = some r ∧ Rel σ
def St_findings (Rel : GS → Prop) : Prop := ∀ σ : GS, Rel σ → ∀ a1 : Int32, ∃ (r : Int32), F_X_findings a1 σ = some r ∧ F_M_findings a1 σ = some r ∧ Rel σ
def St_digest (Rel : GS → Prop) : Prop := ∀ σ : GS, Rel σ → ∃ (r : Int64) (σ1 : GS), F_X_digest  σ = some (r, σ1) ∧ F_M_digest  σ1 = some r ∧ Rel σ1
def AllSteps (Rel : GS → Prop) : Prop := St_row Rel ∧ (St_lay Rel ∧ (St_at Rel ∧ (St_tear Rel ∧ (St_copy Rel ∧ (St_mean Rel ∧ (St_text Rel ∧ (St_put Rel ∧ (St_fault Rel ∧ (St_town Rel ∧ (St_walker Rel ∧ (St_mark Rel ∧ (St_stand Rel ∧ (St_head Rel ∧ (St_hours Rel ∧ (St_undo Rel ∧ (St_keep Rel ∧ (St_on Rel ∧ (St_plain Rel ∧ (St_join Rel ∧ (St_back Rel ∧ (St_far Rel ∧ (St_ends Rel ∧ (St_begins Rel ∧ (St_ways Rel ∧ (St_between Rel ∧ (St_lies Rel ∧ (St_path Rel ∧ (St_thin Rel ∧ (St_ring Rel ∧ (St_within Rel ∧ (St_edge Rel ∧ (St_beyond Rel ∧ (St_houses Rel ∧ (St_walk Rel ∧ (St_reaches Rel ∧ (St_sees Rel ∧ (St_round Rel ∧ (St_post Rel ∧ (St_burns Rel ∧ (St_held Rel ∧ (St_idle Rel ∧ (St_meet Rel ∧ (St_part Rel ∧ (St_drunk Rel ∧ (St_asked Rel ∧ (St_upper Rel ∧ (St_lower Rel ∧ (St_count Rel ∧ (St_finding Rel ∧ (St_findings Rel ∧ (St_digest Rel)))))))))))))))))))))))))))))))))))))))))))))))))))
