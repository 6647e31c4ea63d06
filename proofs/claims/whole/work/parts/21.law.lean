/-! the law out of its operations: Inv k G: k calls are left, the heap is G -/
def Op_sign (Inv : Nat → zH → Prop) : Prop := ∀ (k : Nat) (G : zH) (x1 : Int32) , Inv (k + 1) G → ∃ (r : Int32) (G1 A : zH) (M : MS) (B : zH) (M1 : MS) (B1 : zH), fX6_sign G 0 x1 = some (r, G1) ∧ G1 = hG A M B ∧ A.length = 27 ∧ fX7_sign M x1 = some (r, M1) ∧ B1 = B ∧ Inv k (hG A M1 B1)
def Op_end (Inv : Nat → zH → Prop) : Prop := ∀ (k : Nat) (G : zH) (x1 : Int32) , Inv (k + 1) G → ∃ (r : Int32) (G1 A : zH) (M : MS) (B : zH) (M1 : MS) (B1 : zH), fX6_end G 0 x1 = some (r, G1) ∧ G1 = hG A M B ∧ A.length = 27 ∧ fX7_end M x1 = some (r, M1) ∧ B1 = B ∧ Inv k (hG A M1 B1)
def Op_opens (Inv : Nat → zH → Prop) : Prop := ∀ (k : Nat) (G : zH) (x1 : Int32) , Inv (k + 1) G → ∃ (r : Int32) (G1 A : zH) (M : MS) (B : zH) (M1 : MS) (B1 : zH), fX6_opens G 0 x1 = some (r, G1) ∧ G1 = hG A M B ∧ A.length = 27 ∧ fX7_opens A M B x1 = some (r, M1, B1) ∧ Inv k (hG A M1 B1)
def Op_inserts (Inv : Nat → zH → Prop) : Prop := ∀ (k : Nat) (G : zH) (x1 : Int32) , Inv (k + 1) G → ∃ (r : Int32) (G1 A : zH) (M : MS) (B : zH) (M1 : MS) (B1 : zH), fX6_inserts G 0 x1 = some (r, G1) ∧ G1 = hG A M B ∧ A.length = 27 ∧ fX7_inserts A M B x1 = some (r, M1, B1) ∧ Inv k (hG A M1 B1)
def Op_type (Inv : Nat → zH → Prop) : Prop := ∀ (k : Nat) (G : zH) (x1 x2 : Int32) , Inv (k + 1) G → ∃ (r : Int32) (G1 A : zH) (M : MS) (B : zH) (M1 : MS) (B1 : zH), fX6_type G 0 x1 x2 = some (r, G1) ∧ G1 = hG A M B ∧ A.length = 27 ∧ fX7_type A M B x1 x2 = some (r, M1, B1) ∧ Inv k (hG A M1 B1)
def Op_takes (Inv : Nat → zH → Prop) : Prop := ∀ (k : Nat) (G : zH) (x1 x2 : Int32) , Inv (k + 1) G → ∃ (r : Int32) (G1 A : zH) (M : MS) (B : zH) (M1 : MS) (B1 : zH), fX6_takes G 0 x1 x2 = some (r, G1) ∧ G1 = hG A M B ∧ A.length = 27 ∧ fX7_takes A M B x1 x2 = some (r, M1, B1) ∧ Inv k (hG A M1 B1)
def Op_puts (Inv : Nat → zH → Prop) : Prop := ∀ (k : Nat) (G : zH) (x1 x2 : Int32) , Inv (k + 1) G → ∃ (r : Int32) (G1 A : zH) (M : MS) (B : zH) (M1 : MS) (B1 : zH), fX6_puts G 0 x1 x2 = some (r, G1) ∧ G1 = hG A M B ∧ A.length = 27 ∧ fX7_puts A M B x1 x2 = some (r, M1, B1) ∧ Inv k (hG A M1 B1)
def Op_lays (Inv : Nat → zH → Prop) : Prop := ∀ (k : Nat) (G : zH) (x1 x2 x3 : Int32) , Inv (k + 1) G → ∃ (r : Int32) (G1 A : zH) (M : MS) (B : zH) (M1 : MS) (B1 : zH), fX6_lays G 0 x1 x2 x3 = some (r, G1) ∧ G1 = hG A M B ∧ A.length = 27 ∧ fX7_lays A M B x1 x2 x3 = some (r, M1, B1) ∧ Inv k (hG A M1 B1)
def Op_moves (Inv : Nat → zH → Prop) : Prop := ∀ (k : Nat) (G : zH) (x1 x2 x3 : Int32) , Inv (k + 1) G → ∃ (r : Int32) (G1 A : zH) (M : MS) (B : zH) (M1 : MS) (B1 : zH), fX6_moves G 0 x1 x2 x3 = some (r, G1) ∧ G1 = hG A M B ∧ A.length = 27 ∧ fX7_moves A M B x1 x2 x3 = some (r, M1, B1) ∧ Inv k (hG A M1 B1)
def Op_cuts (Inv : Nat → zH → Prop) : Prop := ∀ (k : Nat) (G : zH) (x1 : Int32) , Inv (k + 1) G → ∃ (r : Int32) (G1 A : zH) (M : MS) (B : zH) (M1 : MS) (B1 : zH), fX6_cuts G 0 x1 = some (r, G1) ∧ G1 = hG A M B ∧ A.length = 27 ∧ fX7_cuts A M B x1 = some (r, M1, B1) ∧ Inv k (hG A M1 B1)
def Op_indents (Inv : Nat → zH → Prop) : Prop := ∀ (k : Nat) (G : zH) (x1 x2 x3 : Int32) , Inv (k + 1) G → ∃ (r : Int32) (G1 A : zH) (M : MS) (B : zH) (M1 : MS) (B1 : zH), fX6_indents G 0 x1 x2 x3 = some (r, G1) ∧ G1 = hG A M B ∧ A.length = 27 ∧ fX7_indents A M B x1 x2 x3 = some (r, M1, B1) ∧ Inv k (hG A M1 B1)
def Op_heals (Inv : Nat → zH → Prop) : Prop := ∀ (k : Nat) (G : zH) , Inv (k + 1) G → ∃ (r : Int32) (G1 A : zH) (M : MS) (B : zH) (M1 : MS) (B1 : zH), fX6_heals G 0  = some (r, G1) ∧ G1 = hG A M B ∧ A.length = 27 ∧ fX7_heals A M B  = some (r, M1, B1) ∧ Inv k (hG A M1 B1)
def Op_marks (Inv : Nat → zH → Prop) : Prop := ∀ (k : Nat) (G : zH) (x1 x2 x3 : Int32) , Inv (k + 1) G → ∃ (r : Int32) (G1 A : zH) (M : MS) (B : zH) (M1 : MS) (B1 : zH), fX6_marks G 0 x1 x2 x3 = some (r, G1) ∧ G1 = hG A M B ∧ A.length = 27 ∧ fX7_marks M x1 x2 x3 = some (r, M1) ∧ B1 = B ∧ Inv k (hG A M1 B1)
def Op_day (Inv : Nat → zH → Prop) : Prop := ∀ (k : Nat) (G : zH) , Inv (k + 1) G → ∃ (r : Int32) (G1 A : zH) (M : MS) (B : zH) (M1 : MS) (B1 : zH), fX6_day G 0  = some (r, G1) ∧ G1 = hG A M B ∧ A.length = 27 ∧ fX7_day A M B  = some (r, M1, B1) ∧ Inv k (hG A M1 B1)
def Op_undo (Inv : Nat → zH → Prop) : Prop := ∀ (k : Nat) (G : zH) , Inv (k + 1) G → ∃ (r : Int32) (G1 A : zH) (M : MS) (B : zH) (M1 : MS) (B1 : zH), fX6_undo G 0  = some (r, G1) ∧ G1 = hG A M B ∧ A.length = 27 ∧ fX7_undo A M B  = some (r, M1, B1) ∧ Inv k (hG A M1 B1)
def Op_redo (Inv : Nat → zH → Prop) : Prop := ∀ (k : Nat) (G : zH) , Inv (k + 1) G → ∃ (r : Int32) (G1 A : zH) (M : MS) (B : zH) (M1 : MS) (B1 : zH), fX6_redo G 0  = some (r, G1) ∧ G1 = hG A M B ∧ A.length = 27 ∧ fX7_redo A M B  = some (r, M1, B1) ∧ Inv k (hG A M1 B1)
def Op_at (Inv : Nat → zH → Prop) : Prop := ∀ (k : Nat) (G : zH) (x1 : Int32) , Inv (k + 1) G → ∃ (r : Int32) (G1 A : zH) (M : MS) (B : zH) (M1 : MS) (B1 : zH), fX6_at G 0 x1 = some (r, G1) ∧ G1 = hG A M B ∧ A.length = 27 ∧ fX7_at M x1 = some (r, M1) ∧ B1 = B ∧ Inv k (hG A M1 B1)
def Op_reads (Inv : Nat → zH → Prop) : Prop := ∀ (k : Nat) (G : zH) (x1 x2 : Int32) , Inv (k + 1) G → ∃ (r : Int32) (G1 A : zH) (M : MS) (B : zH) (M1 : MS) (B1 : zH), fX6_reads G 0 x1 x2 = some (r, G1) ∧ G1 = hG A M B ∧ A.length = 27 ∧ fX7_reads M x1 x2 = some (r, M1) ∧ B1 = B ∧ Inv k (hG A M1 B1)
def Op_line (Inv : Nat → zH → Prop) : Prop := ∀ (k : Nat) (G : zH) (x1 : Int32) , Inv (k + 1) G → ∃ (r : Int32) (G1 A : zH) (M : MS) (B : zH) (M1 : MS) (B1 : zH), fX6_line G 0 x1 = some (r, G1) ∧ G1 = hG A M B ∧ A.length = 27 ∧ fX7_line M x1 = some (r, M1) ∧ B1 = B ∧ Inv k (hG A M1 B1)
def Op_starts (Inv : Nat → zH → Prop) : Prop := ∀ (k : Nat) (G : zH) (x1 : Int32) , Inv (k + 1) G → ∃ (r : Int32) (G1 A : zH) (M : MS) (B : zH) (M1 : MS) (B1 : zH), fX6_starts G 0 x1 = some (r, G1) ∧ G1 = hG A M B ∧ A.length = 27 ∧ fX7_starts M x1 = some (r, M1) ∧ B1 = B ∧ Inv k (hG A M1 B1)
def Op_place (Inv : Nat → zH → Prop) : Prop := ∀ (k : Nat) (G : zH) (x1 x2 : Int32) , Inv (k + 1) G → ∃ (r : Int32) (G1 A : zH) (M : MS) (B : zH) (M1 : MS) (B1 : zH), fX6_place G 0 x1 x2 = some (r, G1) ∧ G1 = hG A M B ∧ A.length = 27 ∧ fX7_place M x1 x2 = some (r, M1) ∧ B1 = B ∧ Inv k (hG A M1 B1)
def Op_longest (Inv : Nat → zH → Prop) : Prop := ∀ (k : Nat) (G : zH) , Inv (k + 1) G → ∃ (r : Int32) (G1 A : zH) (M : MS) (B : zH) (M1 : MS) (B1 : zH), fX6_longest G 0  = some (r, G1) ∧ G1 = hG A M B ∧ A.length = 27 ∧ fX7_longest M  = some (r, M1) ∧ B1 = B ∧ Inv k (hG A M1 B1)
def Op_mark (Inv : Nat → zH → Prop) : Prop := ∀ (k : Nat) (G : zH) (x1 : Int32) , Inv (k + 1) G → ∃ (r : Int32) (G1 A : zH) (M : MS) (B : zH) (M1 : MS) (B1 : zH), fX6_mark G 0 x1 = some (r, G1) ∧ G1 = hG A M B ∧ A.length = 27 ∧ fX7_mark M x1 = some (r, M1) ∧ B1 = B ∧ Inv k (hG A M1 B1)
def Op_between (Inv : Nat → zH → Prop) : Prop := ∀ (k : Nat) (G : zH) (x1 x2 : Int32) , Inv (k + 1) G → ∃ (r : Int32) (G1 A : zH) (M : MS) (B : zH) (M1 : MS) (B1 : zH), fX6_between G 0 x1 x2 = some (r, G1) ∧ G1 = hG A M B ∧ A.length = 27 ∧ fX7_between M x1 x2 = some (r, M1) ∧ B1 = B ∧ Inv k (hG A M1 B1)
def Op_shows (Inv : Nat → zH → Prop) : Prop := ∀ (k : Nat) (G : zH) (x1 : Int32) , Inv (k + 1) G → ∃ (r : Int32) (G1 A : zH) (M : MS) (B : zH) (M1 : MS) (B1 : zH), fX6_shows G 0 x1 = some (r, G1) ∧ G1 = hG A M B ∧ A.length = 27 ∧ fX7_shows M x1 = some (r, M1) ∧ B1 = B ∧ Inv k (hG A M1 B1)
def Op_from (Inv : Nat → zH → Prop) : Prop := ∀ (k : Nat) (G : zH) (x1 x2 : Int32) , Inv (k + 1) G → ∃ (r : Int32) (G1 A : zH) (M : MS) (B : zH) (M1 : MS) (B1 : zH), fX6_from G 0 x1 x2 = some (r, G1) ∧ G1 = hG A M B ∧ A.length = 27 ∧ fX7_from M x1 x2 = some (r, M1) ∧ B1 = B ∧ Inv k (hG A M1 B1)
def Op_lost (Inv : Nat → zH → Prop) : Prop := ∀ (k : Nat) (G : zH) (x1 : Int32) , Inv (k + 1) G → ∃ (r : Int32) (G1 A : zH) (M : MS) (B : zH) (M1 : MS) (B1 : zH), fX6_lost G 0 x1 = some (r, G1) ∧ G1 = hG A M B ∧ A.length = 27 ∧ fX7_lost M x1 = some (r, M1) ∧ B1 = B ∧ Inv k (hG A M1 B1)
def Op_healable (Inv : Nat → zH → Prop) : Prop := ∀ (k : Nat) (G : zH) , Inv (k + 1) G → ∃ (r : Int32) (G1 A : zH) (M : MS) (B : zH) (M1 : MS) (B1 : zH), fX6_healable G 0  = some (r, G1) ∧ G1 = hG A M B ∧ A.length = 27 ∧ fX7_healable M  = some (r, M1) ∧ B1 = B ∧ Inv k (hG A M1 B1)
def Op_finds (Inv : Nat → zH → Prop) : Prop := ∀ (k : Nat) (G : zH) (x1 : Int32) , Inv (k + 1) G → ∃ (r : Int32) (G1 A : zH) (M : MS) (B : zH) (M1 : MS) (B1 : zH), fX6_finds G 0 x1 = some (r, G1) ∧ G1 = hG A M B ∧ A.length = 27 ∧ fX7_finds M x1 = some (r, M1) ∧ B1 = B ∧ Inv k (hG A M1 B1)
def Op_last (Inv : Nat → zH → Prop) : Prop := ∀ (k : Nat) (G : zH) (x1 : Int32) , Inv (k + 1) G → ∃ (r : Int32) (G1 A : zH) (M : MS) (B : zH) (M1 : MS) (B1 : zH), fX6_last G 0 x1 = some (r, G1) ∧ G1 = hG A M B ∧ A.length = 27 ∧ fX7_last M x1 = some (r, M1) ∧ B1 = B ∧ Inv k (hG A M1 B1)
def Op_many (Inv : Nat → zH → Prop) : Prop := ∀ (k : Nat) (G : zH) , Inv (k + 1) G → ∃ (r : Int32) (G1 A : zH) (M : MS) (B : zH) (M1 : MS) (B1 : zH), fX6_many G 0  = some (r, G1) ∧ G1 = hG A M B ∧ A.length = 27 ∧ fX7_many M  = some (r, M1) ∧ B1 = B ∧ Inv k (hG A M1 B1)
def Op_fits (Inv : Nat → zH → Prop) : Prop := ∀ (k : Nat) (G : zH) (x1 : Int32) , Inv (k + 1) G → ∃ (r : Int32) (G1 A : zH) (M : MS) (B : zH) (M1 : MS) (B1 : zH), fX6_fits G 0 x1 = some (r, G1) ∧ G1 = hG A M B ∧ A.length = 27 ∧ fX7_fits M x1 = some (r, M1) ∧ B1 = B ∧ Inv k (hG A M1 B1)
def Op_folds (Inv : Nat → zH → Prop) : Prop := ∀ (k : Nat) (G : zH) (x1 : Int32) , Inv (k + 1) G → ∃ (r : Int32) (G1 A : zH) (M : MS) (B : zH) (M1 : MS) (B1 : zH), fX6_folds G 0 x1 = some (r, G1) ∧ G1 = hG A M B ∧ A.length = 27 ∧ fX7_folds M x1 = some (r, M1) ∧ B1 = B ∧ Inv k (hG A M1 B1)
def Op_pair (Inv : Nat → zH → Prop) : Prop := ∀ (k : Nat) (G : zH) (x1 : Int32) , Inv (k + 1) G → ∃ (r : Int32) (G1 A : zH) (M : MS) (B : zH) (M1 : MS) (B1 : zH), fX6_pair G 0 x1 = some (r, G1) ∧ G1 = hG A M B ∧ A.length = 27 ∧ fX7_pair M x1 = some (r, M1) ∧ B1 = B ∧ Inv k (hG A M1 B1)
def Op_nested (Inv : Nat → zH → Prop) : Prop := ∀ (k : Nat) (G : zH) , Inv (k + 1) G → ∃ (r : Int32) (G1 A : zH) (M : MS) (B : zH) (M1 : MS) (B1 : zH), fX6_nested G 0  = some (r, G1) ∧ G1 = hG A M B ∧ A.length = 27 ∧ fX7_nested M  = some (r, M1) ∧ B1 = B ∧ Inv k (hG A M1 B1)
def Op_before (Inv : Nat → zH → Prop) : Prop := ∀ (k : Nat) (G : zH) (x1 : Int32) , Inv (k + 1) G → ∃ (r : Int32) (G1 A : zH) (M : MS) (B : zH) (M1 : MS) (B1 : zH), fX6_before G 0 x1 = some (r, G1) ∧ G1 = hG A M B ∧ A.length = 27 ∧ fX7_before M x1 = some (r, M1) ∧ B1 = B ∧ Inv k (hG A M1 B1)
def Op_word (Inv : Nat → zH → Prop) : Prop := ∀ (k : Nat) (G : zH) (x1 : Int32) , Inv (k + 1) G → ∃ (r : Int32) (G1 A : zH) (M : MS) (B : zH) (M1 : MS) (B1 : zH), fX6_word G 0 x1 = some (r, G1) ∧ G1 = hG A M B ∧ A.length = 27 ∧ fX7_word M x1 = some (r, M1) ∧ B1 = B ∧ Inv k (hG A M1 B1)
def Op_words (Inv : Nat → zH → Prop) : Prop := ∀ (k : Nat) (G : zH) , Inv (k + 1) G → ∃ (r : Int32) (G1 A : zH) (M : MS) (B : zH) (M1 : MS) (B1 : zH), fX6_words G 0  = some (r, G1) ∧ G1 = hG A M B ∧ A.length = 27 ∧ fX7_words M  = some (r, M1) ∧ B1 = B ∧ Inv k (hG A M1 B1)
def Op_rows (Inv : Nat → zH → Prop) : Prop := ∀ (k : Nat) (G : zH) (x1 : Int32) , Inv (k + 1) G → ∃ (r : Int32) (G1 A : zH) (M : MS) (B : zH) (M1 : MS) (B1 : zH), fX6_rows G 0 x1 = some (r, G1) ∧ G1 = hG A M B ∧ A.length = 27 ∧ fX7_rows M x1 = some (r, M1) ∧ B1 = B ∧ Inv k (hG A M1 B1)
def Op_tally (Inv : Nat → zH → Prop) : Prop := ∀ (k : Nat) (G : zH) (x1 : Int32) , Inv (k + 1) G → ∃ (r : Int32) (G1 A : zH) (M : MS) (B : zH) (M1 : MS) (B1 : zH), fX6_tally G 0 x1 = some (r, G1) ∧ G1 = hG A M B ∧ A.length = 27 ∧ fX7_tally M x1 = some (r, M1) ∧ B1 = B ∧ Inv k (hG A M1 B1)
def Op_alike (Inv : Nat → zH → Prop) : Prop := ∀ (k : Nat) (G : zH) (x1 x2 : Int32) , Inv (k + 1) G → ∃ (r : Int32) (G1 A : zH) (M : MS) (B : zH) (M1 : MS) (B1 : zH), fX6_alike G 0 x1 x2 = some (r, G1) ∧ G1 = hG A M B ∧ A.length = 27 ∧ fX7_alike M x1 x2 = some (r, M1) ∧ B1 = B ∧ Inv k (hG A M1 B1)
def Op_sum (Inv : Nat → zH → Prop) : Prop := ∀ (k : Nat) (G : zH) (x1 x2 : Int32) , Inv (k + 1) G → ∃ (r : Int32) (G1 A : zH) (M : MS) (B : zH) (M1 : MS) (B1 : zH), fX6_sum G 0 x1 x2 = some (r, G1) ∧ G1 = hG A M B ∧ A.length = 27 ∧ fX7_sum M x1 x2 = some (r, M1) ∧ B1 = B ∧ Inv k (hG A M1 B1)
def Op_differs (Inv : Nat → zH → Prop) : Prop := ∀ (k : Nat) (G : zH) (x1 : Int32) , Inv (k + 1) G → ∃ (r : Int32) (G1 A : zH) (M : MS) (B : zH) (M1 : MS) (B1 : zH), fX6_differs G 0 x1 = some (r, G1) ∧ G1 = hG A M B ∧ A.length = 27 ∧ fX7_differs A M B x1 = some (r, M1, B1) ∧ Inv k (hG A M1 B1)
def Op_years (Inv : Nat → zH → Prop) : Prop := ∀ (k : Nat) (G : zH) (x1 x2 : Int32) , Inv (k + 1) G → ∃ (r : Int32) (G1 A : zH) (M : MS) (B : zH) (M1 : MS) (B1 : zH), fX6_years G 0 x1 x2 = some (r, G1) ∧ G1 = hG A M B ∧ A.length = 27 ∧ fX7_years A M B x1 x2 = some (r, M1, B1) ∧ Inv k (hG A M1 B1)
def Op_keep (Inv : Nat → zH → Prop) : Prop := ∀ (k : Nat) (G : zH) (x1 : Int32) , Inv (k + 1) G → ∃ (r : Int32) (G1 A : zH) (M : MS) (B : zH) (M1 : MS) (B1 : zH), fX6_keep G 0 x1 = some (r, G1) ∧ G1 = hG A M B ∧ A.length = 27 ∧ fX7_keep A M B x1 = some (r, M1, B1) ∧ Inv k (hG A M1 B1)
def Op_again (Inv : Nat → zH → Prop) : Prop := ∀ (k : Nat) (G : zH) (x1 : Int32) , Inv (k + 1) G → ∃ (r : Int32) (G1 A : zH) (M : MS) (B : zH) (M1 : MS) (B1 : zH), fX6_again G 0 x1 = some (r, G1) ∧ G1 = hG A M B ∧ A.length = 27 ∧ fX7_again A M B x1 = some (r, M1, B1) ∧ Inv k (hG A M1 B1)
def Op_count (Inv : Nat → zH → Prop) : Prop := ∀ (k : Nat) (G : zH) (x1 : Int32) , Inv (k + 1) G → ∃ (r : Int32) (G1 A : zH) (M : MS) (B : zH) (M1 : MS) (B1 : zH), fX6_count G 0 x1 = some (r, G1) ∧ G1 = hG A M B ∧ A.length = 27 ∧ fX7_count M x1 = some (r, M1) ∧ B1 = B ∧ Inv k (hG A M1 B1)
/-- store: the class answers and so does the reference, or the class throws (its heap is G1 there, and O stand for what the throw made), and the reference tells it -/
def Op_store (Inv : Nat → zH → Prop) : Prop := ∀ (k : Nat) (G : zH) (x1 x2 : Int32) , Inv (k + 1) G →
  (∃ (r : Int32) (G1 G2 A : zH) (M : MS) (B : zH) (M1 : MS), fX6_store G 0 x1 x2 = some (r, G1) ∧ jW G1 49 0 r.toInt64 = some G2 ∧ G2 = hG A M B ∧ A.length = 27 ∧ fX7_store M x1 x2 = some (r, M1) ∧ fX7_thrown M1 = some 0 ∧ jR (hG A M1 B) 49 0 = some r.toInt64 ∧ Inv k (hG A M1 B)) ∨
  (∃ (G1 : zH), tX6_store G 0 x1 x2 = some G1 ∧ G1.length + 1 ≤ zGL ∧ zs G1 + 6 ≤ zKL ∧ ∀ O : zH, O.length ≤ 1 → zs O ≤ 6 → (∀ e ∈ O, zvis e = false) → ∃ (r : Int32) (A : zH) (M : MS) (B : zH) (M1 : MS), G1 ++ O = hG A M B ∧ A.length = 27 ∧ fX7_store M x1 x2 = some (r, M1) ∧ fX7_thrown M1 = some 1 ∧ Inv k (hG A M1 B))
/-- piece: the class answers and so does the reference, or the class throws (its heap is G1 there, and O stand for what the throw made), and the reference tells it -/
def Op_piece (Inv : Nat → zH → Prop) : Prop := ∀ (k : Nat) (G : zH) (x1 x2 : Int32) , Inv (k + 1) G →
  (∃ (r : Int32) (G1 G2 A : zH) (M : MS) (B : zH) (M1 : MS), fX6_piece G 0 x1 x2 = some (r, G1) ∧ jW G1 49 0 r.toInt64 = some G2 ∧ G2 = hG A M B ∧ A.length = 27 ∧ fX7_piece M x1 x2 = some (r, M1) ∧ fX7_thrown M1 = some 0 ∧ jR (hG A M1 B) 49 0 = some r.toInt64 ∧ Inv k (hG A M1 B)) ∨
  (∃ (G1 : zH), tX6_piece G 0 x1 x2 = some G1 ∧ G1.length + 1 ≤ zGL ∧ zs G1 + 6 ≤ zKL ∧ ∀ O : zH, O.length ≤ 1 → zs O ≤ 6 → (∀ e ∈ O, zvis e = false) → ∃ (r : Int32) (A : zH) (M : MS) (B : zH) (M1 : MS), G1 ++ O = hG A M B ∧ A.length = 27 ∧ fX7_piece M x1 x2 = some (r, M1) ∧ fX7_thrown M1 = some 1 ∧ Inv k (hG A M1 B))
/-- row: the class answers and so does the reference, or the class throws (its heap is G1 there, and O stand for what the throw made), and the reference tells it -/
def Op_row (Inv : Nat → zH → Prop) : Prop := ∀ (k : Nat) (G : zH) (x1 : Int32) , Inv (k + 1) G →
  (∃ (r : Int64) (G1 G2 A : zH) (M : MS) (B : zH) (M1 : MS), fX6_row G 0 x1 = some r ∧ G1 = G ∧ jW G1 49 0 r = some G2 ∧ G2 = hG A M B ∧ A.length = 27 ∧ fX7_row M x1 = some (r, M1) ∧ fX7_thrown M1 = some 0 ∧ jR (hG A M1 B) 49 0 = some r ∧ Inv k (hG A M1 B)) ∨
  (∃ (G1 : zH), tX6_row G 0 x1 = some G1 ∧ G1.length + 1 ≤ zGL ∧ zs G1 + 6 ≤ zKL ∧ ∀ O : zH, O.length ≤ 1 → zs O ≤ 6 → (∀ e ∈ O, zvis e = false) → ∃ (r : Int64) (A : zH) (M : MS) (B : zH) (M1 : MS), G1 ++ O = hG A M B ∧ A.length = 27 ∧ fX7_row M x1 = some (r, M1) ∧ fX7_thrown M1 = some 1 ∧ Inv k (hG A M1 B))
def Ops (Inv : Nat → zH → Prop) : Prop := Op_sign Inv ∧ Op_end Inv ∧ Op_opens Inv ∧ Op_store Inv ∧ Op_inserts Inv ∧ Op_type Inv ∧ Op_takes Inv ∧ Op_puts Inv ∧ Op_lays Inv ∧ Op_moves Inv ∧ Op_cuts Inv ∧ Op_indents Inv ∧ Op_heals Inv ∧ Op_marks Inv ∧ Op_day Inv ∧ Op_undo Inv ∧ Op_redo Inv ∧ Op_at Inv ∧ Op_reads Inv ∧ Op_line Inv ∧ Op_starts Inv ∧ Op_place Inv ∧ Op_longest Inv ∧ Op_mark Inv ∧ Op_between Inv ∧ Op_piece Inv ∧ Op_shows Inv ∧ Op_from Inv ∧ Op_lost Inv ∧ Op_healable Inv ∧ Op_finds Inv ∧ Op_last Inv ∧ Op_many Inv ∧ Op_fits Inv ∧ Op_folds Inv ∧ Op_pair Inv ∧ Op_nested Inv ∧ Op_before Inv ∧ Op_word Inv ∧ Op_words Inv ∧ Op_rows Inv ∧ Op_tally Inv ∧ Op_alike Inv ∧ Op_sum Inv ∧ Op_differs Inv ∧ Op_years Inv ∧ Op_keep Inv ∧ Op_again Inv ∧ Op_count Inv ∧ Op_row Inv
section YTop
variable {X : zX} {b0 : Nat} {pc : Nat} {lv : List (Nat × Value)} {st : List Value} {G : zH}
theorem y_topr {v x : Nat} (h : v = x) (kk : yZ X b0 pc lv (.ref v :: st) G) : yZ X b0 pc lv (.ref x :: st) G := h ▸ kk
theorem y_hp {G' : zH} (h : G' = G) (kk : yZ X b0 pc lv st G') : yZ X b0 pc lv st G := h ▸ kk
end YTop
/-- what the wrappers do (a method of the law's own that catches): with the values av over G it answers r, and the heap is as post says -/
def WrapOK (X : zX) (b0 : Nat) (Inv : Nat → zH → Prop) : Prop := True
abbrev LV (i : Int32) : List (Nat × Value) := [(1, .ref 0), (2, .ref 27), (3, .ref 49), (4, .int i)]
abbrev LC (X : zX) : Prop := zOK X cL_law RL 8 (some .boolean) 11 428
set_option maxRecDepth 100000 in
set_option maxHeartbeats 40000000 in
theorem law_body {X : zX} {b0 L : Nat} {xs : Nat → Int32} {Inv : Nat → zH → Prop} (C : LC X) (hX : va_X b0 L xs X.1.2.2.2.2 X.1.2.2.2.2.heap) (hbl : b0 < X.1.2.2.2.2.heap.size) (hbA : b0 < X.2.2.1.2.2.1) (hobj : ∀ k G, Inv k G → ∃ fs, G[0]? = some (.inr (6, fs))) (hmono : ∀ k G, Inv (k + 1) G → Inv k G) (ops : Ops Inv) (h_store : ∀ (k : Nat) (G : zH) (i : Int32), Inv (k + 1) G → vp_in i L → vp_in (i + 1) L → vp_in (i + 2) L → vp_in (i + 3) L → (∀ G', Inv k G' → yZ X b0 1726 (LV i) [] G') → yZ X b0 327 (LV i) [] G) (h_piece : ∀ (k : Nat) (G : zH) (i : Int32), Inv (k + 1) G → vp_in i L → vp_in (i + 1) L → vp_in (i + 2) L → vp_in (i + 3) L → (∀ G', Inv k G' → yZ X b0 1726 (LV i) [] G') → yZ X b0 1028 (LV i) [] G) (h_row : ∀ (k : Nat) (G : zH) (i : Int32), Inv (k + 1) G → vp_in i L → vp_in (i + 1) L → vp_in (i + 2) L → vp_in (i + 3) L → (∀ G', Inv k G' → yZ X b0 1726 (LV i) [] G') → yZ X b0 1671 (LV i) [] G) (k : Nat) (G : zH) (i : Int32) (hI : Inv (k + 1) G) (v0 : vp_in i L) (v1 : vp_in (i + 1) L) (v2 : vp_in (i + 2) L) (v3 : vp_in (i + 3) L) (hn : ∀ G', Inv k G' → yZ X b0 1726 (LV i) [] G') : yZ X b0 32 (LV i) [] G := by
  obtain ⟨o_sign, o_end, o_opens, o_store, o_inserts, o_type, o_takes, o_puts, o_lays, o_moves, o_cuts, o_indents, o_heals, o_marks, o_day, o_undo, o_redo, o_at, o_reads, o_line, o_starts, o_place, o_longest, o_mark, o_between, o_piece, o_shows, o_from, o_lost, o_healable, o_finds, o_last, o_many, o_fits, o_folds, o_pair, o_nested, o_before, o_word, o_words, o_rows, o_tally, o_alike, o_sum, o_differs, o_years, o_keep, o_again, o_count, o_row⟩ := ops
  obtain ⟨fo, ho⟩ := hobj _ _ hI
  refine y_sget0 (pc := 32) (j := 3) C hX hbl hbA rfl v0 rfl dL_law_32 dL_law_33 dL_law_35 ?_
  refine y_bipush (pc := 36) C dL_law_36 (v := (63 : Int32)) (by decide) ?_
  refine y_iand (pc := 38) C dL_law_38 ?_
  generalize hx : xs i.toNatClampNeg &&& (63 : Int32) = x
  by_cases c0 : x = (0 : Int32)
  · refine y_tableIn (pc := 39) (tgt := 252) (off := 213) C dL_law_39 (by rw [c0]; decide) (by rw [c0]; decide) (by rw [c0]; decide) (by decide) ?_
    obtain ⟨r, G1, A, M, B, M1, B1, e1, rfl, hA, e2, rfl, hI2⟩ := o_sign k G (xs (i + 1).toNatClampNeg) hI
    refine y_aload_n (pc := 252) C 0 dL_law_252 rfl rfl ?_
    refine y_sget (pc := 253) (j := 3) (k := 1) C hX hbl hbA rfl (by decide) v1 rfl dL_law_253 dL_law_254 dL_law_256 dL_law_257 dL_law_258 ?_
    refine y_callVi (pc := 259) (h := 0) (As := [.int (xs (i + 1).toNatClampNeg)]) (rest := []) C dL_law_259 ml_L_26 (kX6_sign _ _ _ _ G 0 (xs (i + 1).toNatClampNeg) (r, hG A M B1) e1) ho rfl rfl rfl (Nat.le_of_ble_eq_true rfl) (by decide) ?_
    refine y_aload_n (pc := 262) C 1 dL_law_262 rfl rfl (y_topr hA ?_)
    refine y_sget (pc := 263) (j := 3) (k := 1) C hX hbl hbA rfl (by decide) v1 rfl dL_law_263 dL_law_264 dL_law_266 dL_law_267 dL_law_268 ?_
    refine y_callVi (pc := 269) (h := A.length) (As := [.int (xs (i + 1).toNatClampNeg)]) (rest := [.int r]) C dL_law_269 ml_L_30 (kX7_sign _ _ _ _ A M B1 (xs (i + 1).toNatClampNeg) (r, M1) e2) (hM_o A M B1) rfl rfl rfl (Nat.le_of_ble_eq_true rfl) (by decide) ?_
    refine y_ic_eq (pc := 272) C dL_law_272 (tgt := 1726) (by decide) (fun _ => ?_) (fun q => absurd rfl q)
    exact hn _ hI2
  by_cases c1 : x = (1 : Int32)
  · refine y_tableIn (pc := 39) (tgt := 277) (off := 238) C dL_law_39 (by rw [c1]; decide) (by rw [c1]; decide) (by rw [c1]; decide) (by decide) ?_
    obtain ⟨r, G1, A, M, B, M1, B1, e1, rfl, hA, e2, rfl, hI2⟩ := o_end k G (xs (i + 1).toNatClampNeg) hI
    refine y_aload_n (pc := 277) C 0 dL_law_277 rfl rfl ?_
    refine y_sget (pc := 278) (j := 3) (k := 1) C hX hbl hbA rfl (by decide) v1 rfl dL_law_278 dL_law_279 dL_law_281 dL_law_282 dL_law_283 ?_
    refine y_callVi (pc := 284) (h := 0) (As := [.int (xs (i + 1).toNatClampNeg)]) (rest := []) C dL_law_284 ml_L_31 (kX6_end _ _ _ _ G 0 (xs (i + 1).toNatClampNeg) (r, hG A M B1) e1) ho rfl rfl rfl (Nat.le_of_ble_eq_true rfl) (by decide) ?_
    refine y_aload_n (pc := 287) C 1 dL_law_287 rfl rfl (y_topr hA ?_)
    refine y_sget (pc := 288) (j := 3) (k := 1) C hX hbl hbA rfl (by decide) v1 rfl dL_law_288 dL_law_289 dL_law_291 dL_law_292 dL_law_293 ?_
    refine y_callVi (pc := 294) (h := A.length) (As := [.int (xs (i + 1).toNatClampNeg)]) (rest := [.int r]) C dL_law_294 ml_L_35 (kX7_end _ _ _ _ A M B1 (xs (i + 1).toNatClampNeg) (r, M1) e2) (hM_o A M B1) rfl rfl rfl (Nat.le_of_ble_eq_true rfl) (by decide) ?_
    refine y_ic_eq (pc := 297) C dL_law_297 (tgt := 1726) (by decide) (fun _ => ?_) (fun q => absurd rfl q)
    exact hn _ hI2
  by_cases c2 : x = (2 : Int32)
  · refine y_tableIn (pc := 39) (tgt := 302) (off := 263) C dL_law_39 (by rw [c2]; decide) (by rw [c2]; decide) (by rw [c2]; decide) (by decide) ?_
    obtain ⟨r, G1, A, M, B, M1, B1, e1, rfl, hA, e2, hI2⟩ := o_opens k G (xs (i + 1).toNatClampNeg) hI
    refine y_aload_n (pc := 302) C 0 dL_law_302 rfl rfl ?_
    refine y_sget (pc := 303) (j := 3) (k := 1) C hX hbl hbA rfl (by decide) v1 rfl dL_law_303 dL_law_304 dL_law_306 dL_law_307 dL_law_308 ?_
    refine y_callVi (pc := 309) (h := 0) (As := [.int (xs (i + 1).toNatClampNeg)]) (rest := []) C dL_law_309 ml_L_36 (kX6_opens _ _ _ _ G 0 (xs (i + 1).toNatClampNeg) (r, hG A M B) e1) ho rfl rfl rfl (Nat.le_of_ble_eq_true rfl) (by decide) ?_
    refine y_aload_n (pc := 312) C 1 dL_law_312 rfl rfl (y_topr hA ?_)
    refine y_sget (pc := 313) (j := 3) (k := 1) C hX hbl hbA rfl (by decide) v1 rfl dL_law_313 dL_law_314 dL_law_316 dL_law_317 dL_law_318 ?_
    refine y_callVi (pc := 319) (h := A.length) (As := [.int (xs (i + 1).toNatClampNeg)]) (rest := [.int r]) C dL_law_319 ml_L_39 (kX7_opens _ _ _ _ A M B (xs (i + 1).toNatClampNeg) (r, M1, B1) e2) (hM_o A M B) rfl rfl rfl (Nat.le_of_ble_eq_true rfl) (by decide) ?_
    refine y_ic_eq (pc := 322) C dL_law_322 (tgt := 1726) (by decide) (fun _ => ?_) (fun q => absurd rfl q)
    exact hn _ hI2
  by_cases c3 : x = (3 : Int32)
  · refine y_tableIn (pc := 39) (tgt := 327) (off := 288) C dL_law_39 (by rw [c3]; decide) (by rw [c3]; decide) (by rw [c3]; decide) (by decide) ?_
    exact h_store k G i hI v0 v1 v2 v3 hn
  by_cases c4 : x = (4 : Int32)
  · refine y_tableIn (pc := 39) (tgt := 395) (off := 356) C dL_law_39 (by rw [c4]; decide) (by rw [c4]; decide) (by rw [c4]; decide) (by decide) ?_
    obtain ⟨r, G1, A, M, B, M1, B1, e1, rfl, hA, e2, hI2⟩ := o_inserts k G (xs (i + 1).toNatClampNeg) hI
    refine y_aload_n (pc := 395) C 0 dL_law_395 rfl rfl ?_
    refine y_sget (pc := 396) (j := 3) (k := 1) C hX hbl hbA rfl (by decide) v1 rfl dL_law_396 dL_law_397 dL_law_399 dL_law_400 dL_law_401 ?_
    refine y_callVi (pc := 402) (h := 0) (As := [.int (xs (i + 1).toNatClampNeg)]) (rest := []) C dL_law_402 ml_L_50 (kX6_inserts _ _ _ _ G 0 (xs (i + 1).toNatClampNeg) (r, hG A M B) e1) ho rfl rfl rfl (Nat.le_of_ble_eq_true rfl) (by decide) ?_
    refine y_aload_n (pc := 405) C 1 dL_law_405 rfl rfl (y_topr hA ?_)
    refine y_sget (pc := 406) (j := 3) (k := 1) C hX hbl hbA rfl (by decide) v1 rfl dL_law_406 dL_law_407 dL_law_409 dL_law_410 dL_law_411 ?_
    refine y_callVi (pc := 412) (h := A.length) (As := [.int (xs (i + 1).toNatClampNeg)]) (rest := [.int r]) C dL_law_412 ml_L_53 (kX7_inserts _ _ _ _ A M B (xs (i + 1).toNatClampNeg) (r, M1, B1) e2) (hM_o A M B) rfl rfl rfl (Nat.le_of_ble_eq_true rfl) (by decide) ?_
    refine y_ic_eq (pc := 415) C dL_law_415 (tgt := 1726) (by decide) (fun _ => ?_) (fun q => absurd rfl q)
    exact hn _ hI2
  by_cases c5 : x = (5 : Int32)
  · refine y_tableIn (pc := 39) (tgt := 420) (off := 381) C dL_law_39 (by rw [c5]; decide) (by rw [c5]; decide) (by rw [c5]; decide) (by decide) ?_
    obtain ⟨r, G1, A, M, B, M1, B1, e1, rfl, hA, e2, hI2⟩ := o_type k G (xs (i + 1).toNatClampNeg) (xs (i + 2).toNatClampNeg) hI
    refine y_aload_n (pc := 420) C 0 dL_law_420 rfl rfl ?_
    refine y_sget (pc := 421) (j := 3) (k := 1) C hX hbl hbA rfl (by decide) v1 rfl dL_law_421 dL_law_422 dL_law_424 dL_law_425 dL_law_426 ?_
    refine y_sget (pc := 427) (j := 3) (k := 2) C hX hbl hbA rfl (by decide) v2 rfl dL_law_427 dL_law_428 dL_law_430 dL_law_431 dL_law_432 ?_
    refine y_callVi (pc := 433) (h := 0) (As := [.int (xs (i + 1).toNatClampNeg), .int (xs (i + 2).toNatClampNeg)]) (rest := []) C dL_law_433 ml_L_54 (kX6_type _ _ _ _ G 0 (xs (i + 1).toNatClampNeg) (xs (i + 2).toNatClampNeg) (r, hG A M B) e1) ho rfl rfl rfl (Nat.le_of_ble_eq_true rfl) (by decide) ?_
    refine y_aload_n (pc := 436) C 1 dL_law_436 rfl rfl (y_topr hA ?_)
    refine y_sget (pc := 437) (j := 3) (k := 1) C hX hbl hbA rfl (by decide) v1 rfl dL_law_437 dL_law_438 dL_law_440 dL_law_441 dL_law_442 ?_
    refine y_sget (pc := 443) (j := 3) (k := 2) C hX hbl hbA rfl (by decide) v2 rfl dL_law_443 dL_law_444 dL_law_446 dL_law_447 dL_law_448 ?_
    refine y_callVi (pc := 449) (h := A.length) (As := [.int (xs (i + 1).toNatClampNeg), .int (xs (i + 2).toNatClampNeg)]) (rest := [.int r]) C dL_law_449 ml_L_57 (kX7_type _ _ _ _ A M B (xs (i + 1).toNatClampNeg) (xs (i + 2).toNatClampNeg) (r, M1, B1) e2) (hM_o A M B) rfl rfl rfl (Nat.le_of_ble_eq_true rfl) (by decide) ?_
    refine y_ic_eq (pc := 452) C dL_law_452 (tgt := 1726) (by decide) (fun _ => ?_) (fun q => absurd rfl q)
    exact hn _ hI2
  by_cases c6 : x = (6 : Int32)
  · refine y_tableIn (pc := 39) (tgt := 457) (off := 418) C dL_law_39 (by rw [c6]; decide) (by rw [c6]; decide) (by rw [c6]; decide) (by decide) ?_
    obtain ⟨r, G1, A, M, B, M1, B1, e1, rfl, hA, e2, hI2⟩ := o_takes k G (xs (i + 1).toNatClampNeg) (xs (i + 2).toNatClampNeg) hI
    refine y_aload_n (pc := 457) C 0 dL_law_457 rfl rfl ?_
    refine y_sget (pc := 458) (j := 3) (k := 1) C hX hbl hbA rfl (by decide) v1 rfl dL_law_458 dL_law_459 dL_law_461 dL_law_462 dL_law_463 ?_
    refine y_sget (pc := 464) (j := 3) (k := 2) C hX hbl hbA rfl (by decide) v2 rfl dL_law_464 dL_law_465 dL_law_467 dL_law_468 dL_law_469 ?_
    refine y_callVi (pc := 470) (h := 0) (As := [.int (xs (i + 1).toNatClampNeg), .int (xs (i + 2).toNatClampNeg)]) (rest := []) C dL_law_470 ml_L_58 (kX6_takes _ _ _ _ G 0 (xs (i + 1).toNatClampNeg) (xs (i + 2).toNatClampNeg) (r, hG A M B) e1) ho rfl rfl rfl (Nat.le_of_ble_eq_true rfl) (by decide) ?_
    refine y_aload_n (pc := 473) C 1 dL_law_473 rfl rfl (y_topr hA ?_)
    refine y_sget (pc := 474) (j := 3) (k := 1) C hX hbl hbA rfl (by decide) v1 rfl dL_law_474 dL_law_475 dL_law_477 dL_law_478 dL_law_479 ?_
    refine y_sget (pc := 480) (j := 3) (k := 2) C hX hbl hbA rfl (by decide) v2 rfl dL_law_480 dL_law_481 dL_law_483 dL_law_484 dL_law_485 ?_
    refine y_callVi (pc := 486) (h := A.length) (As := [.int (xs (i + 1).toNatClampNeg), .int (xs (i + 2).toNatClampNeg)]) (rest := [.int r]) C dL_law_486 ml_L_61 (kX7_takes _ _ _ _ A M B (xs (i + 1).toNatClampNeg) (xs (i + 2).toNatClampNeg) (r, M1, B1) e2) (hM_o A M B) rfl rfl rfl (Nat.le_of_ble_eq_true rfl) (by decide) ?_
    refine y_ic_eq (pc := 489) C dL_law_489 (tgt := 1726) (by decide) (fun _ => ?_) (fun q => absurd rfl q)
    exact hn _ hI2
  by_cases c7 : x = (7 : Int32)
  · refine y_tableIn (pc := 39) (tgt := 494) (off := 455) C dL_law_39 (by rw [c7]; decide) (by rw [c7]; decide) (by rw [c7]; decide) (by decide) ?_
    obtain ⟨r, G1, A, M, B, M1, B1, e1, rfl, hA, e2, hI2⟩ := o_puts k G (xs (i + 1).toNatClampNeg) (xs (i + 2).toNatClampNeg) hI
    refine y_aload_n (pc := 494) C 0 dL_law_494 rfl rfl ?_
    refine y_sget (pc := 495) (j := 3) (k := 1) C hX hbl hbA rfl (by decide) v1 rfl dL_law_495 dL_law_496 dL_law_498 dL_law_499 dL_law_500 ?_
    refine y_sget (pc := 501) (j := 3) (k := 2) C hX hbl hbA rfl (by decide) v2 rfl dL_law_501 dL_law_502 dL_law_504 dL_law_505 dL_law_506 ?_
    refine y_callVi (pc := 507) (h := 0) (As := [.int (xs (i + 1).toNatClampNeg), .int (xs (i + 2).toNatClampNeg)]) (rest := []) C dL_law_507 ml_L_62 (kX6_puts _ _ _ _ G 0 (xs (i + 1).toNatClampNeg) (xs (i + 2).toNatClampNeg) (r, hG A M B) e1) ho rfl rfl rfl (Nat.le_of_ble_eq_true rfl) (by decide) ?_
    refine y_aload_n (pc := 510) C 1 dL_law_510 rfl rfl (y_topr hA ?_)
    refine y_sget (pc := 511) (j := 3) (k := 1) C hX hbl hbA rfl (by decide) v1 rfl dL_law_511 dL_law_512 dL_law_514 dL_law_515 dL_law_516 ?_
    refine y_sget (pc := 517) (j := 3) (k := 2) C hX hbl hbA rfl (by decide) v2 rfl dL_law_517 dL_law_518 dL_law_520 dL_law_521 dL_law_522 ?_
    refine y_callVi (pc := 523) (h := A.length) (As := [.int (xs (i + 1).toNatClampNeg), .int (xs (i + 2).toNatClampNeg)]) (rest := [.int r]) C dL_law_523 ml_L_65 (kX7_puts _ _ _ _ A M B (xs (i + 1).toNatClampNeg) (xs (i + 2).toNatClampNeg) (r, M1, B1) e2) (hM_o A M B) rfl rfl rfl (Nat.le_of_ble_eq_true rfl) (by decide) ?_
    refine y_ic_eq (pc := 526) C dL_law_526 (tgt := 1726) (by decide) (fun _ => ?_) (fun q => absurd rfl q)
    exact hn _ hI2
  by_cases c8 : x = (8 : Int32)
  · refine y_tableIn (pc := 39) (tgt := 531) (off := 492) C dL_law_39 (by rw [c8]; decide) (by rw [c8]; decide) (by rw [c8]; decide) (by decide) ?_
    obtain ⟨r, G1, A, M, B, M1, B1, e1, rfl, hA, e2, hI2⟩ := o_lays k G (xs (i + 1).toNatClampNeg) (xs (i + 2).toNatClampNeg) (xs (i + 3).toNatClampNeg) hI
    refine y_aload_n (pc := 531) C 0 dL_law_531 rfl rfl ?_
    refine y_sget (pc := 532) (j := 3) (k := 1) C hX hbl hbA rfl (by decide) v1 rfl dL_law_532 dL_law_533 dL_law_535 dL_law_536 dL_law_537 ?_
    refine y_sget (pc := 538) (j := 3) (k := 2) C hX hbl hbA rfl (by decide) v2 rfl dL_law_538 dL_law_539 dL_law_541 dL_law_542 dL_law_543 ?_
    refine y_sget (pc := 544) (j := 3) (k := 3) C hX hbl hbA rfl (by decide) v3 rfl dL_law_544 dL_law_545 dL_law_547 dL_law_548 dL_law_549 ?_
    refine y_callVi (pc := 550) (h := 0) (As := [.int (xs (i + 1).toNatClampNeg), .int (xs (i + 2).toNatClampNeg), .int (xs (i + 3).toNatClampNeg)]) (rest := []) C dL_law_550 ml_L_66 (kX6_lays _ _ _ _ G 0 (xs (i + 1).toNatClampNeg) (xs (i + 2).toNatClampNeg) (xs (i + 3).toNatClampNeg) (r, hG A M B) e1) ho rfl rfl rfl (Nat.le_of_ble_eq_true rfl) (by decide) ?_
    refine y_aload_n (pc := 553) C 1 dL_law_553 rfl rfl (y_topr hA ?_)
    refine y_sget (pc := 554) (j := 3) (k := 1) C hX hbl hbA rfl (by decide) v1 rfl dL_law_554 dL_law_555 dL_law_557 dL_law_558 dL_law_559 ?_
    refine y_sget (pc := 560) (j := 3) (k := 2) C hX hbl hbA rfl (by decide) v2 rfl dL_law_560 dL_law_561 dL_law_563 dL_law_564 dL_law_565 ?_
    refine y_sget (pc := 566) (j := 3) (k := 3) C hX hbl hbA rfl (by decide) v3 rfl dL_law_566 dL_law_567 dL_law_569 dL_law_570 dL_law_571 ?_
    refine y_callVi (pc := 572) (h := A.length) (As := [.int (xs (i + 1).toNatClampNeg), .int (xs (i + 2).toNatClampNeg), .int (xs (i + 3).toNatClampNeg)]) (rest := [.int r]) C dL_law_572 ml_L_70 (kX7_lays _ _ _ _ A M B (xs (i + 1).toNatClampNeg) (xs (i + 2).toNatClampNeg) (xs (i + 3).toNatClampNeg) (r, M1, B1) e2) (hM_o A M B) rfl rfl rfl (Nat.le_of_ble_eq_true rfl) (by decide) ?_
    refine y_ic_eq (pc := 575) C dL_law_575 (tgt := 1726) (by decide) (fun _ => ?_) (fun q => absurd rfl q)
    exact hn _ hI2
  by_cases c9 : x = (9 : Int32)
  · refine y_tableIn (pc := 39) (tgt := 580) (off := 541) C dL_law_39 (by rw [c9]; decide) (by rw [c9]; decide) (by rw [c9]; decide) (by decide) ?_
    obtain ⟨r, G1, A, M, B, M1, B1, e1, rfl, hA, e2, hI2⟩ := o_moves k G (xs (i + 1).toNatClampNeg) (xs (i + 2).toNatClampNeg) (xs (i + 3).toNatClampNeg) hI
    refine y_aload_n (pc := 580) C 0 dL_law_580 rfl rfl ?_
    refine y_sget (pc := 581) (j := 3) (k := 1) C hX hbl hbA rfl (by decide) v1 rfl dL_law_581 dL_law_582 dL_law_584 dL_law_585 dL_law_586 ?_
    refine y_sget (pc := 587) (j := 3) (k := 2) C hX hbl hbA rfl (by decide) v2 rfl dL_law_587 dL_law_588 dL_law_590 dL_law_591 dL_law_592 ?_
    refine y_sget (pc := 593) (j := 3) (k := 3) C hX hbl hbA rfl (by decide) v3 rfl dL_law_593 dL_law_594 dL_law_596 dL_law_597 dL_law_598 ?_
    refine y_callVi (pc := 599) (h := 0) (As := [.int (xs (i + 1).toNatClampNeg), .int (xs (i + 2).toNatClampNeg), .int (xs (i + 3).toNatClampNeg)]) (rest := []) C dL_law_599 ml_L_71 (kX6_moves _ _ _ _ G 0 (xs (i + 1).toNatClampNeg) (xs (i + 2).toNatClampNeg) (xs (i + 3).toNatClampNeg) (r, hG A M B) e1) ho rfl rfl rfl (Nat.le_of_ble_eq_true rfl) (by decide) ?_
    refine y_aload_n (pc := 602) C 1 dL_law_602 rfl rfl (y_topr hA ?_)
    refine y_sget (pc := 603) (j := 3) (k := 1) C hX hbl hbA rfl (by decide) v1 rfl dL_law_603 dL_law_604 dL_law_606 dL_law_607 dL_law_608 ?_
    refine y_sget (pc := 609) (j := 3) (k := 2) C hX hbl hbA rfl (by decide) v2 rfl dL_law_609 dL_law_610 dL_law_612 dL_law_613 dL_law_614 ?_
    refine y_sget (pc := 615) (j := 3) (k := 3) C hX hbl hbA rfl (by decide) v3 rfl dL_law_615 dL_law_616 dL_law_618 dL_law_619 dL_law_620 ?_
    refine y_callVi (pc := 621) (h := A.length) (As := [.int (xs (i + 1).toNatClampNeg), .int (xs (i + 2).toNatClampNeg), .int (xs (i + 3).toNatClampNeg)]) (rest := [.int r]) C dL_law_621 ml_L_74 (kX7_moves _ _ _ _ A M B (xs (i + 1).toNatClampNeg) (xs (i + 2).toNatClampNeg) (xs (i + 3).toNatClampNeg) (r, M1, B1) e2) (hM_o A M B) rfl rfl rfl (Nat.le_of_ble_eq_true rfl) (by decide) ?_
    refine y_ic_eq (pc := 624) C dL_law_624 (tgt := 1726) (by decide) (fun _ => ?_) (fun q => absurd rfl q)
    exact hn _ hI2
  by_cases c10 : x = (10 : Int32)
  · refine y_tableIn (pc := 39) (tgt := 629) (off := 590) C dL_law_39 (by rw [c10]; decide) (by rw [c10]; decide) (by rw [c10]; decide) (by decide) ?_
    obtain ⟨r, G1, A, M, B, M1, B1, e1, rfl, hA, e2, hI2⟩ := o_cuts k G (xs (i + 1).toNatClampNeg) hI
    refine y_aload_n (pc := 629) C 0 dL_law_629 rfl rfl ?_
    refine y_sget (pc := 630) (j := 3) (k := 1) C hX hbl hbA rfl (by decide) v1 rfl dL_law_630 dL_law_631 dL_law_633 dL_law_634 dL_law_635 ?_
    refine y_callVi (pc := 636) (h := 0) (As := [.int (xs (i + 1).toNatClampNeg)]) (rest := []) C dL_law_636 ml_L_75 (kX6_cuts _ _ _ _ G 0 (xs (i + 1).toNatClampNeg) (r, hG A M B) e1) ho rfl rfl rfl (Nat.le_of_ble_eq_true rfl) (by decide) ?_
    refine y_aload_n (pc := 639) C 1 dL_law_639 rfl rfl (y_topr hA ?_)
    refine y_sget (pc := 640) (j := 3) (k := 1) C hX hbl hbA rfl (by decide) v1 rfl dL_law_640 dL_law_641 dL_law_643 dL_law_644 dL_law_645 ?_
    refine y_callVi (pc := 646) (h := A.length) (As := [.int (xs (i + 1).toNatClampNeg)]) (rest := [.int r]) C dL_law_646 ml_L_78 (kX7_cuts _ _ _ _ A M B (xs (i + 1).toNatClampNeg) (r, M1, B1) e2) (hM_o A M B) rfl rfl rfl (Nat.le_of_ble_eq_true rfl) (by decide) ?_
    refine y_ic_eq (pc := 649) C dL_law_649 (tgt := 1726) (by decide) (fun _ => ?_) (fun q => absurd rfl q)
    exact hn _ hI2
  by_cases c11 : x = (11 : Int32)
  · refine y_tableIn (pc := 39) (tgt := 654) (off := 615) C dL_law_39 (by rw [c11]; decide) (by rw [c11]; decide) (by rw [c11]; decide) (by decide) ?_
    obtain ⟨r, G1, A, M, B, M1, B1, e1, rfl, hA, e2, hI2⟩ := o_indents k G (xs (i + 1).toNatClampNeg) (xs (i + 2).toNatClampNeg) (xs (i + 3).toNatClampNeg) hI
    refine y_aload_n (pc := 654) C 0 dL_law_654 rfl rfl ?_
    refine y_sget (pc := 655) (j := 3) (k := 1) C hX hbl hbA rfl (by decide) v1 rfl dL_law_655 dL_law_656 dL_law_658 dL_law_659 dL_law_660 ?_
    refine y_sget (pc := 661) (j := 3) (k := 2) C hX hbl hbA rfl (by decide) v2 rfl dL_law_661 dL_law_662 dL_law_664 dL_law_665 dL_law_666 ?_
    refine y_sget (pc := 667) (j := 3) (k := 3) C hX hbl hbA rfl (by decide) v3 rfl dL_law_667 dL_law_668 dL_law_670 dL_law_671 dL_law_672 ?_
    refine y_callVi (pc := 673) (h := 0) (As := [.int (xs (i + 1).toNatClampNeg), .int (xs (i + 2).toNatClampNeg), .int (xs (i + 3).toNatClampNeg)]) (rest := []) C dL_law_673 ml_L_79 (kX6_indents _ _ _ _ G 0 (xs (i + 1).toNatClampNeg) (xs (i + 2).toNatClampNeg) (xs (i + 3).toNatClampNeg) (r, hG A M B) e1) ho rfl rfl rfl (Nat.le_of_ble_eq_true rfl) (by decide) ?_
    refine y_aload_n (pc := 676) C 1 dL_law_676 rfl rfl (y_topr hA ?_)
    refine y_sget (pc := 677) (j := 3) (k := 1) C hX hbl hbA rfl (by decide) v1 rfl dL_law_677 dL_law_678 dL_law_680 dL_law_681 dL_law_682 ?_
    refine y_sget (pc := 683) (j := 3) (k := 2) C hX hbl hbA rfl (by decide) v2 rfl dL_law_683 dL_law_684 dL_law_686 dL_law_687 dL_law_688 ?_
    refine y_sget (pc := 689) (j := 3) (k := 3) C hX hbl hbA rfl (by decide) v3 rfl dL_law_689 dL_law_690 dL_law_692 dL_law_693 dL_law_694 ?_
    refine y_callVi (pc := 695) (h := A.length) (As := [.int (xs (i + 1).toNatClampNeg), .int (xs (i + 2).toNatClampNeg), .int (xs (i + 3).toNatClampNeg)]) (rest := [.int r]) C dL_law_695 ml_L_82 (kX7_indents _ _ _ _ A M B (xs (i + 1).toNatClampNeg) (xs (i + 2).toNatClampNeg) (xs (i + 3).toNatClampNeg) (r, M1, B1) e2) (hM_o A M B) rfl rfl rfl (Nat.le_of_ble_eq_true rfl) (by decide) ?_
    refine y_ic_eq (pc := 698) C dL_law_698 (tgt := 1726) (by decide) (fun _ => ?_) (fun q => absurd rfl q)
    exact hn _ hI2
  by_cases c12 : x = (12 : Int32)
  · refine y_tableIn (pc := 39) (tgt := 703) (off := 664) C dL_law_39 (by rw [c12]; decide) (by rw [c12]; decide) (by rw [c12]; decide) (by decide) ?_
    obtain ⟨r, G1, A, M, B, M1, B1, e1, rfl, hA, e2, hI2⟩ := o_heals k G  hI
    refine y_aload_n (pc := 703) C 0 dL_law_703 rfl rfl ?_
    refine y_callVi (pc := 704) (h := 0) (As := []) (rest := []) C dL_law_704 ml_L_83 (kX6_heals _ _ _ _ G 0  (r, hG A M B) e1) ho rfl rfl rfl (Nat.le_of_ble_eq_true rfl) (by decide) ?_
    refine y_aload_n (pc := 707) C 1 dL_law_707 rfl rfl (y_topr hA ?_)
    refine y_callVi (pc := 708) (h := A.length) (As := []) (rest := [.int r]) C dL_law_708 ml_L_86 (kX7_heals _ _ _ _ A M B  (r, M1, B1) e2) (hM_o A M B) rfl rfl rfl (Nat.le_of_ble_eq_true rfl) (by decide) ?_
    refine y_ic_eq (pc := 711) C dL_law_711 (tgt := 1726) (by decide) (fun _ => ?_) (fun q => absurd rfl q)
    exact hn _ hI2
  by_cases c13 : x = (13 : Int32)
  · refine y_tableIn (pc := 39) (tgt := 716) (off := 677) C dL_law_39 (by rw [c13]; decide) (by rw [c13]; decide) (by rw [c13]; decide) (by decide) ?_
    obtain ⟨r, G1, A, M, B, M1, B1, e1, rfl, hA, e2, rfl, hI2⟩ := o_marks k G (xs (i + 1).toNatClampNeg) (xs (i + 2).toNatClampNeg) (xs (i + 3).toNatClampNeg) hI
    refine y_aload_n (pc := 716) C 0 dL_law_716 rfl rfl ?_
    refine y_sget (pc := 717) (j := 3) (k := 1) C hX hbl hbA rfl (by decide) v1 rfl dL_law_717 dL_law_718 dL_law_720 dL_law_721 dL_law_722 ?_
    refine y_sget (pc := 723) (j := 3) (k := 2) C hX hbl hbA rfl (by decide) v2 rfl dL_law_723 dL_law_724 dL_law_726 dL_law_727 dL_law_728 ?_
    refine y_sget (pc := 729) (j := 3) (k := 3) C hX hbl hbA rfl (by decide) v3 rfl dL_law_729 dL_law_730 dL_law_732 dL_law_733 dL_law_734 ?_
    refine y_callVi (pc := 735) (h := 0) (As := [.int (xs (i + 1).toNatClampNeg), .int (xs (i + 2).toNatClampNeg), .int (xs (i + 3).toNatClampNeg)]) (rest := []) C dL_law_735 ml_L_87 (kX6_marks _ _ _ _ G 0 (xs (i + 1).toNatClampNeg) (xs (i + 2).toNatClampNeg) (xs (i + 3).toNatClampNeg) (r, hG A M B1) e1) ho rfl rfl rfl (Nat.le_of_ble_eq_true rfl) (by decide) ?_
    refine y_aload_n (pc := 738) C 1 dL_law_738 rfl rfl (y_topr hA ?_)
    refine y_sget (pc := 739) (j := 3) (k := 1) C hX hbl hbA rfl (by decide) v1 rfl dL_law_739 dL_law_740 dL_law_742 dL_law_743 dL_law_744 ?_
    refine y_sget (pc := 745) (j := 3) (k := 2) C hX hbl hbA rfl (by decide) v2 rfl dL_law_745 dL_law_746 dL_law_748 dL_law_749 dL_law_750 ?_
    refine y_sget (pc := 751) (j := 3) (k := 3) C hX hbl hbA rfl (by decide) v3 rfl dL_law_751 dL_law_752 dL_law_754 dL_law_755 dL_law_756 ?_
    refine y_callVi (pc := 757) (h := A.length) (As := [.int (xs (i + 1).toNatClampNeg), .int (xs (i + 2).toNatClampNeg), .int (xs (i + 3).toNatClampNeg)]) (rest := [.int r]) C dL_law_757 ml_L_90 (kX7_marks _ _ _ _ A M B1 (xs (i + 1).toNatClampNeg) (xs (i + 2).toNatClampNeg) (xs (i + 3).toNatClampNeg) (r, M1) e2) (hM_o A M B1) rfl rfl rfl (Nat.le_of_ble_eq_true rfl) (by decide) ?_
    refine y_ic_eq (pc := 760) C dL_law_760 (tgt := 1726) (by decide) (fun _ => ?_) (fun q => absurd rfl q)
    exact hn _ hI2
  by_cases c14 : x = (14 : Int32)
  · refine y_tableIn (pc := 39) (tgt := 765) (off := 726) C dL_law_39 (by rw [c14]; decide) (by rw [c14]; decide) (by rw [c14]; decide) (by decide) ?_
    obtain ⟨r, G1, A, M, B, M1, B1, e1, rfl, hA, e2, hI2⟩ := o_day k G  hI
    refine y_aload_n (pc := 765) C 0 dL_law_765 rfl rfl ?_
    refine y_callVi (pc := 766) (h := 0) (As := []) (rest := []) C dL_law_766 ml_L_91 (kX6_day _ _ _ _ G 0  (r, hG A M B) e1) ho rfl rfl rfl (Nat.le_of_ble_eq_true rfl) (by decide) ?_
    refine y_aload_n (pc := 769) C 1 dL_law_769 rfl rfl (y_topr hA ?_)
    refine y_callVi (pc := 770) (h := A.length) (As := []) (rest := [.int r]) C dL_law_770 ml_L_94 (kX7_day _ _ _ _ A M B  (r, M1, B1) e2) (hM_o A M B) rfl rfl rfl (Nat.le_of_ble_eq_true rfl) (by decide) ?_
    refine y_ic_eq (pc := 773) C dL_law_773 (tgt := 1726) (by decide) (fun _ => ?_) (fun q => absurd rfl q)
    exact hn _ hI2
  by_cases c15 : x = (15 : Int32)
  · refine y_tableIn (pc := 39) (tgt := 778) (off := 739) C dL_law_39 (by rw [c15]; decide) (by rw [c15]; decide) (by rw [c15]; decide) (by decide) ?_
    obtain ⟨r, G1, A, M, B, M1, B1, e1, rfl, hA, e2, hI2⟩ := o_undo k G  hI
    refine y_aload_n (pc := 778) C 0 dL_law_778 rfl rfl ?_
    refine y_callVi (pc := 779) (h := 0) (As := []) (rest := []) C dL_law_779 ml_L_95 (kX6_undo _ _ _ _ G 0  (r, hG A M B) e1) ho rfl rfl rfl (Nat.le_of_ble_eq_true rfl) (by decide) ?_
    refine y_aload_n (pc := 782) C 1 dL_law_782 rfl rfl (y_topr hA ?_)
    refine y_callVi (pc := 783) (h := A.length) (As := []) (rest := [.int r]) C dL_law_783 ml_L_98 (kX7_undo _ _ _ _ A M B  (r, M1, B1) e2) (hM_o A M B) rfl rfl rfl (Nat.le_of_ble_eq_true rfl) (by decide) ?_
    refine y_ic_eq (pc := 786) C dL_law_786 (tgt := 1726) (by decide) (fun _ => ?_) (fun q => absurd rfl q)
    exact hn _ hI2
  by_cases c16 : x = (16 : Int32)
  · refine y_tableIn (pc := 39) (tgt := 791) (off := 752) C dL_law_39 (by rw [c16]; decide) (by rw [c16]; decide) (by rw [c16]; decide) (by decide) ?_
    obtain ⟨r, G1, A, M, B, M1, B1, e1, rfl, hA, e2, hI2⟩ := o_redo k G  hI
    refine y_aload_n (pc := 791) C 0 dL_law_791 rfl rfl ?_
    refine y_callVi (pc := 792) (h := 0) (As := []) (rest := []) C dL_law_792 ml_L_99 (kX6_redo _ _ _ _ G 0  (r, hG A M B) e1) ho rfl rfl rfl (Nat.le_of_ble_eq_true rfl) (by decide) ?_
    refine y_aload_n (pc := 795) C 1 dL_law_795 rfl rfl (y_topr hA ?_)
    refine y_callVi (pc := 796) (h := A.length) (As := []) (rest := [.int r]) C dL_law_796 ml_L_102 (kX7_redo _ _ _ _ A M B  (r, M1, B1) e2) (hM_o A M B) rfl rfl rfl (Nat.le_of_ble_eq_true rfl) (by decide) ?_
    refine y_ic_eq (pc := 799) C dL_law_799 (tgt := 1726) (by decide) (fun _ => ?_) (fun q => absurd rfl q)
    exact hn _ hI2
  by_cases c17 : x = (17 : Int32)
  · refine y_tableIn (pc := 39) (tgt := 804) (off := 765) C dL_law_39 (by rw [c17]; decide) (by rw [c17]; decide) (by rw [c17]; decide) (by decide) ?_
    obtain ⟨r, G1, A, M, B, M1, B1, e1, rfl, hA, e2, rfl, hI2⟩ := o_at k G (xs (i + 1).toNatClampNeg) hI
    refine y_aload_n (pc := 804) C 0 dL_law_804 rfl rfl ?_
    refine y_sget (pc := 805) (j := 3) (k := 1) C hX hbl hbA rfl (by decide) v1 rfl dL_law_805 dL_law_806 dL_law_808 dL_law_809 dL_law_810 ?_
    refine y_callVi (pc := 811) (h := 0) (As := [.int (xs (i + 1).toNatClampNeg)]) (rest := []) C dL_law_811 ml_L_103 (kX6_at _ _ _ _ G 0 (xs (i + 1).toNatClampNeg) (r, hG A M B1) e1) ho rfl rfl rfl (Nat.le_of_ble_eq_true rfl) (by decide) ?_
    refine y_aload_n (pc := 814) C 1 dL_law_814 rfl rfl (y_topr hA ?_)
    refine y_sget (pc := 815) (j := 3) (k := 1) C hX hbl hbA rfl (by decide) v1 rfl dL_law_815 dL_law_816 dL_law_818 dL_law_819 dL_law_820 ?_
    refine y_callVi (pc := 821) (h := A.length) (As := [.int (xs (i + 1).toNatClampNeg)]) (rest := [.int r]) C dL_law_821 ml_L_106 (kX7_at _ _ _ _ A M B1 (xs (i + 1).toNatClampNeg) (r, M1) e2) (hM_o A M B1) rfl rfl rfl (Nat.le_of_ble_eq_true rfl) (by decide) ?_
    refine y_ic_eq (pc := 824) C dL_law_824 (tgt := 1726) (by decide) (fun _ => ?_) (fun q => absurd rfl q)
    exact hn _ hI2
  by_cases c18 : x = (18 : Int32)
  · refine y_tableIn (pc := 39) (tgt := 829) (off := 790) C dL_law_39 (by rw [c18]; decide) (by rw [c18]; decide) (by rw [c18]; decide) (by decide) ?_
    obtain ⟨r, G1, A, M, B, M1, B1, e1, rfl, hA, e2, rfl, hI2⟩ := o_reads k G (xs (i + 1).toNatClampNeg) (xs (i + 2).toNatClampNeg) hI
    refine y_aload_n (pc := 829) C 0 dL_law_829 rfl rfl ?_
    refine y_sget (pc := 830) (j := 3) (k := 1) C hX hbl hbA rfl (by decide) v1 rfl dL_law_830 dL_law_831 dL_law_833 dL_law_834 dL_law_835 ?_
    refine y_sget (pc := 836) (j := 3) (k := 2) C hX hbl hbA rfl (by decide) v2 rfl dL_law_836 dL_law_837 dL_law_839 dL_law_840 dL_law_841 ?_
    refine y_callVi (pc := 842) (h := 0) (As := [.int (xs (i + 1).toNatClampNeg), .int (xs (i + 2).toNatClampNeg)]) (rest := []) C dL_law_842 ml_L_107 (kX6_reads _ _ _ _ G 0 (xs (i + 1).toNatClampNeg) (xs (i + 2).toNatClampNeg) (r, hG A M B1) e1) ho rfl rfl rfl (Nat.le_of_ble_eq_true rfl) (by decide) ?_
    refine y_aload_n (pc := 845) C 1 dL_law_845 rfl rfl (y_topr hA ?_)
    refine y_sget (pc := 846) (j := 3) (k := 1) C hX hbl hbA rfl (by decide) v1 rfl dL_law_846 dL_law_847 dL_law_849 dL_law_850 dL_law_851 ?_
    refine y_sget (pc := 852) (j := 3) (k := 2) C hX hbl hbA rfl (by decide) v2 rfl dL_law_852 dL_law_853 dL_law_855 dL_law_856 dL_law_857 ?_
    refine y_callVi (pc := 858) (h := A.length) (As := [.int (xs (i + 1).toNatClampNeg), .int (xs (i + 2).toNatClampNeg)]) (rest := [.int r]) C dL_law_858 ml_L_110 (kX7_reads _ _ _ _ A M B1 (xs (i + 1).toNatClampNeg) (xs (i + 2).toNatClampNeg) (r, M1) e2) (hM_o A M B1) rfl rfl rfl (Nat.le_of_ble_eq_true rfl) (by decide) ?_
    refine y_ic_eq (pc := 861) C dL_law_861 (tgt := 1726) (by decide) (fun _ => ?_) (fun q => absurd rfl q)
    exact hn _ hI2
  by_cases c19 : x = (19 : Int32)
  · refine y_tableIn (pc := 39) (tgt := 866) (off := 827) C dL_law_39 (by rw [c19]; decide) (by rw [c19]; decide) (by rw [c19]; decide) (by decide) ?_
    obtain ⟨r, G1, A, M, B, M1, B1, e1, rfl, hA, e2, rfl, hI2⟩ := o_line k G (xs (i + 1).toNatClampNeg) hI
    refine y_aload_n (pc := 866) C 0 dL_law_866 rfl rfl ?_
    refine y_sget (pc := 867) (j := 3) (k := 1) C hX hbl hbA rfl (by decide) v1 rfl dL_law_867 dL_law_868 dL_law_870 dL_law_871 dL_law_872 ?_
    refine y_callVi (pc := 873) (h := 0) (As := [.int (xs (i + 1).toNatClampNeg)]) (rest := []) C dL_law_873 ml_L_111 (kX6_line _ _ _ _ G 0 (xs (i + 1).toNatClampNeg) (r, hG A M B1) e1) ho rfl rfl rfl (Nat.le_of_ble_eq_true rfl) (by decide) ?_
    refine y_aload_n (pc := 876) C 1 dL_law_876 rfl rfl (y_topr hA ?_)
    refine y_sget (pc := 877) (j := 3) (k := 1) C hX hbl hbA rfl (by decide) v1 rfl dL_law_877 dL_law_878 dL_law_880 dL_law_881 dL_law_882 ?_
    refine y_callVi (pc := 883) (h := A.length) (As := [.int (xs (i + 1).toNatClampNeg)]) (rest := [.int r]) C dL_law_883 ml_L_114 (kX7_line _ _ _ _ A M B1 (xs (i + 1).toNatClampNeg) (r, M1) e2) (hM_o A M B1) rfl rfl rfl (Nat.le_of_ble_eq_true rfl) (by decide) ?_
    refine y_ic_eq (pc := 886) C dL_law_886 (tgt := 1726) (by decide) (fun _ => ?_) (fun q => absurd rfl q)
    exact hn _ hI2
  by_cases c20 : x = (20 : Int32)
  · refine y_tableIn (pc := 39) (tgt := 891) (off := 852) C dL_law_39 (by rw [c20]; decide) (by rw [c20]; decide) (by rw [c20]; decide) (by decide) ?_
    obtain ⟨r, G1, A, M, B, M1, B1, e1, rfl, hA, e2, rfl, hI2⟩ := o_starts k G (xs (i + 1).toNatClampNeg) hI
    refine y_aload_n (pc := 891) C 0 dL_law_891 rfl rfl ?_
    refine y_sget (pc := 892) (j := 3) (k := 1) C hX hbl hbA rfl (by decide) v1 rfl dL_law_892 dL_law_893 dL_law_895 dL_law_896 dL_law_897 ?_
    refine y_callVi (pc := 898) (h := 0) (As := [.int (xs (i + 1).toNatClampNeg)]) (rest := []) C dL_law_898 ml_L_115 (kX6_starts _ _ _ _ G 0 (xs (i + 1).toNatClampNeg) (r, hG A M B1) e1) ho rfl rfl rfl (Nat.le_of_ble_eq_true rfl) (by decide) ?_
    refine y_aload_n (pc := 901) C 1 dL_law_901 rfl rfl (y_topr hA ?_)
    refine y_sget (pc := 902) (j := 3) (k := 1) C hX hbl hbA rfl (by decide) v1 rfl dL_law_902 dL_law_903 dL_law_905 dL_law_906 dL_law_907 ?_
    refine y_callVi (pc := 908) (h := A.length) (As := [.int (xs (i + 1).toNatClampNeg)]) (rest := [.int r]) C dL_law_908 ml_L_118 (kX7_starts _ _ _ _ A M B1 (xs (i + 1).toNatClampNeg) (r, M1) e2) (hM_o A M B1) rfl rfl rfl (Nat.le_of_ble_eq_true rfl) (by decide) ?_
    refine y_ic_eq (pc := 911) C dL_law_911 (tgt := 1726) (by decide) (fun _ => ?_) (fun q => absurd rfl q)
    exact hn _ hI2
  by_cases c21 : x = (21 : Int32)
  · refine y_tableIn (pc := 39) (tgt := 916) (off := 877) C dL_law_39 (by rw [c21]; decide) (by rw [c21]; decide) (by rw [c21]; decide) (by decide) ?_
    obtain ⟨r, G1, A, M, B, M1, B1, e1, rfl, hA, e2, rfl, hI2⟩ := o_place k G (xs (i + 1).toNatClampNeg) (xs (i + 2).toNatClampNeg) hI
    refine y_aload_n (pc := 916) C 0 dL_law_916 rfl rfl ?_
    refine y_sget (pc := 917) (j := 3) (k := 1) C hX hbl hbA rfl (by decide) v1 rfl dL_law_917 dL_law_918 dL_law_920 dL_law_921 dL_law_922 ?_
    refine y_sget (pc := 923) (j := 3) (k := 2) C hX hbl hbA rfl (by decide) v2 rfl dL_law_923 dL_law_924 dL_law_926 dL_law_927 dL_law_928 ?_
    refine y_callVi (pc := 929) (h := 0) (As := [.int (xs (i + 1).toNatClampNeg), .int (xs (i + 2).toNatClampNeg)]) (rest := []) C dL_law_929 ml_L_119 (kX6_place _ _ _ _ G 0 (xs (i + 1).toNatClampNeg) (xs (i + 2).toNatClampNeg) (r, hG A M B1) e1) ho rfl rfl rfl (Nat.le_of_ble_eq_true rfl) (by decide) ?_
    refine y_aload_n (pc := 932) C 1 dL_law_932 rfl rfl (y_topr hA ?_)
    refine y_sget (pc := 933) (j := 3) (k := 1) C hX hbl hbA rfl (by decide) v1 rfl dL_law_933 dL_law_934 dL_law_936 dL_law_937 dL_law_938 ?_
    refine y_sget (pc := 939) (j := 3) (k := 2) C hX hbl hbA rfl (by decide) v2 rfl dL_law_939 dL_law_940 dL_law_942 dL_law_943 dL_law_944 ?_
    refine y_callVi (pc := 945) (h := A.length) (As := [.int (xs (i + 1).toNatClampNeg), .int (xs (i + 2).toNatClampNeg)]) (rest := [.int r]) C dL_law_945 ml_L_122 (kX7_place _ _ _ _ A M B1 (xs (i + 1).toNatClampNeg) (xs (i + 2).toNatClampNeg) (r, M1) e2) (hM_o A M B1) rfl rfl rfl (Nat.le_of_ble_eq_true rfl) (by decide) ?_
    refine y_ic_eq (pc := 948) C dL_law_948 (tgt := 1726) (by decide) (fun _ => ?_) (fun q => absurd rfl q)
    exact hn _ hI2
  by_cases c22 : x = (22 : Int32)
  · refine y_tableIn (pc := 39) (tgt := 953) (off := 914) C dL_law_39 (by rw [c22]; decide) (by rw [c22]; decide) (by rw [c22]; decide) (by decide) ?_
    obtain ⟨r, G1, A, M, B, M1, B1, e1, rfl, hA, e2, rfl, hI2⟩ := o_longest k G  hI
    refine y_aload_n (pc := 953) C 0 dL_law_953 rfl rfl ?_
    refine y_callVi (pc := 954) (h := 0) (As := []) (rest := []) C dL_law_954 ml_L_123 (kX6_longest _ _ _ _ G 0  (r, hG A M B1) e1) ho rfl rfl rfl (Nat.le_of_ble_eq_true rfl) (by decide) ?_
    refine y_aload_n (pc := 957) C 1 dL_law_957 rfl rfl (y_topr hA ?_)
    refine y_callVi (pc := 958) (h := A.length) (As := []) (rest := [.int r]) C dL_law_958 ml_L_126 (kX7_longest _ _ _ _ A M B1  (r, M1) e2) (hM_o A M B1) rfl rfl rfl (Nat.le_of_ble_eq_true rfl) (by decide) ?_
    refine y_ic_eq (pc := 961) C dL_law_961 (tgt := 1726) (by decide) (fun _ => ?_) (fun q => absurd rfl q)
    exact hn _ hI2
  by_cases c23 : x = (23 : Int32)
  · refine y_tableIn (pc := 39) (tgt := 966) (off := 927) C dL_law_39 (by rw [c23]; decide) (by rw [c23]; decide) (by rw [c23]; decide) (by decide) ?_
    obtain ⟨r, G1, A, M, B, M1, B1, e1, rfl, hA, e2, rfl, hI2⟩ := o_mark k G (xs (i + 1).toNatClampNeg) hI
    refine y_aload_n (pc := 966) C 0 dL_law_966 rfl rfl ?_
    refine y_sget (pc := 967) (j := 3) (k := 1) C hX hbl hbA rfl (by decide) v1 rfl dL_law_967 dL_law_968 dL_law_970 dL_law_971 dL_law_972 ?_
    refine y_callVi (pc := 973) (h := 0) (As := [.int (xs (i + 1).toNatClampNeg)]) (rest := []) C dL_law_973 ml_L_127 (kX6_mark _ _ _ _ G 0 (xs (i + 1).toNatClampNeg) (r, hG A M B1) e1) ho rfl rfl rfl (Nat.le_of_ble_eq_true rfl) (by decide) ?_
    refine y_aload_n (pc := 976) C 1 dL_law_976 rfl rfl (y_topr hA ?_)
    refine y_sget (pc := 977) (j := 3) (k := 1) C hX hbl hbA rfl (by decide) v1 rfl dL_law_977 dL_law_978 dL_law_980 dL_law_981 dL_law_982 ?_
    refine y_callVi (pc := 983) (h := A.length) (As := [.int (xs (i + 1).toNatClampNeg)]) (rest := [.int r]) C dL_law_983 ml_L_130 (kX7_mark _ _ _ _ A M B1 (xs (i + 1).toNatClampNeg) (r, M1) e2) (hM_o A M B1) rfl rfl rfl (Nat.le_of_ble_eq_true rfl) (by decide) ?_
    refine y_ic_eq (pc := 986) C dL_law_986 (tgt := 1726) (by decide) (fun _ => ?_) (fun q => absurd rfl q)
    exact hn _ hI2
  by_cases c24 : x = (24 : Int32)
  · refine y_tableIn (pc := 39) (tgt := 991) (off := 952) C dL_law_39 (by rw [c24]; decide) (by rw [c24]; decide) (by rw [c24]; decide) (by decide) ?_
    obtain ⟨r, G1, A, M, B, M1, B1, e1, rfl, hA, e2, rfl, hI2⟩ := o_between k G (xs (i + 1).toNatClampNeg) (xs (i + 2).toNatClampNeg) hI
    refine y_aload_n (pc := 991) C 0 dL_law_991 rfl rfl ?_
    refine y_sget (pc := 992) (j := 3) (k := 1) C hX hbl hbA rfl (by decide) v1 rfl dL_law_992 dL_law_993 dL_law_995 dL_law_996 dL_law_997 ?_
    refine y_sget (pc := 998) (j := 3) (k := 2) C hX hbl hbA rfl (by decide) v2 rfl dL_law_998 dL_law_999 dL_law_1001 dL_law_1002 dL_law_1003 ?_
    refine y_callVi (pc := 1004) (h := 0) (As := [.int (xs (i + 1).toNatClampNeg), .int (xs (i + 2).toNatClampNeg)]) (rest := []) C dL_law_1004 ml_L_131 (kX6_between _ _ _ _ G 0 (xs (i + 1).toNatClampNeg) (xs (i + 2).toNatClampNeg) (r, hG A M B1) e1) ho rfl rfl rfl (Nat.le_of_ble_eq_true rfl) (by decide) ?_
    refine y_aload_n (pc := 1007) C 1 dL_law_1007 rfl rfl (y_topr hA ?_)
    refine y_sget (pc := 1008) (j := 3) (k := 1) C hX hbl hbA rfl (by decide) v1 rfl dL_law_1008 dL_law_1009 dL_law_1011 dL_law_1012 dL_law_1013 ?_
    refine y_sget (pc := 1014) (j := 3) (k := 2) C hX hbl hbA rfl (by decide) v2 rfl dL_law_1014 dL_law_1015 dL_law_1017 dL_law_1018 dL_law_1019 ?_
    refine y_callVi (pc := 1020) (h := A.length) (As := [.int (xs (i + 1).toNatClampNeg), .int (xs (i + 2).toNatClampNeg)]) (rest := [.int r]) C dL_law_1020 ml_L_134 (kX7_between _ _ _ _ A M B1 (xs (i + 1).toNatClampNeg) (xs (i + 2).toNatClampNeg) (r, M1) e2) (hM_o A M B1) rfl rfl rfl (Nat.le_of_ble_eq_true rfl) (by decide) ?_
    refine y_ic_eq (pc := 1023) C dL_law_1023 (tgt := 1726) (by decide) (fun _ => ?_) (fun q => absurd rfl q)
    exact hn _ hI2
  by_cases c25 : x = (25 : Int32)
  · refine y_tableIn (pc := 39) (tgt := 1028) (off := 989) C dL_law_39 (by rw [c25]; decide) (by rw [c25]; decide) (by rw [c25]; decide) (by decide) ?_
    exact h_piece k G i hI v0 v1 v2 v3 hn
  by_cases c26 : x = (26 : Int32)
  · refine y_tableIn (pc := 39) (tgt := 1096) (off := 1057) C dL_law_39 (by rw [c26]; decide) (by rw [c26]; decide) (by rw [c26]; decide) (by decide) ?_
    obtain ⟨r, G1, A, M, B, M1, B1, e1, rfl, hA, e2, rfl, hI2⟩ := o_shows k G (xs (i + 1).toNatClampNeg) hI
    refine y_aload_n (pc := 1096) C 0 dL_law_1096 rfl rfl ?_
    refine y_sget (pc := 1097) (j := 3) (k := 1) C hX hbl hbA rfl (by decide) v1 rfl dL_law_1097 dL_law_1098 dL_law_1100 dL_law_1101 dL_law_1102 ?_
    refine y_callVi (pc := 1103) (h := 0) (As := [.int (xs (i + 1).toNatClampNeg)]) (rest := []) C dL_law_1103 ml_L_138 (kX6_shows _ _ _ _ G 0 (xs (i + 1).toNatClampNeg) (r, hG A M B1) e1) ho rfl rfl rfl (Nat.le_of_ble_eq_true rfl) (by decide) ?_
    refine y_aload_n (pc := 1106) C 1 dL_law_1106 rfl rfl (y_topr hA ?_)
    refine y_sget (pc := 1107) (j := 3) (k := 1) C hX hbl hbA rfl (by decide) v1 rfl dL_law_1107 dL_law_1108 dL_law_1110 dL_law_1111 dL_law_1112 ?_
    refine y_callVi (pc := 1113) (h := A.length) (As := [.int (xs (i + 1).toNatClampNeg)]) (rest := [.int r]) C dL_law_1113 ml_L_141 (kX7_shows _ _ _ _ A M B1 (xs (i + 1).toNatClampNeg) (r, M1) e2) (hM_o A M B1) rfl rfl rfl (Nat.le_of_ble_eq_true rfl) (by decide) ?_
    refine y_ic_eq (pc := 1116) C dL_law_1116 (tgt := 1726) (by decide) (fun _ => ?_) (fun q => absurd rfl q)
    exact hn _ hI2
  by_cases c27 : x = (27 : Int32)
  · refine y_tableIn (pc := 39) (tgt := 1121) (off := 1082) C dL_law_39 (by rw [c27]; decide) (by rw [c27]; decide) (by rw [c27]; decide) (by decide) ?_
    obtain ⟨r, G1, A, M, B, M1, B1, e1, rfl, hA, e2, rfl, hI2⟩ := o_from k G (xs (i + 1).toNatClampNeg) (xs (i + 2).toNatClampNeg) hI
    refine y_aload_n (pc := 1121) C 0 dL_law_1121 rfl rfl ?_
    refine y_sget (pc := 1122) (j := 3) (k := 1) C hX hbl hbA rfl (by decide) v1 rfl dL_law_1122 dL_law_1123 dL_law_1125 dL_law_1126 dL_law_1127 ?_
    refine y_sget (pc := 1128) (j := 3) (k := 2) C hX hbl hbA rfl (by decide) v2 rfl dL_law_1128 dL_law_1129 dL_law_1131 dL_law_1132 dL_law_1133 ?_
    refine y_callVi (pc := 1134) (h := 0) (As := [.int (xs (i + 1).toNatClampNeg), .int (xs (i + 2).toNatClampNeg)]) (rest := []) C dL_law_1134 ml_L_142 (kX6_from _ _ _ _ G 0 (xs (i + 1).toNatClampNeg) (xs (i + 2).toNatClampNeg) (r, hG A M B1) e1) ho rfl rfl rfl (Nat.le_of_ble_eq_true rfl) (by decide) ?_
    refine y_aload_n (pc := 1137) C 1 dL_law_1137 rfl rfl (y_topr hA ?_)
    refine y_sget (pc := 1138) (j := 3) (k := 1) C hX hbl hbA rfl (by decide) v1 rfl dL_law_1138 dL_law_1139 dL_law_1141 dL_law_1142 dL_law_1143 ?_
    refine y_sget (pc := 1144) (j := 3) (k := 2) C hX hbl hbA rfl (by decide) v2 rfl dL_law_1144 dL_law_1145 dL_law_1147 dL_law_1148 dL_law_1149 ?_
    refine y_callVi (pc := 1150) (h := A.length) (As := [.int (xs (i + 1).toNatClampNeg), .int (xs (i + 2).toNatClampNeg)]) (rest := [.int r]) C dL_law_1150 ml_L_145 (kX7_from _ _ _ _ A M B1 (xs (i + 1).toNatClampNeg) (xs (i + 2).toNatClampNeg) (r, M1) e2) (hM_o A M B1) rfl rfl rfl (Nat.le_of_ble_eq_true rfl) (by decide) ?_
    refine y_ic_eq (pc := 1153) C dL_law_1153 (tgt := 1726) (by decide) (fun _ => ?_) (fun q => absurd rfl q)
    exact hn _ hI2
  by_cases c28 : x = (28 : Int32)
  · refine y_tableIn (pc := 39) (tgt := 1158) (off := 1119) C dL_law_39 (by rw [c28]; decide) (by rw [c28]; decide) (by rw [c28]; decide) (by decide) ?_
    obtain ⟨r, G1, A, M, B, M1, B1, e1, rfl, hA, e2, rfl, hI2⟩ := o_lost k G (xs (i + 1).toNatClampNeg) hI
    refine y_aload_n (pc := 1158) C 0 dL_law_1158 rfl rfl ?_
    refine y_sget (pc := 1159) (j := 3) (k := 1) C hX hbl hbA rfl (by decide) v1 rfl dL_law_1159 dL_law_1160 dL_law_1162 dL_law_1163 dL_law_1164 ?_
    refine y_callVi (pc := 1165) (h := 0) (As := [.int (xs (i + 1).toNatClampNeg)]) (rest := []) C dL_law_1165 ml_L_146 (kX6_lost _ _ _ _ G 0 (xs (i + 1).toNatClampNeg) (r, hG A M B1) e1) ho rfl rfl rfl (Nat.le_of_ble_eq_true rfl) (by decide) ?_
    refine y_aload_n (pc := 1168) C 1 dL_law_1168 rfl rfl (y_topr hA ?_)
    refine y_sget (pc := 1169) (j := 3) (k := 1) C hX hbl hbA rfl (by decide) v1 rfl dL_law_1169 dL_law_1170 dL_law_1172 dL_law_1173 dL_law_1174 ?_
    refine y_callVi (pc := 1175) (h := A.length) (As := [.int (xs (i + 1).toNatClampNeg)]) (rest := [.int r]) C dL_law_1175 ml_L_149 (kX7_lost _ _ _ _ A M B1 (xs (i + 1).toNatClampNeg) (r, M1) e2) (hM_o A M B1) rfl rfl rfl (Nat.le_of_ble_eq_true rfl) (by decide) ?_
    refine y_ic_eq (pc := 1178) C dL_law_1178 (tgt := 1726) (by decide) (fun _ => ?_) (fun q => absurd rfl q)
    exact hn _ hI2
  by_cases c29 : x = (29 : Int32)
  · refine y_tableIn (pc := 39) (tgt := 1183) (off := 1144) C dL_law_39 (by rw [c29]; decide) (by rw [c29]; decide) (by rw [c29]; decide) (by decide) ?_
    obtain ⟨r, G1, A, M, B, M1, B1, e1, rfl, hA, e2, rfl, hI2⟩ := o_healable k G  hI
    refine y_aload_n (pc := 1183) C 0 dL_law_1183 rfl rfl ?_
    refine y_callVi (pc := 1184) (h := 0) (As := []) (rest := []) C dL_law_1184 ml_L_150 (kX6_healable _ _ _ _ G 0  (r, hG A M B1) e1) ho rfl rfl rfl (Nat.le_of_ble_eq_true rfl) (by decide) ?_
    refine y_aload_n (pc := 1187) C 1 dL_law_1187 rfl rfl (y_topr hA ?_)
    refine y_callVi (pc := 1188) (h := A.length) (As := []) (rest := [.int r]) C dL_law_1188 ml_L_153 (kX7_healable _ _ _ _ A M B1  (r, M1) e2) (hM_o A M B1) rfl rfl rfl (Nat.le_of_ble_eq_true rfl) (by decide) ?_
    refine y_ic_eq (pc := 1191) C dL_law_1191 (tgt := 1726) (by decide) (fun _ => ?_) (fun q => absurd rfl q)
    exact hn _ hI2
  by_cases c30 : x = (30 : Int32)
  · refine y_tableIn (pc := 39) (tgt := 1196) (off := 1157) C dL_law_39 (by rw [c30]; decide) (by rw [c30]; decide) (by rw [c30]; decide) (by decide) ?_
    obtain ⟨r, G1, A, M, B, M1, B1, e1, rfl, hA, e2, rfl, hI2⟩ := o_finds k G (xs (i + 1).toNatClampNeg) hI
    refine y_aload_n (pc := 1196) C 0 dL_law_1196 rfl rfl ?_
    refine y_sget (pc := 1197) (j := 3) (k := 1) C hX hbl hbA rfl (by decide) v1 rfl dL_law_1197 dL_law_1198 dL_law_1200 dL_law_1201 dL_law_1202 ?_
    refine y_callVi (pc := 1203) (h := 0) (As := [.int (xs (i + 1).toNatClampNeg)]) (rest := []) C dL_law_1203 ml_L_154 (kX6_finds _ _ _ _ G 0 (xs (i + 1).toNatClampNeg) (r, hG A M B1) e1) ho rfl rfl rfl (Nat.le_of_ble_eq_true rfl) (by decide) ?_
    refine y_aload_n (pc := 1206) C 1 dL_law_1206 rfl rfl (y_topr hA ?_)
    refine y_sget (pc := 1207) (j := 3) (k := 1) C hX hbl hbA rfl (by decide) v1 rfl dL_law_1207 dL_law_1208 dL_law_1210 dL_law_1211 dL_law_1212 ?_
    refine y_callVi (pc := 1213) (h := A.length) (As := [.int (xs (i + 1).toNatClampNeg)]) (rest := [.int r]) C dL_law_1213 ml_L_157 (kX7_finds _ _ _ _ A M B1 (xs (i + 1).toNatClampNeg) (r, M1) e2) (hM_o A M B1) rfl rfl rfl (Nat.le_of_ble_eq_true rfl) (by decide) ?_
    refine y_ic_eq (pc := 1216) C dL_law_1216 (tgt := 1726) (by decide) (fun _ => ?_) (fun q => absurd rfl q)
    exact hn _ hI2
  by_cases c31 : x = (31 : Int32)
  · refine y_tableIn (pc := 39) (tgt := 1221) (off := 1182) C dL_law_39 (by rw [c31]; decide) (by rw [c31]; decide) (by rw [c31]; decide) (by decide) ?_
    obtain ⟨r, G1, A, M, B, M1, B1, e1, rfl, hA, e2, rfl, hI2⟩ := o_last k G (xs (i + 1).toNatClampNeg) hI
    refine y_aload_n (pc := 1221) C 0 dL_law_1221 rfl rfl ?_
    refine y_sget (pc := 1222) (j := 3) (k := 1) C hX hbl hbA rfl (by decide) v1 rfl dL_law_1222 dL_law_1223 dL_law_1225 dL_law_1226 dL_law_1227 ?_
    refine y_callVi (pc := 1228) (h := 0) (As := [.int (xs (i + 1).toNatClampNeg)]) (rest := []) C dL_law_1228 ml_L_158 (kX6_last _ _ _ _ G 0 (xs (i + 1).toNatClampNeg) (r, hG A M B1) e1) ho rfl rfl rfl (Nat.le_of_ble_eq_true rfl) (by decide) ?_
    refine y_aload_n (pc := 1231) C 1 dL_law_1231 rfl rfl (y_topr hA ?_)
    refine y_sget (pc := 1232) (j := 3) (k := 1) C hX hbl hbA rfl (by decide) v1 rfl dL_law_1232 dL_law_1233 dL_law_1235 dL_law_1236 dL_law_1237 ?_
    refine y_callVi (pc := 1238) (h := A.length) (As := [.int (xs (i + 1).toNatClampNeg)]) (rest := [.int r]) C dL_law_1238 ml_L_161 (kX7_last _ _ _ _ A M B1 (xs (i + 1).toNatClampNeg) (r, M1) e2) (hM_o A M B1) rfl rfl rfl (Nat.le_of_ble_eq_true rfl) (by decide) ?_
    refine y_ic_eq (pc := 1241) C dL_law_1241 (tgt := 1726) (by decide) (fun _ => ?_) (fun q => absurd rfl q)
    exact hn _ hI2
  by_cases c32 : x = (32 : Int32)
  · refine y_tableIn (pc := 39) (tgt := 1246) (off := 1207) C dL_law_39 (by rw [c32]; decide) (by rw [c32]; decide) (by rw [c32]; decide) (by decide) ?_
    obtain ⟨r, G1, A, M, B, M1, B1, e1, rfl, hA, e2, rfl, hI2⟩ := o_many k G  hI
    refine y_aload_n (pc := 1246) C 0 dL_law_1246 rfl rfl ?_
    refine y_callVi (pc := 1247) (h := 0) (As := []) (rest := []) C dL_law_1247 ml_L_162 (kX6_many _ _ _ _ G 0  (r, hG A M B1) e1) ho rfl rfl rfl (Nat.le_of_ble_eq_true rfl) (by decide) ?_
    refine y_aload_n (pc := 1250) C 1 dL_law_1250 rfl rfl (y_topr hA ?_)
    refine y_callVi (pc := 1251) (h := A.length) (As := []) (rest := [.int r]) C dL_law_1251 ml_L_165 (kX7_many _ _ _ _ A M B1  (r, M1) e2) (hM_o A M B1) rfl rfl rfl (Nat.le_of_ble_eq_true rfl) (by decide) ?_
    refine y_ic_eq (pc := 1254) C dL_law_1254 (tgt := 1726) (by decide) (fun _ => ?_) (fun q => absurd rfl q)
    exact hn _ hI2
  by_cases c33 : x = (33 : Int32)
  · refine y_tableIn (pc := 39) (tgt := 1259) (off := 1220) C dL_law_39 (by rw [c33]; decide) (by rw [c33]; decide) (by rw [c33]; decide) (by decide) ?_
    obtain ⟨r, G1, A, M, B, M1, B1, e1, rfl, hA, e2, rfl, hI2⟩ := o_fits k G (xs (i + 1).toNatClampNeg) hI
    refine y_aload_n (pc := 1259) C 0 dL_law_1259 rfl rfl ?_
    refine y_sget (pc := 1260) (j := 3) (k := 1) C hX hbl hbA rfl (by decide) v1 rfl dL_law_1260 dL_law_1261 dL_law_1263 dL_law_1264 dL_law_1265 ?_
    refine y_callVi (pc := 1266) (h := 0) (As := [.int (xs (i + 1).toNatClampNeg)]) (rest := []) C dL_law_1266 ml_L_166 (kX6_fits _ _ _ _ G 0 (xs (i + 1).toNatClampNeg) (r, hG A M B1) e1) ho rfl rfl rfl (Nat.le_of_ble_eq_true rfl) (by decide) ?_
    refine y_aload_n (pc := 1269) C 1 dL_law_1269 rfl rfl (y_topr hA ?_)
    refine y_sget (pc := 1270) (j := 3) (k := 1) C hX hbl hbA rfl (by decide) v1 rfl dL_law_1270 dL_law_1271 dL_law_1273 dL_law_1274 dL_law_1275 ?_
    refine y_callVi (pc := 1276) (h := A.length) (As := [.int (xs (i + 1).toNatClampNeg)]) (rest := [.int r]) C dL_law_1276 ml_L_169 (kX7_fits _ _ _ _ A M B1 (xs (i + 1).toNatClampNeg) (r, M1) e2) (hM_o A M B1) rfl rfl rfl (Nat.le_of_ble_eq_true rfl) (by decide) ?_
    refine y_ic_eq (pc := 1279) C dL_law_1279 (tgt := 1726) (by decide) (fun _ => ?_) (fun q => absurd rfl q)
    exact hn _ hI2
  by_cases c34 : x = (34 : Int32)
  · refine y_tableIn (pc := 39) (tgt := 1284) (off := 1245) C dL_law_39 (by rw [c34]; decide) (by rw [c34]; decide) (by rw [c34]; decide) (by decide) ?_
    obtain ⟨r, G1, A, M, B, M1, B1, e1, rfl, hA, e2, rfl, hI2⟩ := o_folds k G (xs (i + 1).toNatClampNeg) hI
    refine y_aload_n (pc := 1284) C 0 dL_law_1284 rfl rfl ?_
    refine y_sget (pc := 1285) (j := 3) (k := 1) C hX hbl hbA rfl (by decide) v1 rfl dL_law_1285 dL_law_1286 dL_law_1288 dL_law_1289 dL_law_1290 ?_
    refine y_callVi (pc := 1291) (h := 0) (As := [.int (xs (i + 1).toNatClampNeg)]) (rest := []) C dL_law_1291 ml_L_170 (kX6_folds _ _ _ _ G 0 (xs (i + 1).toNatClampNeg) (r, hG A M B1) e1) ho rfl rfl rfl (Nat.le_of_ble_eq_true rfl) (by decide) ?_
    refine y_aload_n (pc := 1294) C 1 dL_law_1294 rfl rfl (y_topr hA ?_)
    refine y_sget (pc := 1295) (j := 3) (k := 1) C hX hbl hbA rfl (by decide) v1 rfl dL_law_1295 dL_law_1296 dL_law_1298 dL_law_1299 dL_law_1300 ?_
    refine y_callVi (pc := 1301) (h := A.length) (As := [.int (xs (i + 1).toNatClampNeg)]) (rest := [.int r]) C dL_law_1301 ml_L_173 (kX7_folds _ _ _ _ A M B1 (xs (i + 1).toNatClampNeg) (r, M1) e2) (hM_o A M B1) rfl rfl rfl (Nat.le_of_ble_eq_true rfl) (by decide) ?_
    refine y_ic_eq (pc := 1304) C dL_law_1304 (tgt := 1726) (by decide) (fun _ => ?_) (fun q => absurd rfl q)
    exact hn _ hI2
  by_cases c35 : x = (35 : Int32)
  · refine y_tableIn (pc := 39) (tgt := 1309) (off := 1270) C dL_law_39 (by rw [c35]; decide) (by rw [c35]; decide) (by rw [c35]; decide) (by decide) ?_
    obtain ⟨r, G1, A, M, B, M1, B1, e1, rfl, hA, e2, rfl, hI2⟩ := o_pair k G (xs (i + 1).toNatClampNeg) hI
    refine y_aload_n (pc := 1309) C 0 dL_law_1309 rfl rfl ?_
    refine y_sget (pc := 1310) (j := 3) (k := 1) C hX hbl hbA rfl (by decide) v1 rfl dL_law_1310 dL_law_1311 dL_law_1313 dL_law_1314 dL_law_1315 ?_
    refine y_callVi (pc := 1316) (h := 0) (As := [.int (xs (i + 1).toNatClampNeg)]) (rest := []) C dL_law_1316 ml_L_174 (kX6_pair _ _ _ _ G 0 (xs (i + 1).toNatClampNeg) (r, hG A M B1) e1) ho rfl rfl rfl (Nat.le_of_ble_eq_true rfl) (by decide) ?_
    refine y_aload_n (pc := 1319) C 1 dL_law_1319 rfl rfl (y_topr hA ?_)
    refine y_sget (pc := 1320) (j := 3) (k := 1) C hX hbl hbA rfl (by decide) v1 rfl dL_law_1320 dL_law_1321 dL_law_1323 dL_law_1324 dL_law_1325 ?_
    refine y_callVi (pc := 1326) (h := A.length) (As := [.int (xs (i + 1).toNatClampNeg)]) (rest := [.int r]) C dL_law_1326 ml_L_177 (kX7_pair _ _ _ _ A M B1 (xs (i + 1).toNatClampNeg) (r, M1) e2) (hM_o A M B1) rfl rfl rfl (Nat.le_of_ble_eq_true rfl) (by decide) ?_
    refine y_ic_eq (pc := 1329) C dL_law_1329 (tgt := 1726) (by decide) (fun _ => ?_) (fun q => absurd rfl q)
    exact hn _ hI2
  by_cases c36 : x = (36 : Int32)
  · refine y_tableIn (pc := 39) (tgt := 1334) (off := 1295) C dL_law_39 (by rw [c36]; decide) (by rw [c36]; decide) (by rw [c36]; decide) (by decide) ?_
    obtain ⟨r, G1, A, M, B, M1, B1, e1, rfl, hA, e2, rfl, hI2⟩ := o_nested k G  hI
    refine y_aload_n (pc := 1334) C 0 dL_law_1334 rfl rfl ?_
    refine y_callVi (pc := 1335) (h := 0) (As := []) (rest := []) C dL_law_1335 ml_L_178 (kX6_nested _ _ _ _ G 0  (r, hG A M B1) e1) ho rfl rfl rfl (Nat.le_of_ble_eq_true rfl) (by decide) ?_
    refine y_aload_n (pc := 1338) C 1 dL_law_1338 rfl rfl (y_topr hA ?_)
    refine y_callVi (pc := 1339) (h := A.length) (As := []) (rest := [.int r]) C dL_law_1339 ml_L_181 (kX7_nested _ _ _ _ A M B1  (r, M1) e2) (hM_o A M B1) rfl rfl rfl (Nat.le_of_ble_eq_true rfl) (by decide) ?_
    refine y_ic_eq (pc := 1342) C dL_law_1342 (tgt := 1726) (by decide) (fun _ => ?_) (fun q => absurd rfl q)
    exact hn _ hI2
  by_cases c37 : x = (37 : Int32)
  · refine y_tableIn (pc := 39) (tgt := 1347) (off := 1308) C dL_law_39 (by rw [c37]; decide) (by rw [c37]; decide) (by rw [c37]; decide) (by decide) ?_
    obtain ⟨r, G1, A, M, B, M1, B1, e1, rfl, hA, e2, rfl, hI2⟩ := o_before k G (xs (i + 1).toNatClampNeg) hI
    refine y_aload_n (pc := 1347) C 0 dL_law_1347 rfl rfl ?_
    refine y_sget (pc := 1348) (j := 3) (k := 1) C hX hbl hbA rfl (by decide) v1 rfl dL_law_1348 dL_law_1349 dL_law_1351 dL_law_1352 dL_law_1353 ?_
    refine y_callVi (pc := 1354) (h := 0) (As := [.int (xs (i + 1).toNatClampNeg)]) (rest := []) C dL_law_1354 ml_L_182 (kX6_before _ _ _ _ G 0 (xs (i + 1).toNatClampNeg) (r, hG A M B1) e1) ho rfl rfl rfl (Nat.le_of_ble_eq_true rfl) (by decide) ?_
    refine y_aload_n (pc := 1357) C 1 dL_law_1357 rfl rfl (y_topr hA ?_)
    refine y_sget (pc := 1358) (j := 3) (k := 1) C hX hbl hbA rfl (by decide) v1 rfl dL_law_1358 dL_law_1359 dL_law_1361 dL_law_1362 dL_law_1363 ?_
    refine y_callVi (pc := 1364) (h := A.length) (As := [.int (xs (i + 1).toNatClampNeg)]) (rest := [.int r]) C dL_law_1364 ml_L_185 (kX7_before _ _ _ _ A M B1 (xs (i + 1).toNatClampNeg) (r, M1) e2) (hM_o A M B1) rfl rfl rfl (Nat.le_of_ble_eq_true rfl) (by decide) ?_
    refine y_ic_eq (pc := 1367) C dL_law_1367 (tgt := 1726) (by decide) (fun _ => ?_) (fun q => absurd rfl q)
    exact hn _ hI2
  by_cases c38 : x = (38 : Int32)
  · refine y_tableIn (pc := 39) (tgt := 1372) (off := 1333) C dL_law_39 (by rw [c38]; decide) (by rw [c38]; decide) (by rw [c38]; decide) (by decide) ?_
    obtain ⟨r, G1, A, M, B, M1, B1, e1, rfl, hA, e2, rfl, hI2⟩ := o_word k G (xs (i + 1).toNatClampNeg) hI
    refine y_aload_n (pc := 1372) C 0 dL_law_1372 rfl rfl ?_
    refine y_sget (pc := 1373) (j := 3) (k := 1) C hX hbl hbA rfl (by decide) v1 rfl dL_law_1373 dL_law_1374 dL_law_1376 dL_law_1377 dL_law_1378 ?_
    refine y_callVi (pc := 1379) (h := 0) (As := [.int (xs (i + 1).toNatClampNeg)]) (rest := []) C dL_law_1379 ml_L_186 (kX6_word _ _ _ _ G 0 (xs (i + 1).toNatClampNeg) (r, hG A M B1) e1) ho rfl rfl rfl (Nat.le_of_ble_eq_true rfl) (by decide) ?_
    refine y_aload_n (pc := 1382) C 1 dL_law_1382 rfl rfl (y_topr hA ?_)
    refine y_sget (pc := 1383) (j := 3) (k := 1) C hX hbl hbA rfl (by decide) v1 rfl dL_law_1383 dL_law_1384 dL_law_1386 dL_law_1387 dL_law_1388 ?_
    refine y_callVi (pc := 1389) (h := A.length) (As := [.int (xs (i + 1).toNatClampNeg)]) (rest := [.int r]) C dL_law_1389 ml_L_189 (kX7_word _ _ _ _ A M B1 (xs (i + 1).toNatClampNeg) (r, M1) e2) (hM_o A M B1) rfl rfl rfl (Nat.le_of_ble_eq_true rfl) (by decide) ?_
    refine y_ic_eq (pc := 1392) C dL_law_1392 (tgt := 1726) (by decide) (fun _ => ?_) (fun q => absurd rfl q)
    exact hn _ hI2
  by_cases c39 : x = (39 : Int32)
  · refine y_tableIn (pc := 39) (tgt := 1397) (off := 1358) C dL_law_39 (by rw [c39]; decide) (by rw [c39]; decide) (by rw [c39]; decide) (by decide) ?_
    obtain ⟨r, G1, A, M, B, M1, B1, e1, rfl, hA, e2, rfl, hI2⟩ := o_words k G  hI
    refine y_aload_n (pc := 1397) C 0 dL_law_1397 rfl rfl ?_
    refine y_callVi (pc := 1398) (h := 0) (As := []) (rest := []) C dL_law_1398 ml_L_190 (kX6_words _ _ _ _ G 0  (r, hG A M B1) e1) ho rfl rfl rfl (Nat.le_of_ble_eq_true rfl) (by decide) ?_
    refine y_aload_n (pc := 1401) C 1 dL_law_1401 rfl rfl (y_topr hA ?_)
    refine y_callVi (pc := 1402) (h := A.length) (As := []) (rest := [.int r]) C dL_law_1402 ml_L_193 (kX7_words _ _ _ _ A M B1  (r, M1) e2) (hM_o A M B1) rfl rfl rfl (Nat.le_of_ble_eq_true rfl) (by decide) ?_
    refine y_ic_eq (pc := 1405) C dL_law_1405 (tgt := 1726) (by decide) (fun _ => ?_) (fun q => absurd rfl q)
    exact hn _ hI2
  by_cases c40 : x = (40 : Int32)
  · refine y_tableIn (pc := 39) (tgt := 1410) (off := 1371) C dL_law_39 (by rw [c40]; decide) (by rw [c40]; decide) (by rw [c40]; decide) (by decide) ?_
    obtain ⟨r, G1, A, M, B, M1, B1, e1, rfl, hA, e2, rfl, hI2⟩ := o_rows k G (xs (i + 1).toNatClampNeg) hI
    refine y_aload_n (pc := 1410) C 0 dL_law_1410 rfl rfl ?_
    refine y_sget (pc := 1411) (j := 3) (k := 1) C hX hbl hbA rfl (by decide) v1 rfl dL_law_1411 dL_law_1412 dL_law_1414 dL_law_1415 dL_law_1416 ?_
    refine y_callVi (pc := 1417) (h := 0) (As := [.int (xs (i + 1).toNatClampNeg)]) (rest := []) C dL_law_1417 ml_L_194 (kX6_rows _ _ _ _ G 0 (xs (i + 1).toNatClampNeg) (r, hG A M B1) e1) ho rfl rfl rfl (Nat.le_of_ble_eq_true rfl) (by decide) ?_
    refine y_aload_n (pc := 1420) C 1 dL_law_1420 rfl rfl (y_topr hA ?_)
    refine y_sget (pc := 1421) (j := 3) (k := 1) C hX hbl hbA rfl (by decide) v1 rfl dL_law_1421 dL_law_1422 dL_law_1424 dL_law_1425 dL_law_1426 ?_
    refine y_callVi (pc := 1427) (h := A.length) (As := [.int (xs (i + 1).toNatClampNeg)]) (rest := [.int r]) C dL_law_1427 ml_L_197 (kX7_rows _ _ _ _ A M B1 (xs (i + 1).toNatClampNeg) (r, M1) e2) (hM_o A M B1) rfl rfl rfl (Nat.le_of_ble_eq_true rfl) (by decide) ?_
    refine y_ic_eq (pc := 1430) C dL_law_1430 (tgt := 1726) (by decide) (fun _ => ?_) (fun q => absurd rfl q)
    exact hn _ hI2
  by_cases c41 : x = (41 : Int32)
  · refine y_tableIn (pc := 39) (tgt := 1435) (off := 1396) C dL_law_39 (by rw [c41]; decide) (by rw [c41]; decide) (by rw [c41]; decide) (by decide) ?_
    obtain ⟨r, G1, A, M, B, M1, B1, e1, rfl, hA, e2, rfl, hI2⟩ := o_tally k G (xs (i + 1).toNatClampNeg) hI
    refine y_aload_n (pc := 1435) C 0 dL_law_1435 rfl rfl ?_
    refine y_sget (pc := 1436) (j := 3) (k := 1) C hX hbl hbA rfl (by decide) v1 rfl dL_law_1436 dL_law_1437 dL_law_1439 dL_law_1440 dL_law_1441 ?_
    refine y_callVi (pc := 1442) (h := 0) (As := [.int (xs (i + 1).toNatClampNeg)]) (rest := []) C dL_law_1442 ml_L_198 (kX6_tally _ _ _ _ G 0 (xs (i + 1).toNatClampNeg) (r, hG A M B1) e1) ho rfl rfl rfl (Nat.le_of_ble_eq_true rfl) (by decide) ?_
    refine y_aload_n (pc := 1445) C 1 dL_law_1445 rfl rfl (y_topr hA ?_)
    refine y_sget (pc := 1446) (j := 3) (k := 1) C hX hbl hbA rfl (by decide) v1 rfl dL_law_1446 dL_law_1447 dL_law_1449 dL_law_1450 dL_law_1451 ?_
    refine y_callVi (pc := 1452) (h := A.length) (As := [.int (xs (i + 1).toNatClampNeg)]) (rest := [.int r]) C dL_law_1452 ml_L_201 (kX7_tally _ _ _ _ A M B1 (xs (i + 1).toNatClampNeg) (r, M1) e2) (hM_o A M B1) rfl rfl rfl (Nat.le_of_ble_eq_true rfl) (by decide) ?_
    refine y_ic_eq (pc := 1455) C dL_law_1455 (tgt := 1726) (by decide) (fun _ => ?_) (fun q => absurd rfl q)
    exact hn _ hI2
  by_cases c42 : x = (42 : Int32)
  · refine y_tableIn (pc := 39) (tgt := 1460) (off := 1421) C dL_law_39 (by rw [c42]; decide) (by rw [c42]; decide) (by rw [c42]; decide) (by decide) ?_
    obtain ⟨r, G1, A, M, B, M1, B1, e1, rfl, hA, e2, rfl, hI2⟩ := o_alike k G (xs (i + 1).toNatClampNeg) (xs (i + 2).toNatClampNeg) hI
    refine y_aload_n (pc := 1460) C 0 dL_law_1460 rfl rfl ?_
    refine y_sget (pc := 1461) (j := 3) (k := 1) C hX hbl hbA rfl (by decide) v1 rfl dL_law_1461 dL_law_1462 dL_law_1464 dL_law_1465 dL_law_1466 ?_
    refine y_sget (pc := 1467) (j := 3) (k := 2) C hX hbl hbA rfl (by decide) v2 rfl dL_law_1467 dL_law_1468 dL_law_1470 dL_law_1471 dL_law_1472 ?_
    refine y_callVi (pc := 1473) (h := 0) (As := [.int (xs (i + 1).toNatClampNeg), .int (xs (i + 2).toNatClampNeg)]) (rest := []) C dL_law_1473 ml_L_202 (kX6_alike _ _ _ _ G 0 (xs (i + 1).toNatClampNeg) (xs (i + 2).toNatClampNeg) (r, hG A M B1) e1) ho rfl rfl rfl (Nat.le_of_ble_eq_true rfl) (by decide) ?_
    refine y_aload_n (pc := 1476) C 1 dL_law_1476 rfl rfl (y_topr hA ?_)
    refine y_sget (pc := 1477) (j := 3) (k := 1) C hX hbl hbA rfl (by decide) v1 rfl dL_law_1477 dL_law_1478 dL_law_1480 dL_law_1481 dL_law_1482 ?_
    refine y_sget (pc := 1483) (j := 3) (k := 2) C hX hbl hbA rfl (by decide) v2 rfl dL_law_1483 dL_law_1484 dL_law_1486 dL_law_1487 dL_law_1488 ?_
    refine y_callVi (pc := 1489) (h := A.length) (As := [.int (xs (i + 1).toNatClampNeg), .int (xs (i + 2).toNatClampNeg)]) (rest := [.int r]) C dL_law_1489 ml_L_205 (kX7_alike _ _ _ _ A M B1 (xs (i + 1).toNatClampNeg) (xs (i + 2).toNatClampNeg) (r, M1) e2) (hM_o A M B1) rfl rfl rfl (Nat.le_of_ble_eq_true rfl) (by decide) ?_
    refine y_ic_eq (pc := 1492) C dL_law_1492 (tgt := 1726) (by decide) (fun _ => ?_) (fun q => absurd rfl q)
    exact hn _ hI2
  by_cases c43 : x = (43 : Int32)
  · refine y_tableIn (pc := 39) (tgt := 1497) (off := 1458) C dL_law_39 (by rw [c43]; decide) (by rw [c43]; decide) (by rw [c43]; decide) (by decide) ?_
    obtain ⟨r, G1, A, M, B, M1, B1, e1, rfl, hA, e2, rfl, hI2⟩ := o_sum k G (xs (i + 1).toNatClampNeg) (xs (i + 2).toNatClampNeg) hI
    refine y_aload_n (pc := 1497) C 0 dL_law_1497 rfl rfl ?_
    refine y_sget (pc := 1498) (j := 3) (k := 1) C hX hbl hbA rfl (by decide) v1 rfl dL_law_1498 dL_law_1499 dL_law_1501 dL_law_1502 dL_law_1503 ?_
    refine y_sget (pc := 1504) (j := 3) (k := 2) C hX hbl hbA rfl (by decide) v2 rfl dL_law_1504 dL_law_1505 dL_law_1507 dL_law_1508 dL_law_1509 ?_
    refine y_callVi (pc := 1510) (h := 0) (As := [.int (xs (i + 1).toNatClampNeg), .int (xs (i + 2).toNatClampNeg)]) (rest := []) C dL_law_1510 ml_L_206 (kX6_sum _ _ _ _ G 0 (xs (i + 1).toNatClampNeg) (xs (i + 2).toNatClampNeg) (r, hG A M B1) e1) ho rfl rfl rfl (Nat.le_of_ble_eq_true rfl) (by decide) ?_
    refine y_aload_n (pc := 1513) C 1 dL_law_1513 rfl rfl (y_topr hA ?_)
    refine y_sget (pc := 1514) (j := 3) (k := 1) C hX hbl hbA rfl (by decide) v1 rfl dL_law_1514 dL_law_1515 dL_law_1517 dL_law_1518 dL_law_1519 ?_
    refine y_sget (pc := 1520) (j := 3) (k := 2) C hX hbl hbA rfl (by decide) v2 rfl dL_law_1520 dL_law_1521 dL_law_1523 dL_law_1524 dL_law_1525 ?_
    refine y_callVi (pc := 1526) (h := A.length) (As := [.int (xs (i + 1).toNatClampNeg), .int (xs (i + 2).toNatClampNeg)]) (rest := [.int r]) C dL_law_1526 ml_L_209 (kX7_sum _ _ _ _ A M B1 (xs (i + 1).toNatClampNeg) (xs (i + 2).toNatClampNeg) (r, M1) e2) (hM_o A M B1) rfl rfl rfl (Nat.le_of_ble_eq_true rfl) (by decide) ?_
    refine y_ic_eq (pc := 1529) C dL_law_1529 (tgt := 1726) (by decide) (fun _ => ?_) (fun q => absurd rfl q)
    exact hn _ hI2
  by_cases c44 : x = (44 : Int32)
  · refine y_tableIn (pc := 39) (tgt := 1534) (off := 1495) C dL_law_39 (by rw [c44]; decide) (by rw [c44]; decide) (by rw [c44]; decide) (by decide) ?_
    obtain ⟨r, G1, A, M, B, M1, B1, e1, rfl, hA, e2, hI2⟩ := o_differs k G (xs (i + 1).toNatClampNeg) hI
    refine y_aload_n (pc := 1534) C 0 dL_law_1534 rfl rfl ?_
    refine y_sget (pc := 1535) (j := 3) (k := 1) C hX hbl hbA rfl (by decide) v1 rfl dL_law_1535 dL_law_1536 dL_law_1538 dL_law_1539 dL_law_1540 ?_
    refine y_callVi (pc := 1541) (h := 0) (As := [.int (xs (i + 1).toNatClampNeg)]) (rest := []) C dL_law_1541 ml_L_210 (kX6_differs _ _ _ _ G 0 (xs (i + 1).toNatClampNeg) (r, hG A M B) e1) ho rfl rfl rfl (Nat.le_of_ble_eq_true rfl) (by decide) ?_
    refine y_aload_n (pc := 1544) C 1 dL_law_1544 rfl rfl (y_topr hA ?_)
    refine y_sget (pc := 1545) (j := 3) (k := 1) C hX hbl hbA rfl (by decide) v1 rfl dL_law_1545 dL_law_1546 dL_law_1548 dL_law_1549 dL_law_1550 ?_
    refine y_callVi (pc := 1551) (h := A.length) (As := [.int (xs (i + 1).toNatClampNeg)]) (rest := [.int r]) C dL_law_1551 ml_L_213 (kX7_differs _ _ _ _ A M B (xs (i + 1).toNatClampNeg) (r, M1, B1) e2) (hM_o A M B) rfl rfl rfl (Nat.le_of_ble_eq_true rfl) (by decide) ?_
    refine y_ic_eq (pc := 1554) C dL_law_1554 (tgt := 1726) (by decide) (fun _ => ?_) (fun q => absurd rfl q)
    exact hn _ hI2
  by_cases c45 : x = (45 : Int32)
  · refine y_tableIn (pc := 39) (tgt := 1559) (off := 1520) C dL_law_39 (by rw [c45]; decide) (by rw [c45]; decide) (by rw [c45]; decide) (by decide) ?_
    obtain ⟨r, G1, A, M, B, M1, B1, e1, rfl, hA, e2, hI2⟩ := o_years k G (xs (i + 1).toNatClampNeg) (xs (i + 2).toNatClampNeg) hI
    refine y_aload_n (pc := 1559) C 0 dL_law_1559 rfl rfl ?_
    refine y_sget (pc := 1560) (j := 3) (k := 1) C hX hbl hbA rfl (by decide) v1 rfl dL_law_1560 dL_law_1561 dL_law_1563 dL_law_1564 dL_law_1565 ?_
    refine y_sget (pc := 1566) (j := 3) (k := 2) C hX hbl hbA rfl (by decide) v2 rfl dL_law_1566 dL_law_1567 dL_law_1569 dL_law_1570 dL_law_1571 ?_
    refine y_callVi (pc := 1572) (h := 0) (As := [.int (xs (i + 1).toNatClampNeg), .int (xs (i + 2).toNatClampNeg)]) (rest := []) C dL_law_1572 ml_L_214 (kX6_years _ _ _ _ G 0 (xs (i + 1).toNatClampNeg) (xs (i + 2).toNatClampNeg) (r, hG A M B) e1) ho rfl rfl rfl (Nat.le_of_ble_eq_true rfl) (by decide) ?_
    refine y_aload_n (pc := 1575) C 1 dL_law_1575 rfl rfl (y_topr hA ?_)
    refine y_sget (pc := 1576) (j := 3) (k := 1) C hX hbl hbA rfl (by decide) v1 rfl dL_law_1576 dL_law_1577 dL_law_1579 dL_law_1580 dL_law_1581 ?_
    refine y_sget (pc := 1582) (j := 3) (k := 2) C hX hbl hbA rfl (by decide) v2 rfl dL_law_1582 dL_law_1583 dL_law_1585 dL_law_1586 dL_law_1587 ?_
    refine y_callVi (pc := 1588) (h := A.length) (As := [.int (xs (i + 1).toNatClampNeg), .int (xs (i + 2).toNatClampNeg)]) (rest := [.int r]) C dL_law_1588 ml_L_217 (kX7_years _ _ _ _ A M B (xs (i + 1).toNatClampNeg) (xs (i + 2).toNatClampNeg) (r, M1, B1) e2) (hM_o A M B) rfl rfl rfl (Nat.le_of_ble_eq_true rfl) (by decide) ?_
    refine y_ic_eq (pc := 1591) C dL_law_1591 (tgt := 1726) (by decide) (fun _ => ?_) (fun q => absurd rfl q)
    exact hn _ hI2
  by_cases c46 : x = (46 : Int32)
  · refine y_tableIn (pc := 39) (tgt := 1596) (off := 1557) C dL_law_39 (by rw [c46]; decide) (by rw [c46]; decide) (by rw [c46]; decide) (by decide) ?_
    obtain ⟨r, G1, A, M, B, M1, B1, e1, rfl, hA, e2, hI2⟩ := o_keep k G (xs (i + 1).toNatClampNeg) hI
    refine y_aload_n (pc := 1596) C 0 dL_law_1596 rfl rfl ?_
    refine y_sget (pc := 1597) (j := 3) (k := 1) C hX hbl hbA rfl (by decide) v1 rfl dL_law_1597 dL_law_1598 dL_law_1600 dL_law_1601 dL_law_1602 ?_
    refine y_callVi (pc := 1603) (h := 0) (As := [.int (xs (i + 1).toNatClampNeg)]) (rest := []) C dL_law_1603 ml_L_218 (kX6_keep _ _ _ _ G 0 (xs (i + 1).toNatClampNeg) (r, hG A M B) e1) ho rfl rfl rfl (Nat.le_of_ble_eq_true rfl) (by decide) ?_
    refine y_aload_n (pc := 1606) C 1 dL_law_1606 rfl rfl (y_topr hA ?_)
    refine y_sget (pc := 1607) (j := 3) (k := 1) C hX hbl hbA rfl (by decide) v1 rfl dL_law_1607 dL_law_1608 dL_law_1610 dL_law_1611 dL_law_1612 ?_
    refine y_callVi (pc := 1613) (h := A.length) (As := [.int (xs (i + 1).toNatClampNeg)]) (rest := [.int r]) C dL_law_1613 ml_L_221 (kX7_keep _ _ _ _ A M B (xs (i + 1).toNatClampNeg) (r, M1, B1) e2) (hM_o A M B) rfl rfl rfl (Nat.le_of_ble_eq_true rfl) (by decide) ?_
    refine y_ic_eq (pc := 1616) C dL_law_1616 (tgt := 1726) (by decide) (fun _ => ?_) (fun q => absurd rfl q)
    exact hn _ hI2
  by_cases c47 : x = (47 : Int32)
  · refine y_tableIn (pc := 39) (tgt := 1621) (off := 1582) C dL_law_39 (by rw [c47]; decide) (by rw [c47]; decide) (by rw [c47]; decide) (by decide) ?_
    obtain ⟨r, G1, A, M, B, M1, B1, e1, rfl, hA, e2, hI2⟩ := o_again k G (xs (i + 1).toNatClampNeg) hI
    refine y_aload_n (pc := 1621) C 0 dL_law_1621 rfl rfl ?_
    refine y_sget (pc := 1622) (j := 3) (k := 1) C hX hbl hbA rfl (by decide) v1 rfl dL_law_1622 dL_law_1623 dL_law_1625 dL_law_1626 dL_law_1627 ?_
    refine y_callVi (pc := 1628) (h := 0) (As := [.int (xs (i + 1).toNatClampNeg)]) (rest := []) C dL_law_1628 ml_L_222 (kX6_again _ _ _ _ G 0 (xs (i + 1).toNatClampNeg) (r, hG A M B) e1) ho rfl rfl rfl (Nat.le_of_ble_eq_true rfl) (by decide) ?_
    refine y_aload_n (pc := 1631) C 1 dL_law_1631 rfl rfl (y_topr hA ?_)
    refine y_sget (pc := 1632) (j := 3) (k := 1) C hX hbl hbA rfl (by decide) v1 rfl dL_law_1632 dL_law_1633 dL_law_1635 dL_law_1636 dL_law_1637 ?_
    refine y_callVi (pc := 1638) (h := A.length) (As := [.int (xs (i + 1).toNatClampNeg)]) (rest := [.int r]) C dL_law_1638 ml_L_225 (kX7_again _ _ _ _ A M B (xs (i + 1).toNatClampNeg) (r, M1, B1) e2) (hM_o A M B) rfl rfl rfl (Nat.le_of_ble_eq_true rfl) (by decide) ?_
    refine y_ic_eq (pc := 1641) C dL_law_1641 (tgt := 1726) (by decide) (fun _ => ?_) (fun q => absurd rfl q)
    exact hn _ hI2
  by_cases c48 : x = (48 : Int32)
  · refine y_tableIn (pc := 39) (tgt := 1646) (off := 1607) C dL_law_39 (by rw [c48]; decide) (by rw [c48]; decide) (by rw [c48]; decide) (by decide) ?_
    obtain ⟨r, G1, A, M, B, M1, B1, e1, rfl, hA, e2, rfl, hI2⟩ := o_count k G (xs (i + 1).toNatClampNeg) hI
    refine y_aload_n (pc := 1646) C 0 dL_law_1646 rfl rfl ?_
    refine y_sget (pc := 1647) (j := 3) (k := 1) C hX hbl hbA rfl (by decide) v1 rfl dL_law_1647 dL_law_1648 dL_law_1650 dL_law_1651 dL_law_1652 ?_
    refine y_callVi (pc := 1653) (h := 0) (As := [.int (xs (i + 1).toNatClampNeg)]) (rest := []) C dL_law_1653 ml_L_226 (kX6_count _ _ _ _ G 0 (xs (i + 1).toNatClampNeg) (r, hG A M B1) e1) ho rfl rfl rfl (Nat.le_of_ble_eq_true rfl) (by decide) ?_
    refine y_aload_n (pc := 1656) C 1 dL_law_1656 rfl rfl (y_topr hA ?_)
    refine y_sget (pc := 1657) (j := 3) (k := 1) C hX hbl hbA rfl (by decide) v1 rfl dL_law_1657 dL_law_1658 dL_law_1660 dL_law_1661 dL_law_1662 ?_
    refine y_callVi (pc := 1663) (h := A.length) (As := [.int (xs (i + 1).toNatClampNeg)]) (rest := [.int r]) C dL_law_1663 ml_L_229 (kX7_count _ _ _ _ A M B1 (xs (i + 1).toNatClampNeg) (r, M1) e2) (hM_o A M B1) rfl rfl rfl (Nat.le_of_ble_eq_true rfl) (by decide) ?_
    refine y_ic_eq (pc := 1666) C dL_law_1666 (tgt := 1726) (by decide) (fun _ => ?_) (fun q => absurd rfl q)
    exact hn _ hI2
  by_cases c49 : x = (49 : Int32)
  · refine y_tableIn (pc := 39) (tgt := 1671) (off := 1632) C dL_law_39 (by rw [c49]; decide) (by rw [c49]; decide) (by rw [c49]; decide) (by decide) ?_
    exact h_row k G i hI v0 v1 v2 v3 hn
  by_cases cd : x.toInt < 0 ∨ 49 < x.toInt
  · refine y_tableOut (pc := 39) (tgt := 1726) C dL_law_39 cd (by decide) ?_
    exact hn _ (hmono _ _ hI)
  · exfalso
    simp only [not_or, Int.not_lt] at cd
    have hz : ∀ z : Int32, 0 ≤ z.toInt → z.toInt ≤ 49 → z = Int32.ofInt z.toInt := fun z _ _ => (Int32.ofInt_toInt z).symm
    have hq := hz x cd.1 cd.2
    have hw : ∃ w : Nat, w < 50 ∧ x.toInt = (w : Int) := ⟨x.toInt.toNat, by omega, by omega⟩
    obtain ⟨w, hw, he⟩ := hw
    rw [he] at hq
    have hall : ∀ w : Nat, w < 50 → x = Int32.ofInt (w : Int) → False := fun w hw hq => match w, hw, hq with
      | 0, _, hq => c0 hq
      | 1, _, hq => c1 hq
      | 2, _, hq => c2 hq
      | 3, _, hq => c3 hq
      | 4, _, hq => c4 hq
      | 5, _, hq => c5 hq
      | 6, _, hq => c6 hq
      | 7, _, hq => c7 hq
      | 8, _, hq => c8 hq
      | 9, _, hq => c9 hq
      | 10, _, hq => c10 hq
      | 11, _, hq => c11 hq
      | 12, _, hq => c12 hq
      | 13, _, hq => c13 hq
      | 14, _, hq => c14 hq
      | 15, _, hq => c15 hq
      | 16, _, hq => c16 hq
      | 17, _, hq => c17 hq
      | 18, _, hq => c18 hq
      | 19, _, hq => c19 hq
      | 20, _, hq => c20 hq
      | 21, _, hq => c21 hq
      | 22, _, hq => c22 hq
      | 23, _, hq => c23 hq
      | 24, _, hq => c24 hq
      | 25, _, hq => c25 hq
      | 26, _, hq => c26 hq
      | 27, _, hq => c27 hq
      | 28, _, hq => c28 hq
      | 29, _, hq => c29 hq
      | 30, _, hq => c30 hq
      | 31, _, hq => c31 hq
      | 32, _, hq => c32 hq
      | 33, _, hq => c33 hq
      | 34, _, hq => c34 hq
      | 35, _, hq => c35 hq
      | 36, _, hq => c36 hq
      | 37, _, hq => c37 hq
      | 38, _, hq => c38 hq
      | 39, _, hq => c39 hq
      | 40, _, hq => c40 hq
      | 41, _, hq => c41 hq
      | 42, _, hq => c42 hq
      | 43, _, hq => c43 hq
      | 44, _, hq => c44 hq
      | 45, _, hq => c45 hq
      | 46, _, hq => c46 hq
      | 47, _, hq => c47 hq
      | 48, _, hq => c48 hq
      | 49, _, hq => c49 hq
      | w + 50, hw, _ => absurd hw (by omega)
    exact hall w hw hq
theorem law_L4 {L : Nat} (hL : L ≤ 2048) : (Int32.ofNat L - 4).toInt = (L : Int) - 4 := by
  have h1 : (nI L).toInt = (L : Int) := nI_toInt (by omega)
  rw [Int32.toInt_sub]
  rw [show (Int32.ofNat L).toInt = (L : Int) from h1, show (4 : Int32).toInt = 4 from rfl]
  have e := Int.bmod_eq_of_le (n := (L : Int) - 4) (m := 2 ^ 32) (by omega) (by omega)
  exact e
set_option maxRecDepth 100000 in
set_option maxHeartbeats 4000000 in
theorem law_loop {X : zX} {b0 L : Nat} {xs : Nat → Int32} {Inv : Nat → zH → Prop} (C : LC X) (hX : va_X b0 L xs X.1.2.2.2.2 X.1.2.2.2.2.heap) (hbl : b0 < X.1.2.2.2.2.heap.size) (hbA : b0 < X.2.2.1.2.2.1) (hL : L ≤ 2048) (hobj : ∀ k G, Inv k G → ∃ fs, G[0]? = some (.inr (6, fs))) (hmono : ∀ k G, Inv (k + 1) G → Inv k G) (ops : Ops Inv) (h_store : ∀ (k : Nat) (G : zH) (i : Int32), Inv (k + 1) G → vp_in i L → vp_in (i + 1) L → vp_in (i + 2) L → vp_in (i + 3) L → (∀ G', Inv k G' → yZ X b0 1726 (LV i) [] G') → yZ X b0 327 (LV i) [] G) (h_piece : ∀ (k : Nat) (G : zH) (i : Int32), Inv (k + 1) G → vp_in i L → vp_in (i + 1) L → vp_in (i + 2) L → vp_in (i + 3) L → (∀ G', Inv k G' → yZ X b0 1726 (LV i) [] G') → yZ X b0 1028 (LV i) [] G) (h_row : ∀ (k : Nat) (G : zH) (i : Int32), Inv (k + 1) G → vp_in i L → vp_in (i + 1) L → vp_in (i + 2) L → vp_in (i + 3) L → (∀ G', Inv k G' → yZ X b0 1726 (LV i) [] G') → yZ X b0 1671 (LV i) [] G) (hend : ∀ lv G, yZ X b0 1732 lv [] G) : ∀ (k j : Nat) (G : zH), (L - 4 * j) / 4 = k → 4 * j ≤ 2048 → Inv k G → yZ X b0 23 (LV (nI (4 * j))) [] G := by
  intro k
  induction k with
  | zero =>
    intro j G hk hj hI
    refine y_iload (pc := 23) C 3 dL_law_23 rfl ?_
    refine y_slen (pc := 25) C hX hbl hbA dL_law_25 dL_law_26 ?_
    refine y_iconst (pc := 27) C dL_law_27 (v := (4 : Int32)) (by decide) ?_
    refine y_isub (pc := 28) C dL_law_28 ?_
    refine y_ic_gt (pc := 29) C dL_law_29 (tgt := 1732) (by decide) (fun _ => hend _ _) (fun c => ?_)
    exfalso
    apply c
    rw [Int32.lt_iff_toInt_lt, law_L4 hL, nI_toInt (by omega)]
    omega
  | succ k ih =>
    intro j G hk hj hI
    have hj4 : 4 * j + 4 ≤ L := by omega
    have vv : ∀ d : Nat, d < 4 → vp_in (nI (4 * j + d)) L := fun d hd => vp_in_nI (by omega) (by omega)
    refine y_iload (pc := 23) C 3 dL_law_23 rfl ?_
    refine y_slen (pc := 25) C hX hbl hbA dL_law_25 dL_law_26 ?_
    refine y_iconst (pc := 27) C dL_law_27 (v := (4 : Int32)) (by decide) ?_
    refine y_isub (pc := 28) C dL_law_28 ?_
    refine y_ic_gt (pc := 29) C dL_law_29 (tgt := 1732) (by decide) (fun _ => hend _ _) (fun c => ?_)
    have n1 : nI (4 * j) + 1 = nI (4 * j + 1) := nI_1 _
    have n2 : nI (4 * j) + 2 = nI (4 * j + 2) := nI_add (4 * j) 2
    have n3 : nI (4 * j) + 3 = nI (4 * j + 3) := nI_add (4 * j) 3
    refine law_body C hX hbl hbA hobj hmono ops h_store h_piece h_row k G (nI (4 * j)) hI (vv 0 (by decide)) (by rw [n1]; exact vv 1 (by decide)) (by rw [n2]; exact vv 2 (by decide)) (by rw [n3]; exact vv 3 (by decide)) (fun G' hI' => ?_)
    refine y_iinc (pc := 1726) (v := nI (4 * (j + 1))) C 3 dL_law_1726 rfl (nI_add (4 * j) 4) (by decide) (by decide) (show zput _ _ _ = [(4, .int (nI (4 * (j + 1)))), (1, .ref 0), (2, .ref 27), (3, .ref 49)] from rfl) ?_
    refine y_goto (pc := 1729) C dL_law_1729 (tgt := 23) (by decide) ?_
    refine y_sub [1, 2, 3, 0] rfl ?_
    exact ih (j + 1) G' (by omega) (by omega) hI'
