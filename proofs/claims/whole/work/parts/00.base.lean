/-! UPDATES of a function at one place -/
def gz_u {α : Type} (f : Int → α) (i : Int) (x : α) : Int → α := fun j => if j = i then x else f j
def gz_ul (f : Int → Int64) (i : Int) (x : Int64) : Int → Int64 := fun j => if j = i then x else f j
theorem gz_us {α : Type} (f : Int → α) (i : Int) (x : α) : gz_u f i x i = x := if_pos rfl
theorem gz_un {α : Type} (f : Int → α) {i j : Int} (x : α) (h : j ≠ i) : gz_u f i x j = f j := if_neg h
theorem gz_uls (f : Int → Int64) (i : Int) (x : Int64) : gz_ul f i x i = x := if_pos rfl
theorem gz_uln (f : Int → Int64) {i j : Int} (x : Int64) (h : j ≠ i) : gz_ul f i x j = f j := if_neg h
