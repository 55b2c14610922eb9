/-! the reference's pure loops -/
def fre (r : Rw) (v : Int) : Bool := decide (fs (fun i => hds r i v || decide (fl r i 3 = v)) 0 (r 0) = -1)
def ffr (r : Rw) : Int := fs (fre r) (r 5) (r 6 + 1)
