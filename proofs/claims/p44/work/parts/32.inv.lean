/-! what holds between the class and the reference at each call -/
def bt (z : Int) : Int := if z < 128 then z else z - 256
/-! host, rule, size, name, plans, holder -/
