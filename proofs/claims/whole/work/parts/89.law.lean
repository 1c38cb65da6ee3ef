theorem law_all : am_Law := sorry
