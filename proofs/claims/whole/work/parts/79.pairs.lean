/-! THE PAIRS THAT ARE STILL TO PROVE: written by program (wip/whole/gen/law.py) -/
