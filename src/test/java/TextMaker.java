import java.util.ArrayList;
import java.util.List;
import java.util.Random;

/** Makes texts of VILLAGES, most of them good, some with a FAULT. */
final class TextMaker {
    private static final String[] NAMES = {"a", "b", "lie", "help", "abcdefgh", "or", "stay", "c", "d", "ab", "x", "y"};
    private static final String[] ODD = {"$", ";", "(", ")", "<", "and", "or", "not", "12", "12345", "100", "1a", "stays",
        "abcdefghi", "A", "heat", "loaf", "deed", "feud", "with", "\t", "\u00e9", "a", "7", "=", "0007", "-", "%"};
    private final Random random;
    private final List<String> tokens = new ArrayList<>();
    private final List<String> deeds = new ArrayList<>();
    private final List<String> souls = new ArrayList<>();

    TextMaker(Random random) {
        this.random = random;
    }

    String make(boolean mayFault) {
        tokens.clear();
        deeds.clear();
        souls.clear();
        boolean isWild = mayFault && random.nextInt(3) == 0;
        int wantedDeeds = isWild ? random.nextInt(7) : random.nextInt(6);
        for (int i = 0; i < wantedDeeds; i++) {
            add("deed", fresh(deeds, isWild), ";");
        }
        int wantedSouls = isWild ? random.nextInt(7) : random.nextInt(6);
        for (int i = 0; i < wantedSouls; i++) {
            add("soul", fresh(souls, isWild), "needs", "" + random.nextInt(random.nextInt(4) == 0 ? 100 : 15));
            if (random.nextInt(2) == 0) {
                add("stays", "" + random.nextInt(random.nextInt(3) == 0 ? 100 : 6));
            }
            add(";");
        }
        addFeuds(isWild);
        for (int i = 0; i < 3; i++) {
            if (random.nextInt(8) != 0) {
                addSingle(i);
            }
        }
        if (isWild && random.nextInt(4) == 0) {
            addSingle(random.nextInt(3));
        }
        for (int i = mayFault && !isWild ? random.nextInt(3) : 0; i > 0; i--) {
            spoil();
        }
        return write();
    }

    private void add(String... more) {
        for (String token : more) {
            tokens.add(token);
        }
    }

    private String fresh(List<String> names, boolean isWild) {
        String name = NAMES[random.nextInt(NAMES.length)];
        while (!isWild && (name.equals("or") || name.equals("stay") || names.contains(name))) {
            name = NAMES[random.nextInt(NAMES.length)];
        }
        names.add(name);
        return name;
    }

    private void addFeuds(boolean isWild) {
        List<String> done = new ArrayList<>();
        int wanted = random.nextInt(isWild ? 12 : 5);
        for (int i = 0; i < wanted && !souls.isEmpty(); i++) {
            int one = random.nextInt(souls.size());
            int other = random.nextInt(souls.size());
            String two = Math.min(one, other) + " " + Math.max(one, other);
            if (isWild && random.nextInt(9) == 0 || one != other && !done.contains(two)) {
                done.add(two);
                add("feud", souls.get(one), "with", souls.get(other), ";");
            }
        }
    }

    private void addSingle(int which) {
        if (which == 0) {
            add("loaf");
            int kind = random.nextInt(10);
            if (kind < 2) {
                addByHeat(1 + random.nextInt(5));
            } else if (kind < 5) {
                addSum(2 + random.nextInt(4));
            } else if (kind < 9) {
                addE(1 + random.nextInt(3));
            } else {
                addE(4 + random.nextInt(5));
            }
            add(";");
        } else if (which == 1) {
            add("heat", "" + random.nextInt(random.nextInt(20) == 0 ? 12 : 10), ";");
        } else {
            add("draw", "" + random.nextInt(random.nextInt(20) == 0 ? 1100 : 1000), ";");
        }
    }

    /** A loaf that is seldom all 0 or all 99. */
    private void addSum(int terms) {
        add("" + random.nextInt(20));
        for (int i = 0; i < terms; i++) {
            add(random.nextInt(4) == 0 ? "-" : "+");
            add(leaf());
            if (random.nextInt(2) == 0) {
                add(random.nextInt(5) == 0 ? "/" : random.nextInt(6) == 0 ? "%" : "*");
                if (random.nextInt(4) == 0) {
                    add("(", leaf(), random.nextBoolean() ? "<" : "=", leaf(), ")");
                } else {
                    add(random.nextInt(3) == 0 ? leaf() : "" + random.nextInt(9));
                }
            }
        }
    }

    /** A loaf that tells little by each heat, so that many are due to know the DEEDS. */
    private void addByHeat(int terms) {
        add("" + random.nextInt(20));
        for (int i = 0; i < terms; i++) {
            add("+", "(", "heat", random.nextInt(3) == 0 ? "<" : "=", "" + random.nextInt(10), ")", "*", leaf());
            if (random.nextInt(3) == 0) {
                add("*", leaf());
            }
        }
    }

    private String leaf() {
        int kind = random.nextInt(9);
        if (kind < 4 && !deeds.isEmpty()) {
            return deeds.get(random.nextInt(deeds.size()));
        }
        if (kind < 8) {
            return new String[] {"stay", "old", "heat", "said"}[random.nextInt(4)];
        }
        return "" + random.nextInt(random.nextInt(3) == 0 ? 10000 : 20);
    }

    private void addE(int depth) {
        int kind = random.nextInt(12);
        if (depth == 0 || kind < 2) {
            add(leaf());
        } else if (kind < 4) {
            add("(");
            addE(depth - 1);
            add(")");
        } else if (kind < 5) {
            add("not");
            addE(depth - 1);
        } else {
            String joining = new String[] {"or", "and", "<", ">", "=", "+", "-", "*", "/", "%"}[random.nextInt(10)];
            addSide(depth, joining);
            add(joining);
            addSide(depth, joining);
        }
    }

    private void addSide(int depth, String joining) {
        boolean isBare = joining.equals("or") || joining.equals("and") || random.nextInt(8) == 0;
        if (!isBare && depth > 1) {
            add("(");
        }
        addE(isBare || depth > 1 ? depth - 1 : 0);
        if (!isBare && depth > 1) {
            add(")");
        }
    }

    private void spoil() {
        if (tokens.isEmpty()) {
            return;
        }
        int at = random.nextInt(tokens.size());
        String odd = ODD[random.nextInt(ODD.length)];
        switch (random.nextInt(4)) {
            case 0: tokens.remove(at); break;
            case 1: tokens.add(at, odd); break;
            case 2: tokens.set(at, odd); break;
            default: tokens.subList(at, tokens.size()).clear();
        }
    }

    /** Blanks stand where words or numbers would run together, and sometimes elsewhere. */
    private String write() {
        StringBuilder text = new StringBuilder();
        char last = ' ';
        for (String token : tokens) {
            char first = token.charAt(0);
            boolean isNeeded = Character.isLetter(last) && Character.isLetter(first)
                    || Character.isDigit(last) && Character.isLetterOrDigit(first);
            if (isNeeded && random.nextInt(300) != 0 || random.nextInt(6) == 0) {
                text.append(random.nextInt(5) == 0 ? "\n" : random.nextInt(5) == 0 ? "  " : " ");
            }
            text.append(token);
            last = token.charAt(token.length() - 1);
        }
        if (random.nextInt(10) == 0) {
            text.append(" ");
        }
        return text.length() > 1600 ? text.substring(0, 1600) : text.toString();
    }
}
