import java.util.ArrayList;
import java.util.Arrays;
import java.util.HashMap;
import java.util.HashSet;
import java.util.List;
import java.util.Map;
import java.util.Set;
import java.util.TreeMap;

/**
 * The document once more, as plainly as it can be written and without regard to room or speed, so
 * that the program's answers can be compared with these.
 */
final class OvenModel {
    private static final int NONE = -1;

    private static final class Fault extends RuntimeException {
        final int kind;
        final int place;

        Fault(int kind, int place) {
            this.kind = kind;
            this.place = place;
        }
    }

    private record Token(String text, int place, boolean isGood) {
        boolean isWord() {
            return isGood && !text.isEmpty() && Character.isLowerCase(text.charAt(0));
        }

        boolean isNumber() {
            return isGood && !text.isEmpty() && Character.isDigit(text.charAt(0));
        }
    }

    private interface Node {
        int value(int deeds, int stay, int old, int heat, int said);
    }

    private static final Set<String> WORDS = new HashSet<>(Arrays.asList("deed", "soul", "needs", "stays", "feud",
            "with", "loaf", "heat", "draw", "or", "and", "not", "stay", "old", "said"));

    /** What a text tells. */
    private static final class Told {
        final List<String> deeds = new ArrayList<>();
        final List<String> souls = new ArrayList<>();
        final List<Integer> needs = new ArrayList<>();
        final List<Integer> stays = new ArrayList<>();
        final List<Set<Integer>> feuds = new ArrayList<>();
        Node loaf;
        int units;
        Integer heat;
        Integer draw;
    }

    private static final class Parser {
        final List<Token> tokens = new ArrayList<>();
        int at;
        final Told told = new Told();

        Parser(String text) {
            int i = 0;
            while (i < text.length()) {
                char c = text.charAt(i);
                if (c == 32 || c == 10) {
                    i++;
                    continue;
                }
                int j = i + 1;
                boolean isGood;
                if (c >= 'a' && c <= 'z') {
                    while (j < text.length() && text.charAt(j) >= 'a' && text.charAt(j) <= 'z') {
                        j++;
                    }
                    isGood = j - i <= 8;
                } else if (c >= '0' && c <= '9') {
                    while (j < text.length() && text.charAt(j) >= '0' && text.charAt(j) <= '9') {
                        j++;
                    }
                    isGood = j - i <= 4 && !(j < text.length() && text.charAt(j) >= 'a' && text.charAt(j) <= 'z');
                } else {
                    isGood = ";()<>=+-*/%".indexOf(c) >= 0;
                }
                tokens.add(new Token(text.substring(i, j), i, isGood));
                i = j;
            }
            tokens.add(new Token("", text.length(), true));
        }

        Token here() {
            return tokens.get(at);
        }

        boolean sees(String word) {
            return here().isGood && here().text.equals(word);
        }

        Fault fault(int kind) {
            return new Fault(here().isGood ? kind : 1, here().place);
        }

        void need(boolean good, int kind) {
            if (!good) {
                throw fault(kind);
            }
        }

        void eat(String word) {
            need(sees(word), 2);
            at++;
        }

        String name() {
            need(here().isWord() && !WORDS.contains(here().text), 2);
            return here().text;
        }

        int number(int most) {
            need(here().isNumber(), 2);
            int n = Integer.parseInt(here().text);
            need(n <= most, 4);
            at++;
            return n;
        }

        int soul() {
            int soul = told.souls.indexOf(name());
            need(soul >= 0, 5);
            return soul;
        }

        void all() {
            while (at < tokens.size() - 1) {
                line();
                eat(";");
            }
        }

        void line() {
            if (sees("deed")) {
                need(told.deeds.size() < 5, 2);
                at++;
                need(!told.deeds.contains(name()), 3);
                told.deeds.add(name());
                at++;
            } else if (sees("soul")) {
                need(told.souls.size() < 5, 2);
                at++;
                need(!told.souls.contains(name()), 3);
                told.souls.add(name());
                at++;
                eat("needs");
                told.needs.add(number(99));
                int stays = 0;
                if (sees("stays")) {
                    at++;
                    stays = number(99);
                }
                told.stays.add(stays);
            } else if (sees("feud")) {
                need(told.feuds.size() < 10, 2);
                at++;
                int one = soul();
                at++;
                eat("with");
                int other = soul();
                Set<Integer> two = new HashSet<>(Arrays.asList(one, other));
                need(two.size() == 2 && !told.feuds.contains(two), 3);
                told.feuds.add(two);
                at++;
            } else if (sees("loaf")) {
                need(told.loaf == null, 2);
                at++;
                told.loaf = e(0);
            } else if (sees("heat")) {
                need(told.heat == null, 2);
                at++;
                told.heat = number(9);
            } else if (sees("draw")) {
                need(told.draw == null, 2);
                at++;
                told.draw = number(999);
            } else {
                throw fault(2);
            }
        }

        Node e(int within) {
            Node left = both(within);
            while (sees("or")) {
                at++;
                Node a = left;
                Node b = both(within);
                left = (d, s, o, h, n) -> a.value(d, s, o, h, n) != 0 | b.value(d, s, o, h, n) != 0 ? 1 : 0;
            }
            return left;
        }

        Node both(int within) {
            Node left = one(within);
            while (sees("and")) {
                at++;
                Node a = left;
                Node b = one(within);
                left = (d, s, o, h, n) -> a.value(d, s, o, h, n) != 0 & b.value(d, s, o, h, n) != 0 ? 1 : 0;
            }
            return left;
        }

        Node one(int within) {
            if (sees("not")) {
                need(within <= 6, 2);
                at++;
                Node a = one(within + 1);
                return (d, s, o, h, n) -> a.value(d, s, o, h, n) == 0 ? 1 : 0;
            }
            Node a = sum(within);
            if (sees("<")) {
                at++;
                Node b = sum(within);
                return (d, s, o, h, n) -> a.value(d, s, o, h, n) < b.value(d, s, o, h, n) ? 1 : 0;
            }
            if (sees(">")) {
                at++;
                Node b = sum(within);
                return (d, s, o, h, n) -> a.value(d, s, o, h, n) > b.value(d, s, o, h, n) ? 1 : 0;
            }
            if (sees("=")) {
                at++;
                Node b = sum(within);
                return (d, s, o, h, n) -> a.value(d, s, o, h, n) == b.value(d, s, o, h, n) ? 1 : 0;
            }
            return a;
        }

        Node sum(int within) {
            Node left = term(within);
            while (sees("+") || sees("-")) {
                boolean isPlus = sees("+");
                at++;
                Node a = left;
                Node b = term(within);
                left = (d, s, o, h, n) -> isPlus
                        ? a.value(d, s, o, h, n) + b.value(d, s, o, h, n)
                        : a.value(d, s, o, h, n) - b.value(d, s, o, h, n);
            }
            return left;
        }

        Node term(int within) {
            Node left = unit(within);
            while (sees("*") || sees("/") || sees("%")) {
                char sign = here().text.charAt(0);
                at++;
                Node a = left;
                Node b = unit(within);
                left = (d, s, o, h, n) -> {
                    long p = a.value(d, s, o, h, n);
                    long q = b.value(d, s, o, h, n);
                    if (sign == '*') {
                        return (int) (p * q);
                    }
                    return q == 0 ? 0 : (int) (sign == '/' ? p / q : p % q);
                };
            }
            return left;
        }

        Node unit(int within) {
            Token token = here();
            boolean isName = token.isWord() && !WORDS.contains(token.text);
            boolean isUnit = token.isNumber() || isName || sees("stay") || sees("old") || sees("heat")
                    || sees("said") || sees("(");
            need(isUnit, 2);
            need(told.units < 30, 2);
            told.units++;
            if (sees("(")) {
                need(within <= 6, 2);
                at++;
                Node inner = e(within + 1);
                eat(")");
                return inner;
            }
            int deed = told.deeds.indexOf(token.text);
            need(!isName || deed >= 0, 5);
            at++;
            switch (token.text) {
                case "stay": return (d, s, o, h, n) -> s;
                case "old": return (d, s, o, h, n) -> o;
                case "heat": return (d, s, o, h, n) -> h;
                case "said": return (d, s, o, h, n) -> n;
                default:
            }
            if (isName) {
                return (d, s, o, h, n) -> (d >> deed) % 2;
            }
            int number = Integer.parseInt(token.text);
            return (d, s, o, h, n) -> number;
        }
    }

    private static final class State {
        int[] deeds;
        int[] says;
        int[] stays;
        int[] olds;
        int[] fed;
        int[] shamed;
        Set<Set<Integer>> feuds = new HashSet<>();
        int heat;
        int seed;
        int week;

        State copy() {
            State s = new State();
            s.deeds = deeds.clone();
            s.says = says.clone();
            s.stays = stays.clone();
            s.olds = olds.clone();
            s.fed = fed.clone();
            s.shamed = shamed.clone();
            s.feuds = new HashSet<>(feuds);
            s.heat = heat;
            s.seed = seed;
            s.week = week;
            return s;
        }
    }

    private record Report(int stay, int old, int heat, int loaf, int told, int[] untold) {
        boolean counts(int k) {
            return told <= k && !(untold.length > 0 && untold[0] > NONE && untold[0] <= k);
        }
    }

    private String tape = "";
    private Told told = new Told();
    private int faultKind;
    private int faultPlace = NONE;
    private State now;
    private List<State> past = new ArrayList<>();
    private List<State> future = new ArrayList<>();
    private Map<Integer, State> boxes = new HashMap<>();
    private List<Report> reports = new ArrayList<>();
    private List<Integer> lying = new ArrayList<>();
    private int time;

    OvenModel() {
        begin();
    }

    private void begin() {
        int n = told.souls.size();
        now = new State();
        now.deeds = new int[n];
        now.says = new int[n];
        Arrays.fill(now.says, NONE);
        now.stays = told.stays.stream().mapToInt(i -> i).toArray();
        now.olds = new int[n];
        now.fed = new int[n];
        now.shamed = new int[n];
        now.feuds = new HashSet<>(told.feuds);
        now.heat = told.heat == null ? 0 : told.heat;
        now.seed = told.draw == null ? 0 : told.draw;
        past = new ArrayList<>();
        future = new ArrayList<>();
        boxes = new HashMap<>();
        reports = new ArrayList<>();
        lying = new ArrayList<>();
    }

    private int n() {
        return told.souls.size();
    }

    private boolean isSoul(int soul) {
        return soul >= 0 && soul < n();
    }

    private boolean isDeed(int deed) {
        return deed >= 0 && deed < told.deeds.size();
    }

    private int formula(int deeds, int stay, int old, int heat, int said) {
        int value = told.loaf == null ? 10 : told.loaf.value(deeds, stay, old, heat, said);
        return value < 0 ? 0 : value > 99 ? 99 : value;
    }

    private static int said(int[] says) {
        int count = 0;
        for (int s : says) {
            count += s == NONE ? 0 : 1;
        }
        return count;
    }

    private int loaf(State s, int soul, int[] says) {
        return formula(s.deeds[soul], s.stays[soul], s.olds[soul], s.heat, said(says));
    }

    private boolean isStone(State s, int[] says) {
        for (Set<Integer> two : s.feuds) {
            boolean both = true;
            for (int soul : two) {
                both &= says[soul] != NONE;
            }
            if (both) {
                return true;
            }
        }
        return false;
    }

    private int gets(State s, int soul, int[] says) {
        if (says[soul] == NONE || isStone(s, says)) {
            return 0;
        }
        int claimed = 0;
        for (int other : says) {
            claimed += other == says[soul] ? 1 : 0;
        }
        return loaf(s, says[soul], says) / claimed;
    }

    private int together(int[] says) {
        int sum = 0;
        for (int soul = 0; soul < n(); soul++) {
            sum += gets(now, soul, says);
        }
        return sum;
    }

    private int fedSet(State s, int[] says) {
        int set = 0;
        for (int soul = 0; soul < n(); soul++) {
            if (gets(s, soul, says) >= told.needs.get(soul)) {
                set += 1 << soul;
            }
        }
        return set;
    }

    private int shame(int[] says) {
        int count = 0;
        for (int soul = 0; soul < n(); soul++) {
            count += says[soul] != NONE && says[soul] != soul ? 1 : 0;
        }
        return count;
    }

    private List<int[]> allSayings() {
        List<int[]> all = new ArrayList<>();
        all.add(new int[0]);
        for (int soul = 0; soul < n(); soul++) {
            List<int[]> longer = new ArrayList<>();
            for (int[] says : all) {
                for (int whose = NONE; whose < n(); whose++) {
                    int[] next = Arrays.copyOf(says, soul + 1);
                    next[soul] = whose;
                    longer.add(next);
                }
            }
            all = longer;
        }
        return all;
    }

    private void lay(int[] numbers) {
        lying = new ArrayList<>();
        for (int number : numbers) {
            lying.add(number);
        }
    }

    private void act() {
        past.add(now.copy());
        if (past.size() > 40) {
            past.remove(0);
        }
        future = new ArrayList<>();
    }

    int feed(int a, int b, int c, int d, int e) {
        if (tape.length() + 20 > 1600) {
            return NONE;
        }
        for (int number : new int[] {a, b, c, d, e}) {
            for (int i = 3; i >= 0; i--) {
                tape += (char) ((number >> (8 * i)) & 255);
            }
        }
        return tape.length();
    }

    int end(int n) {
        if (n < 0 || n > tape.length()) {
            return NONE;
        }
        tape = tape.substring(0, n);
        return n;
    }

    int village() {
        Parser parser = new Parser(tape);
        tape = "";
        try {
            parser.all();
        } catch (Fault fault) {
            faultKind = fault.kind;
            faultPlace = fault.place;
            return NONE;
        }
        faultKind = 0;
        faultPlace = NONE;
        told = parser.told;
        begin();
        return n();
    }

    int fault(int what) {
        return what == 0 ? faultKind : what == 1 ? faultPlace : NONE;
    }

    int soul(int soul, int what) {
        if (!isSoul(soul) || what < 0 || what > 9) {
            return -2;
        }
        int foes = 0;
        for (Set<Integer> two : now.feuds) {
            for (int other : two) {
                foes += two.contains(soul) && other != soul ? 1 << other : 0;
            }
        }
        return new int[] {told.needs.get(soul), now.deeds[soul], now.says[soul], now.stays[soul], now.olds[soul],
            loaf(now, soul, now.says), gets(now, soul, now.says), now.fed[soul], now.shamed[soul], foes}[what];
    }

    int does(int soul, int deed) {
        if (!isSoul(soul) || !isDeed(deed)) {
            return NONE;
        }
        act();
        now.deeds[soul] ^= 1 << deed;
        return now.deeds[soul];
    }

    int says(int soul, int whose) {
        if (!isSoul(soul) || whose != NONE && !isSoul(whose)) {
            return NONE;
        }
        act();
        now.says[soul] = whose;
        return whose == NONE ? 0 : Integer.bitCount(claims(whose));
    }

    int feud(int soul, int other) {
        if (!isSoul(soul) || !isSoul(other) || soul == other) {
            return NONE;
        }
        act();
        Set<Integer> two = new HashSet<>(Arrays.asList(soul, other));
        if (now.feuds.remove(two)) {
            return 0;
        }
        now.feuds.add(two);
        return 1;
    }

    int bread() {
        if (now.week >= 999) {
            return NONE;
        }
        act();
        int set = fedSet(now, now.says);
        now = behindBread(now, (now.seed * 137 + 71) % 1000);
        return set;
    }

    private State behindBread(State s, int seed) {
        State next = s.copy();
        int set = fedSet(s, s.says);
        for (int soul = 0; soul < n(); soul++) {
            next.fed[soul] += (set >> soul) & 1;
            next.shamed[soul] += s.says[soul] != NONE && s.says[soul] != soul ? 1 : 0;
            next.olds[soul] = loaf(s, soul, s.says);
            next.stays[soul] = Math.min(99, s.stays[soul] + 1);
            next.deeds[soul] = 0;
            next.says[soul] = NONE;
        }
        next.seed = seed;
        next.heat = seed % 10;
        next.week++;
        return next;
    }

    boolean undo() {
        if (past.isEmpty()) {
            return false;
        }
        future.add(now);
        now = past.remove(past.size() - 1);
        return true;
    }

    boolean redo() {
        if (future.isEmpty()) {
            return false;
        }
        past.add(now);
        now = future.remove(future.size() - 1);
        return true;
    }

    boolean stone() {
        return isStone(now, now.says);
    }

    int fed() {
        return fedSet(now, now.says);
    }

    int feeds(int set) {
        lying = new ArrayList<>();
        int best = NONE;
        if (set >= 0 && set < 1 << n()) {
            for (int[] says : allSayings()) {
                if ((fedSet(now, says) & set) == set && (best == NONE || shame(says) < best)) {
                    best = shame(says);
                    lay(says);
                }
            }
        }
        return best;
    }

    int richest() {
        int best = NONE;
        for (int[] says : allSayings()) {
            int sum = together(says);
            if (sum > best) {
                best = sum;
                lay(says);
            }
        }
        return best;
    }

    private boolean isSteady(int[] says) {
        for (int soul = 0; soul < n(); soul++) {
            int gotten = gets(now, soul, says);
            for (int whose = NONE; whose < n(); whose++) {
                int[] other = says.clone();
                other[soul] = whose;
                if (gets(now, soul, other) > gotten) {
                    return false;
                }
            }
        }
        return true;
    }

    int steady() {
        lying = new ArrayList<>();
        int count = 0;
        for (int[] says : allSayings()) {
            if (isSteady(says)) {
                if (count == 0) {
                    lay(says);
                }
                count++;
            }
        }
        return count;
    }

    boolean isSteady() {
        return isSteady(now.says);
    }

    private int[] round(int[] before) {
        int[] says = before.clone();
        for (int soul = 0; soul < n(); soul++) {
            int most = 0;
            for (int whose = NONE; whose < n(); whose++) {
                int[] other = says.clone();
                other[soul] = whose;
                most = Math.max(most, gets(now, soul, other));
            }
            for (int whose = NONE; whose < n() && gets(now, soul, says) < most; whose++) {
                says[soul] = whose;
            }
        }
        return says;
    }

    int rest() {
        int[] says = now.says;
        for (int rounds = 0; rounds <= 50; rounds++) {
            int[] next = round(says);
            if (Arrays.equals(next, says)) {
                lay(says);
                return rounds;
            }
            says = next;
        }
        lying = new ArrayList<>();
        return NONE;
    }

    int silent() {
        int best = NONE;
        for (int set = 0; set < 1 << n(); set++) {
            int[] says = now.says.clone();
            boolean allSay = true;
            for (int soul = 0; soul < n(); soul++) {
                if ((set >> soul) % 2 == 1) {
                    allSay &= says[soul] != NONE;
                    says[soul] = NONE;
                }
            }
            if (allSay && !isStone(now, says) && (best == NONE || Integer.bitCount(set) < Integer.bitCount(best))) {
                best = set;
            }
        }
        return best;
    }

    int spoiler(int what) {
        int who = NONE;
        int most = NONE;
        for (int soul = 0; soul < n(); soul++) {
            if (now.says[soul] != NONE) {
                int[] says = now.says.clone();
                says[soul] = NONE;
                if (together(says) > most) {
                    most = together(says);
                    who = soul;
                }
            }
        }
        return what == 0 ? who : what == 1 ? most : NONE;
    }

    int claims(int whose) {
        if (!isSoul(whose)) {
            return NONE;
        }
        int set = 0;
        for (int soul = 0; soul < n(); soul++) {
            set += now.says[soul] == whose ? 1 << soul : 0;
        }
        return set;
    }

    int peace(int what) {
        int best = 0;
        for (int set = 0; set < 1 << n(); set++) {
            boolean isPeace = true;
            for (Set<Integer> two : now.feuds) {
                int bits = 0;
                for (int soul : two) {
                    bits |= 1 << soul;
                }
                isPeace &= (bits & set) != bits;
            }
            if (isPeace && Integer.bitCount(set) > Integer.bitCount(best)) {
                best = set;
            }
        }
        return what == 0 ? Integer.bitCount(best) : what == 1 ? best : NONE;
    }

    /** Tries every row of partners, also those that are none, in their order. */
    int pairs() {
        int best = NONE;
        for (int[] with : allSayings()) {
            int worth = 0;
            boolean isGood = true;
            for (int soul = 0; soul < n() && isGood; soul++) {
                int other = with[soul];
                if (other != NONE) {
                    isGood = other != soul && with[other] == soul
                            && !now.feuds.contains(new HashSet<>(Arrays.asList(soul, other)));
                    worth += soul < other ? Math.min(loaf(now, soul, now.says), loaf(now, other, now.says)) : 0;
                }
            }
            if (isGood && worth > best) {
                best = worth;
                lay(with);
            }
        }
        return best;
    }

    int alike() {
        int count = 0;
        for (int i = 0; i < n(); i++) {
            for (int j = 0; j < i; j++) {
                count += loaf(now, i, now.says) == loaf(now, j, now.says) ? 1 : 0;
            }
        }
        return count;
    }

    int makes(int soul, int loaf) {
        int sets = 0;
        if (isSoul(soul)) {
            State other = now.copy();
            for (int set = 0; set < 1 << told.deeds.size(); set++) {
                other.deeds[soul] = set;
                sets |= loaf(other, soul, now.says) == loaf ? 1 << set : 0;
            }
        }
        return sets;
    }

    int wants(int soul, int least, int what) {
        if (!isSoul(soul) || what < 0 || what > 1) {
            return NONE;
        }
        for (int size = 0; size <= 5; size++) {
            for (int set = 0; set < 1 << told.deeds.size(); set++) {
                State other = now.copy();
                other.deeds[soul] = set;
                if (Integer.bitCount(set) == size && loaf(other, soul, now.says) >= least) {
                    return what == 0 ? size : set;
                }
            }
        }
        return NONE;
    }

    int warm(int soul, int least) {
        if (!isSoul(soul)) {
            return NONE;
        }
        int heats = 0;
        for (int heat = 0; heat < 10; heat++) {
            State other = now.copy();
            other.heat = heat;
            heats += loaf(other, soul, now.says) >= least ? 1 << heat : 0;
        }
        return heats;
    }

    int will(int soul, int n) {
        if (!isSoul(soul) || n < 0 || n > 60) {
            return NONE;
        }
        State s = now;
        for (int i = 0; i < n; i++) {
            s = behindBread(s, (s.seed * 137 + 71) % 1000);
        }
        return loaf(s, soul, s.says);
    }

    private int hits(State s, int soul, int n, int least) {
        if (n == 0) {
            return loaf(s, soul, s.says) >= least ? 1 : 0;
        }
        int sum = 0;
        for (int heat = 0; heat < 10; heat++) {
            sum += hits(behindBread(s, heat), soul, n - 1, least);
        }
        return sum;
    }

    int odds(int soul, int n, int least, int part) {
        if (!isSoul(soul) || n < 0 || n > 6 || part < 0 || part > 1) {
            return NONE;
        }
        int upper = hits(now, soul, n, least);
        int lower = (int) Math.round(Math.pow(10, n));
        for (int by : new int[] {2, 5}) {
            while (upper % by == 0 && lower % by == 0) {
                upper /= by;
                lower /= by;
            }
        }
        return part == 0 ? upper : upper == 0 ? 1 : lower;
    }

    int soonest(int soul, int least) {
        for (int n = 0; n <= 60 && isSoul(soul); n++) {
            if (will(soul, n) >= least) {
                return n;
            }
        }
        return NONE;
    }

    int lies(int i) {
        return i >= 0 && i < lying.size() ? lying.get(i) : -2;
    }

    int report(int stay, int old, int heat, int loaf) {
        boolean canBe = stay >= 0 && stay < 100 && old >= 0 && old < 100 && heat >= 0 && heat < 10 && loaf >= 0
                && loaf < 100;
        if (!canBe || reports.size() == 30) {
            return NONE;
        }
        reports.add(new Report(stay, old, heat, loaf, time, new int[] {NONE}));
        return reports.size() - 1;
    }

    boolean untell(int report) {
        if (report < 0 || report >= reports.size() || reports.get(report).untold[0] != NONE) {
            return false;
        }
        reports.get(report).untold[0] = time;
        return true;
    }

    int later(int by) {
        if (by < 0 || by > 1000 || time + by > 100000) {
            return NONE;
        }
        time += by;
        return time;
    }

    private List<Integer> fitting(int k) {
        List<Integer> fitting = new ArrayList<>();
        for (int set = 0; set < 1 << told.deeds.size(); set++) {
            boolean fits = true;
            for (Report r : reports) {
                fits &= !r.counts(k) || formula(set, r.stay, r.old, r.heat, 0) == r.loaf;
            }
            if (fits) {
                fitting.add(set);
            }
        }
        return fitting;
    }

    int fit(int k) {
        return fitting(k).size();
    }

    int sets(int k) {
        int bits = 0;
        for (int set : fitting(k)) {
            bits |= 1 << set;
        }
        return bits;
    }

    int sure(int deed, int k) {
        List<Integer> fitting = fitting(k);
        if (fitting.isEmpty() || !isDeed(deed)) {
            return NONE;
        }
        long having = fitting.stream().filter(set -> (set >> deed) % 2 == 1).count();
        return having == 0 ? 0 : having == fitting.size() ? 1 : -2;
    }

    private Map<Integer, List<Integer>> parts(List<Integer> sets, int stay, int old, int heat) {
        Map<Integer, List<Integer>> parts = new TreeMap<>();
        for (int set : sets) {
            parts.computeIfAbsent(formula(set, stay, old, heat, 0), x -> new ArrayList<>()).add(set);
        }
        return parts;
    }

    int ask(int stay, int old, int what, int k) {
        List<Integer> fitting = fitting(k);
        if (fitting.isEmpty() || stay < 0 || stay > 99 || old < 0 || old > 99 || what < 0 || what > 1) {
            return NONE;
        }
        int best = NONE;
        int fewest = 99;
        for (int heat = 0; heat < 10; heat++) {
            int most = 0;
            for (List<Integer> part : parts(fitting, stay, old, heat).values()) {
                most = Math.max(most, part.size());
            }
            if (most < fewest) {
                fewest = most;
                best = heat;
            }
        }
        return what == 0 ? best : fewest;
    }

    /** Whether so many LOAVES are enough, by a told first heat (NONE: any). */
    private boolean isEnough(List<Integer> sets, int loaves, int first) {
        if (sets.size() == 1) {
            return true;
        }
        if (loaves == 0) {
            return false;
        }
        for (int heat = 0; heat < 10; heat++) {
            if (first == NONE || first == heat) {
                boolean isGood = true;
                for (List<Integer> part : parts(sets, 0, 0, heat).values()) {
                    isGood = isGood && part.size() < sets.size() && isEnough(part, loaves - 1, NONE);
                }
                if (isGood) {
                    return true;
                }
            }
        }
        return false;
    }

    int course(int what, int k) {
        List<Integer> fitting = fitting(k);
        if (fitting.isEmpty() || what < 0 || what > 1) {
            return NONE;
        }
        if (fitting.size() > 10) {
            return -2;
        }
        for (int loaves = 0; loaves < 10; loaves++) {
            if (isEnough(fitting, loaves, NONE)) {
                for (int heat = 0; heat < 10 && what == 1 && fitting.size() > 1; heat++) {
                    if (isEnough(fitting, loaves, heat)) {
                        return heat;
                    }
                }
                return what == 0 ? loaves : NONE;
            }
        }
        return NONE;
    }

    int image(int box) {
        if (box < 0 || box > 2) {
            return NONE;
        }
        boxes.put(box, now.copy());
        return now.week;
    }

    int back(int box) {
        if (!boxes.containsKey(box)) {
            return NONE;
        }
        now = boxes.get(box).copy();
        past = new ArrayList<>();
        future = new ArrayList<>();
        return now.week;
    }

    int about(int what) {
        if (what < 0 || what > 13) {
            return NONE;
        }
        return new int[] {n(), told.deeds.size(), now.feuds.size(), now.heat, now.seed, now.week, said(now.says),
            past.size(), future.size(), reports.size(), time, tape.length(), told.units, lying.size()}[what];
    }
}
