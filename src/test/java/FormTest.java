import java.lang.management.ManagementFactory;
import java.lang.reflect.Member;
import java.lang.reflect.Method;
import java.lang.reflect.Modifier;
import java.nio.file.Files;
import java.nio.file.Path;
import java.util.Arrays;
import java.util.List;
import java.util.Random;
import java.util.Set;
import java.util.TreeSet;
import java.util.regex.Matcher;
import java.util.regex.Pattern;

/** Rules of LANGUAGE.md that can be seen from outside, and that no call makes an object. */
public final class FormTest {
    private static final String[] FACE = {"feed 5", "end 1", "village 0", "fault 1", "soul 2", "does 2", "says 2", "feud 2",
        "bread 0", "undo 0", "redo 0", "stone 0", "fed 0", "feeds 1", "richest 0", "steady 0", "isSteady 0", "rest 0",
        "silent 0", "spoiler 1", "claims 1", "peace 1", "pairs 0", "alike 0", "makes 2", "wants 3", "warm 2", "will 2",
        "odds 4", "soonest 2", "lies 1", "report 4", "untell 1", "later 1", "fit 1", "sets 1", "sure 2", "ask 4",
        "course 2", "image 1", "back 1", "about 1"};
    private static final List<String> BOOLEANS = List.of("undo", "redo", "stone", "isSteady", "untell");
    private static final String[] FORBIDDEN = {"throw", "throws", "try", "catch", "finally", "synchronized", "assert",
        "protected", "instanceof Object", "->", "::", "while (true)", "for (;;)", "Exact", "System.out", "System.in",
        "System.nano", "System.current", "Random", "Thread", "hashCode", "toString", "MAX_VALUE", "MIN_VALUE", "Object"};

    private static final Due DUE = new Due("FormTest");

    public static void main(String[] args) throws Exception {
        face();
        source(Files.readString(Path.of("src/main/java/OvenNames.java")));
        noObjects();
        DUE.finish();
    }

    private static void face() throws Exception {
        Set<String> want = new TreeSet<>(Arrays.asList(FACE));
        Set<String> got = new TreeSet<>();
        for (Method method : OvenNames.class.getDeclaredMethods()) {
            if (!Modifier.isPrivate(method.getModifiers())) {
                got.add(method.getName() + " " + method.getParameterCount());
                boolean isBoolean = BOOLEANS.contains(method.getName());
                DUE.yes("1: kind of " + method, method.getReturnType() == (isBoolean ? boolean.class : int.class));
                DUE.yes("1: public " + method, method.toString().startsWith("public " + method.getReturnType()));
            } else {
                DUE.no("1: private like public " + method, want.toString().matches(".*\\b" + method.getName() + " .*"));
            }
        }
        DUE.yes("1: face " + got, got.equals(want));
        for (Member field : OvenNames.class.getDeclaredFields()) {
            DUE.yes("1: field " + field, Modifier.isPrivate(field.getModifiers()) || field.getName().equals("NONE"));
        }
        DUE.is("1: constructors", OvenNames.class.getDeclaredConstructors().length, 1);
        for (Class<?> each : OvenNames.class.getDeclaredClasses()) {
            DUE.yes("2: static " + each, Modifier.isStatic(each.getModifiers()));
            int fields = 0;
            for (Member field : each.getDeclaredFields()) {
                fields += Modifier.isStatic(field.getModifiers()) ? 0 : 1;
            }
            DUE.yes("11: fields of " + each, fields <= 20);
            for (Method method : each.getDeclaredMethods()) {
                DUE.yes("11: parameters of " + method, method.getParameterCount() <= 7);
                DUE.no("1: like a public one " + method, want.toString().matches(".*\\b" + method.getName() + " .*"));
            }
        }
        DUE.yes("11: classes", OvenNames.class.getDeclaredClasses().length + 1 <= 12);
    }

    private static void source(String source) {
        String bare = source.replaceAll("(?s)/\\*.*?\\*/", "").replaceAll("//[^\n]*", "");
        for (String word : FORBIDDEN) {
            String pattern = Character.isLetter(word.charAt(0)) ? "\\b" + Pattern.quote(word) : Pattern.quote(word);
            DUE.no("6: " + word, Pattern.compile(pattern).matcher(bare).find());
        }
        Matcher imports = Pattern.compile("import ([\\w.]+);").matcher(bare);
        while (imports.find()) {
            DUE.yes("4: import " + imports.group(1), imports.group(1).equals("java.util.Arrays"));
        }
        // methods begin 4 or 8 blanks deep, and end with a bracket as deep
        String[] lines = source.split("\n");
        for (int i = 0; i < lines.length; i++) {
            Matcher head = Pattern.compile("( {4}| {8})(?:\\w.*)?\\w+\\(.*\\) \\{").matcher(lines[i]);
            if (head.matches()) {
                int end = i;
                while (end < lines.length && !lines[end].equals(head.group(1) + "}")) {
                    end++;
                }
                DUE.yes("11: length of " + lines[i].trim(), end - i < 60);
            }
            DUE.yes("line " + (i + 1) + " is short", lines[i].length() <= 120);
        }
    }

    private static void noObjects() throws Exception {
        com.sun.management.ThreadMXBean counter =
                (com.sun.management.ThreadMXBean) ManagementFactory.getThreadMXBean();
        OvenNames x = new OvenNames();
        Random random = new Random(5);
        callAll(x, random);
        long before = counter.getThreadAllocatedBytes(Thread.currentThread().getId());
        int sum = 0;
        for (int i = 0; i < 20; i++) {
            sum += callAll(x, random);
        }
        long made = counter.getThreadAllocatedBytes(Thread.currentThread().getId()) - before;
        DUE.yes("12: bytes made by 20 rounds of calls: " + made, made < 2000 && sum != 77);
    }

    /** "soul a needs 1;soul b needs 2;deed c;loaf 9+c*heat;" and then every call once. */
    private static int callAll(OvenNames x, Random random) {
        x.end(0);
        x.feed(0x736f756c, 0x2061206e, 0x65656473, 0x20313b73, 0x6f756c20);
        x.feed(0x62206e65, 0x65647320, 0x323b6465, 0x65642063, 0x3b6c6f61);
        x.feed(0x6620392b, 0x632a6865, 0x61743b20, 0x20202020, 0x20202020);
        int sum = x.village() == 2 ? 0 : 1000000;
        DUE.is("village", sum, 0);
        int one = random.nextInt(2);
        sum += x.does(one, 0) + x.says(one, 1) + x.feud(0, 1) + x.bread() + x.feeds(1) + x.richest() + x.steady();
        sum += (x.undo() ? 1 : 0) + (x.redo() ? 1 : 0) + (x.stone() ? 1 : 0) + (x.isSteady() ? 1 : 0) + x.fed();
        sum += x.rest() + x.silent() + x.spoiler(0) + x.claims(1) + x.peace(1) + x.pairs() + x.alike() + x.makes(0, 9);
        sum += x.wants(0, 9, 1) + x.warm(0, 9) + x.will(0, 60) + x.odds(0, 6, 9, 1) + x.soonest(0, 99) + x.lies(0);
        sum += x.report(0, 0, 0, 9) + x.later(1) + x.fit(1) + x.sets(1) + x.sure(0, 1) + x.ask(0, 0, 0, 1);
        sum += x.course(0, 1) + (x.untell(0) ? 1 : 0) + x.image(0) + x.back(0) + x.about(0) + x.fault(0) + x.soul(0, 6);
        return sum;
    }
}
