import java.io.IOException;
import java.io.UncheckedIOException;
import java.nio.file.Files;
import java.nio.file.Path;
import java.util.NoSuchElementException;

/** What the tests share: telling a text, naming what answered wrong, ending with 1 then. */
final class Check {
    private static int wrong;
    private static String document = "";
    private static String sentence = "";

    private Check() {
    }

    static void due(String call, long got, long want) {
        if (got != want) {
            tellWrong(call + " answered " + got + ", due is " + want);
        }
    }

    private static void tellWrong(String what) {
        wrong++;
        System.out.println(sentence.isEmpty() ? what : what + "  <" + sentence + ">");
    }

    /** What comes next tests this sentence, which must stand in the document to the letter. */
    static void about(String words) {
        if (document.isEmpty()) {
            try {
                document = Files.readString(Path.of("../shared/DOC.md"));
            } catch (IOException e) {
                throw new UncheckedIOException(e);
            }
        }
        sentence = words;
        due("the document says so", document.contains(words), true);
    }

    static void due(String call, boolean got, boolean want) {
        due(call, got ? 1 : 0, want ? 1 : 0);
    }

    static void end() {
        if (wrong != 0) {
            System.out.println(wrong + " answers are not as due");
            System.exit(1);
        }
        System.out.println("all answers are as due");
    }

    /** A new object to which a text without a FAULT is told. */
    static ShadowTwin told(String text) {
        ShadowTwin x = new ShadowTwin();
        if (tell(x, text) < 0) {
            due("text \"" + text + "\" has a fault at " + x.fault(1), x.fault(0), 0);
        }
        return x;
    }

    /** What a text's FAULT is, and its place. */
    static void fault(String text, int fault, int place) {
        ShadowTwin x = new ShadowTwin();
        int lines = tell(x, text);
        due("\"" + text + "\": fault(0)", x.fault(0), fault);
        due("\"" + text + "\": fault(1)", x.fault(1), place);
        due("\"" + text + "\" is refused", lines == -1, fault != 0);
    }

    static void fine(String text) {
        fault(text, 0, -1);
    }

    static int tell(ShadowTwin x, String text) {
        feed(x, text);
        return x.text(text.length());
    }

    static void feed(ShadowTwin x, String text) {
        for (int i = 0; i < text.length(); i += 20) {
            x.feed(four(text, i), four(text, i + 4), four(text, i + 8), four(text, i + 12), four(text, i + 16));
        }
    }

    private static int four(String text, int from) {
        int number = 0;
        for (int i = from; i < from + 4; i++) {
            number = number << 8 | (i < text.length() ? text.charAt(i) & 255 : ' ');
        }
        return number;
    }

    static int letters(String name) {
        int number = 0;
        for (int i = 0; i < 6; i++) {
            number = number << 5 | (i < name.length() ? name.charAt(i) - 'a' + 1 : 0);
        }
        return number;
    }

    /** The WAYS of a text's PLAN, and its WORTH. */
    static void plan(String text, int first, int second, int third, int fourth, int worth) {
        ShadowTwin x = told(text);
        int[] due = {first, second, third, fourth, worth};
        for (int what = 0; what < 5; what++) {
            due(text + ": plan(" + what + ")", x.plan(what), due[what]);
        }
    }

    /** What numbers are drawn from, one behind another. */
    static long nextNumber(long number) {
        return (number * 1103515245L + 12345L) % 2147483648L;
    }

    /** The very class counts: an exception of the machine's own is of another one. */
    static String thrown(ShadowTwin x, int doing, int what) {
        try {
            return String.valueOf(x.doing(doing, what));
        } catch (IndexOutOfBoundsException | NoSuchElementException e) {
            return e.getClass().getSimpleName();
        }
    }

    /** Whole states are compared by all that can be asked without changing anything. */
    static String all(ShadowTwin x) {
        StringBuilder s = new StringBuilder();
        for (int what = 0; what < 15; what++) {
            s.append(x.count(what)).append(' ');
        }
        for (int what = 0; what < 6; what++) {
            s.append(x.where(what)).append(' ');
            for (int i = 0; i < 4; i++) {
                s.append(x.man(i, what)).append(' ').append(x.lamp(i, what)).append(' ');
            }
        }
        for (int i = 0; i < x.count(1); i++) {
            for (int what = 0; what < 5; what++) {
                s.append(x.doing(i, what)).append(' ');
            }
        }
        for (int row = 0; row < 8; row++) {
            for (int column = 0; column < 8; column++) {
                s.append(x.wall(row, column)).append(' ');
            }
        }
        for (int what = 0; what < 3; what++) {
            s.append(x.law(what, 0)).append(' ');
        }
        s.append(x.clear(1, 0)).append(' ').append(x.clear(1, 1)).append(' ');
        return s.append(x.homes(0)).append(' ').append(x.homes(1)).toString();
    }

    static void same(String what, String got, String want) {
        if (!got.equals(want)) {
            tellWrong(what + ": " + got + ", due is " + want);
        }
    }
}
