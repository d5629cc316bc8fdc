import java.nio.charset.StandardCharsets;
import java.util.NoSuchElementException;

/** What the tests share: sentences of the document, answers held against those that are due, texts fed as longs. */
final class Check {
    private static int done = 0;
    private static int wrong = 0;
    private static int sentences = 0;
    private static int doneBefore = 0;
    private static String sentence = "";

    private Check() {
    }

    /** The answers that follow, up to the next sentence, are what this sentence of a promise asks for. */
    static void says(int promise, String words) {
        endSentence();
        sentences++;
        sentence = "promise " + promise + ", \"" + words + "\": ";
        doneBefore = done;
        if (!Document.says(promise, words)) {
            blame("it is not in the document");
        }
    }

    private static void endSentence() {
        if (!sentence.isEmpty() && done == doneBefore) {
            blame("nothing was tested");
        }
        sentence = "";
    }

    private static void blame(String what) {
        wrong++;
        System.out.println(sentence + what);
    }

    static void due(String call, long got, long want) {
        done++;
        if (got != want) {
            blame(call + " answered " + got + ", due is " + want);
        }
    }

    static void due(String call, boolean got, boolean want) {
        due(call, got ? 1 : 0, want ? 1 : 0);
    }

    static void turnThrows(EvenFerry ferry, int person, int minute) {
        boolean thrown = false;
        try {
            ferry.turn(person, minute);
        } catch (NoSuchElementException e) {
            thrown = true;
        }
        due("turn(" + person + ", " + minute + ") throws", thrown, true);
    }

    /** The eight signs of a text from a place on, 0 behind its end. */
    static long eight(byte[] text, int from) {
        long word = 0;
        for (int i = from; i < from + 8; i++) {
            word = word << 8 | (i < text.length ? text[i] & 255 : 0);
        }
        return word;
    }

    static int feed(EvenFerry ferry, String text) {
        byte[] bytes = text.getBytes(StandardCharsets.ISO_8859_1);
        int length = 0;
        for (int i = 0; i < Math.max(1, bytes.length); i += 24) {
            length = ferry.feed(eight(bytes, i), eight(bytes, i + 8), eight(bytes, i + 16));
        }
        return length;
    }

    static int read(EvenFerry ferry, String text) {
        feed(ferry, text);
        return ferry.river();
    }

    /** A new ferry on the river that a right text tells. */
    static EvenFerry ferry(String text) {
        EvenFerry ferry = new EvenFerry();
        due("river() of '" + text + "'", read(ferry, text), 0);
        return ferry;
    }

    static void fault(String text, int kind, int place) {
        due("river() of '" + text + "'", read(new EvenFerry(), text), kind + 16 * place);
    }

    static void counts(EvenFerry ferry, int... due) {
        for (int what = 0; what < due.length; what++) {
            due("count(" + what + ")", ferry.count(what), due[what]);
        }
    }

    static void end() {
        endSentence();
        System.out.println(sentences + " sentences, " + done + " answers, " + wrong + " not as due");
        if (wrong != 0 || done == 0) {
            System.exit(1);
        }
    }
}
