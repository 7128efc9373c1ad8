import java.util.ArrayList;
import java.util.List;

/** A call on the class by its name, and the count of answers that are not due. */
final class Calls {
    private static final int SECONDS = 300;
    static final String[] NAMES = {"town", "street", "event", "back", "law", "undo", "rent", "type", "clear", "read",
        "of", "name", "changes", "which", "letter", "cab", "find", "stage", "forbid", "rents", "landlords", "round",
        "reading", "burn", "truly", "drawn", "image", "from", "status", "count", "digest"};
    static final int[] TAKES = {1, 4, 6, 1, 1, 0, 2, 1, 0, 0,
        2, 2, 1, 3, 3, 3, 2, 4, 1, 1, 4, 2,
        3, 0, 1, 3, 1, 1, 1, 1, 0};

    private static int right = 0;
    private static int wrong = 0;
    private static String part = "";
    private static int rightAhead = 0;
    private static int wrongAhead = 0;
    private static final List<String> parts = new ArrayList<>();

    static {
        endOnceTooLong();
    }

    private Calls() {
    }

    /** A call that does not end fails its test, too. */
    private static void endOnceTooLong() {
        Thread guard = new Thread(() -> {
            try {
                Thread.sleep(1000L * SECONDS);
            } catch (InterruptedException e) {
                return;
            }
            System.out.println("a call did not end: " + part);
            System.out.flush();
            Runtime.getRuntime().halt(1);
        });
        guard.setDaemon(true);
        guard.start();
    }

    /** What of the document the answers that follow are held against; each part is printed at the end. */
    static void part(String sentence) {
        endPart();
        part = sentence;
    }

    private static void endPart() {
        if (!part.isEmpty()) {
            String failed = wrong > wrongAhead ? ", " + (wrong - wrongAhead) + " NOT" : "";
            parts.add(part + ": " + (right - rightAhead) + failed);
        }
        rightAhead = right;
        wrongAhead = wrong;
        part = "";
    }

    static void due(String call, long got, long want) {
        if (got == want) {
            right++;
            return;
        }
        wrong++;
        if (wrong <= 40) {
            String at = part.isEmpty() ? "" : " (" + part + ")";
            System.out.println(call + " answered " + got + ", due is " + want + at);
        }
    }

    static int wrong() {
        return wrong;
    }

    static void finish(String what) {
        endPart();
        for (String each : parts) {
            System.out.println("          " + each);
        }
        System.out.println("        " + what + ": " + right + " answers as due, " + wrong + " not");
        System.exit(wrong == 0 ? 0 : 1);
    }

    static long call(LastHappened x, String name, int... v) {
        switch (name) {
            case "town": return x.town(v[0]);
            case "street": return x.street(v[0], v[1], v[2], v[3]);
            case "event": return x.event(v[0], v[1], v[2], v[3], v[4], v[5]);
            case "back": return x.back(v[0]);
            case "law": return x.law(v[0]);
            case "undo": return x.undo();
            case "rent": return x.rent(v[0], v[1]);
            case "type": return x.type(v[0]);
            case "clear": return x.clear();
            case "read": return x.read();
            case "of": return x.of(v[0], v[1]);
            case "name": return x.name(v[0], v[1]);
            case "changes": return x.changes(v[0]);
            case "which": return x.which(v[0], v[1], v[2]);
            case "letter": return x.letter(v[0], v[1], v[2]);
            case "cab": return x.cab(v[0], v[1], v[2]);
            case "find": return x.find(v[0], v[1]);
            case "stage": return x.stage(v[0], v[1], v[2], v[3]);
            case "forbid": return x.forbid(v[0]);
            case "rents": return x.rents(v[0]);
            case "landlords": return x.landlords(v[0], v[1], v[2], v[3]);
            case "round": return x.round(v[0], v[1]);
            case "reading": return x.reading(v[0], v[1], v[2]);
            case "burn": return x.burn();
            case "truly": return x.truly(v[0]);
            case "drawn": return x.drawn(v[0], v[1], v[2]);
            case "image": return x.image(v[0]);
            case "from": return x.from(v[0]);
            case "status": return x.status(v[0]);
            case "count": return x.count(v[0]);
            case "digest": return x.digest();
            default: throw new IllegalArgumentException(name);
        }
    }

    /** Types a text behind what is there. */
    static void type(LastHappened x, String text) {
        for (int i = 0; i < text.length(); i++) {
            x.type(text.charAt(i));
        }
    }

    /** What read() answers to a text alone. */
    static int read(LastHappened x, String text) {
        x.clear();
        type(x, text);
        return x.read();
    }
}
