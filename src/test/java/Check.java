import java.util.Arrays;
import java.util.HexFormat;

/** Counts and prints the answers of one test that are not as due. */
final class Check {
    private int wrong = 0;
    private int asked = 0;
    private int sentences = 0;
    private String part = "";

    void part(String title) {
        part = title;
    }

    /** A part that tests one sentence of the document. */
    void sentence(String where, String words) {
        part(where + ", \"" + words + "\"");
        sentences++;
    }

    void due(String what, long got, long want) {
        asked++;
        if (got != want) {
            tell(what, Long.toString(got), Long.toString(want));
        }
    }

    void due(String what, boolean got, boolean want) {
        due(what, got ? 1 : 0, want ? 1 : 0);
    }

    void due(String what, byte[] got, byte[] want) {
        asked++;
        if (!Arrays.equals(got, want)) {
            tell(what, HexFormat.of().formatHex(got), HexFormat.of().formatHex(want));
        }
    }

    void due(String what, String got, String want) {
        asked++;
        if (!got.equals(want)) {
            tell(what, got, want);
        }
    }

    private void tell(String what, String got, String want) {
        wrong++;
        System.out.println(part + ": " + what + " answered " + got + ", due is " + want);
    }

    int wrong() {
        return wrong;
    }

    void end() {
        System.out.println((sentences > 0 ? sentences + " sentences, " : "") + asked + " answers, " + wrong
                + " not as due");
        if (wrong != 0) {
            System.exit(1);
        }
    }
}
