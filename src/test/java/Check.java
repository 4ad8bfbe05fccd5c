/** What the tests share: answers that are due, told where they differ, and an exit code. */
final class Check {
    private final String name;
    private int wrong = 0;
    private int asked = 0;

    Check(String name) {
        this.name = name;
    }

    void due(String call, long got, long want) {
        asked++;
        if (got == want) return;
        wrong++;
        if (wrong <= 40) System.out.println(name + ": " + call + " answered " + got + ", due is " + want);
    }

    void yes(String what, boolean holds) {
        due(what, holds ? 1 : 0, 1);
    }

    void end() {
        System.out.println(name + ": " + asked + " asked, " + wrong + " wrong");
        if (wrong > 0 || asked == 0) System.exit(1);
    }

    /** Puts a text on the page, eight letters at a time; the last answer. */
    static int write(FieldOvens ovens, String text) {
        int answer = ovens.count(3);
        for (int i = 0; i < text.length(); i += 8) {
            answer = ovens.letters(packed(text.substring(i, Math.min(text.length(), i + 8))));
        }
        return answer;
    }

    static long packed(String letters) {
        long w = 0;
        for (int i = letters.length() - 1; i >= 0; i--) w = w << 8 | letters.charAt(i) & 255;
        return w;
    }

    static int land(FieldOvens ovens, String text) {
        write(ovens, text);
        return ovens.land();
    }

    static int march(FieldOvens ovens, String text) {
        write(ovens, text);
        return ovens.march();
    }

    static int told(FieldOvens ovens, String text) {
        write(ovens, text);
        return ovens.tell();
    }
}
