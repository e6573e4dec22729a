import java.io.IOException;
import java.nio.file.Files;
import java.nio.file.Path;
import java.util.regex.Matcher;
import java.util.regex.Pattern;

/** README.md's own words: its example answers as it says, and its table tells every call. */
public final class ReadmeTest {
    private static final Pattern CALL = Pattern.compile("`(\\w+)\\(");
    private static final Pattern STEP = Pattern.compile("(?m)^x\\.(\\w+)\\(([^)]*)\\);\\s+// (-?\\d+)");

    private static int[] numbers(String text) {
        String[] parts = text.isEmpty() ? new String[0] : text.split(", ");
        int[] numbers = new int[parts.length];
        for (int i = 0; i < parts.length; i++) {
            numbers[i] = Integer.parseInt(parts[i]);
        }
        return numbers;
    }

    private static int answer(HangsAtLowWater x, String call, int[] a) {
        switch (call) {
            case "quay": return x.quay();
            case "hours": return x.hours(a[0], a[1]);
            case "length": return x.length(a[0], a[1]);
            case "pay": return x.pay(a[0], a[1]);
            case "tide": return x.tide(a[0]);
            case "count": return x.count(a[0]);
            default: throw new IllegalStateException("the example has a call that this test does not know: " + call);
        }
    }

    private static void checkExample(String text) {
        HangsAtLowWater x = new HangsAtLowWater();
        int fed = text.indexOf("for (char letter : \"") + "for (char letter : \"".length();
        Check.feed(x, text.substring(fed, text.indexOf('"', fed)));
        Matcher steps = STEP.matcher(text);
        int many = 0;
        while (steps.find()) {
            Check.due("README's " + steps.group(), answer(x, steps.group(1), numbers(steps.group(2))),
                    Integer.parseInt(steps.group(3)));
            many++;
        }
        Check.due("README's steps", many, 7);
    }

    private static void checkTable(String text) {
        StringBuilder told = new StringBuilder(" ");
        Matcher calls = CALL.matcher(text.substring(text.indexOf("### The calls"), text.indexOf("### What a refused")));
        while (calls.find()) {
            told.append(calls.group(1)).append(' ');
        }
        for (java.lang.reflect.Method m : HangsAtLowWater.class.getMethods()) {
            if (m.getDeclaringClass() == HangsAtLowWater.class) {
                Check.due("README tells of " + m.getName(), told.indexOf(" " + m.getName() + " ") >= 0 ? 1 : 0, 1);
            }
        }
    }

    /** What is no refusal: a FAULT and an answer -9. */
    private static void checkNoRefusals() {
        HangsAtLowWater x = Check.told("r2040;b0000201020;");
        Check.due("a FAULT of kind 1", Check.quay(x, "r2"), -1002);
        Check.due("a FAULT of kind 2", Check.quay(x, "r2061;"), -2000);
        Check.due("mud of none", x.mud(40, 0), -9);
        Check.due("count of another", x.count(18), -9);
        Check.due("judge of an empty ROW", x.judge(0), -9);
        for (int number = 11; number <= 16; number++) {
            Check.due("count(" + number + ") behind no refusal", x.count(number), 0);
        }
    }

    public static void main(String[] arguments) throws IOException {
        String text = Files.readString(Path.of("README.md"));
        checkExample(text);
        checkTable(text);
        checkNoRefusals();
        Check.finish();
    }
}
