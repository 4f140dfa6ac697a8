import java.util.Random;

/** Many texts by a seed, good and spoilt: the FAULT and its place held against the Model's reading. */
final class TextTest {
    private TextTest() {
    }

    public static void main(String[] args) {
        Checks checks = new Checks();
        int many = args.length > 0 ? Integer.parseInt(args[0]) : 40000;
        Texts texts = new Texts(new Random(99));
        int[] found = new int[6];
        for (int i = 0; i < many; i++) {
            String text = i % 10 == 0 ? texts.good() : texts.spoilt();
            ModelText read = new ModelText(text);
            WatchLots lots = new WatchLots();
            int fault = Checks.tell(lots, text);
            found[fault]++;
            checks.due("text " + text, read.fault + " at " + read.faultPlace, fault + " at " + lots.fault());
        }
        for (int fault = 0; fault < found.length; fault++) {
            checks.due("enough texts with the FAULT " + fault, true, found[fault] > many / 1000);
        }
        checks.end();
    }
}
